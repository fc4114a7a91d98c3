set_option maxRecDepth 20000 in
set_option maxHeartbeats 4000000 in
theorem w_X9_init {E : zE} {a0 : Nat} {S : zS} {Q : zS → Prop} {X : String → zS → Prop} (h : p_X9_init E a0 S Q X) : zM E yX9_init cX9_init 1 none ({ frames := 4, cells := 3, slots := 263, locals := 72 } : Room) [.ref a0] S (qV Q) X := by
  unfold p_X9_init at h
  refine zM_of RX9 true (by decide) rfl (fun h => rfl) (Nat.le_of_ble_eq_true rfl) ?_
  refine z_aload_n 0 dX9_init_0 rfl rfl ?_
  refine z_objInit zw_113 (Nat.le_of_ble_eq_true rfl) (Nat.le_of_ble_eq_true rfl) dX9_init_1 ?_
  refine z_aload_n 0 dX9_init_4 rfl rfl ?_
  refine z_iconst (v := (-1)) dX9_init_5 rfl ?_
  obtain ⟨hf1, h⟩ := h
  have h := h _ rfl
  refine z_putV (c := 9) (j := 0) (ty0 := tyX9) (S' := sI S 900 a0 (-1)) hf1.1 hf1.2 (Nat.le_of_ble_eq_true rfl) rfl zU_X9 tyX9_ok nmX9 (Nat.le_of_ble_eq_true rfl) (Nat.le_of_ble_eq_true rfl) ⟨_, zw_116, Or.inl rfl⟩ (.inl rfl) rfl rfl rfl (zUpI (v := (-1)) hf1.2 (Nat.le_of_ble_eq_true rfl) (Nat.le_of_ble_eq_true rfl) rfl rfl) dX9_init_6 ?_
  obtain ⟨S2, hS3⟩ : ∃ z, z = sI S 900 a0 (-1) := ⟨_, rfl⟩
  rw [← hS3] at h ⊢
  have hf1 : a0 ∈ gL S2 ∧ gK S2 a0 = 9 := by rw [hS3]; exact hf1
  refine z_aload_n 0 dX9_init_9 rfl rfl ?_
  refine z_iconst (v := (-1)) dX9_init_10 rfl ?_
  have h := h _ rfl
  refine z_putV (c := 9) (j := 3) (ty0 := tyX9) (S' := sI S2 903 a0 (-1)) hf1.1 hf1.2 (Nat.le_of_ble_eq_true rfl) rfl zU_X9 tyX9_ok nmX9 (Nat.le_of_ble_eq_true rfl) (Nat.le_of_ble_eq_true rfl) ⟨_, zw_126, Or.inl rfl⟩ (.inl rfl) rfl rfl rfl (zUpI (v := (-1)) hf1.2 (Nat.le_of_ble_eq_true rfl) (Nat.le_of_ble_eq_true rfl) rfl rfl) dX9_init_11 ?_
  obtain ⟨S4, hS5⟩ : ∃ z, z = sI S2 903 a0 (-1) := ⟨_, rfl⟩
  rw [← hS5] at h ⊢
  have hf1 : a0 ∈ gL S4 ∧ gK S4 a0 = 9 := by rw [hS5]; exact hf1
  refine z_aload_n 0 dX9_init_14 rfl rfl ?_
  refine z_iconst (v := (-1)) dX9_init_15 rfl ?_
  have h := h _ rfl
  refine z_putV (c := 9) (j := 4) (ty0 := tyX9) (S' := sI S4 904 a0 (-1)) hf1.1 hf1.2 (Nat.le_of_ble_eq_true rfl) rfl zU_X9 tyX9_ok nmX9 (Nat.le_of_ble_eq_true rfl) (Nat.le_of_ble_eq_true rfl) ⟨_, zw_129, Or.inl rfl⟩ (.inl rfl) rfl rfl rfl (zUpI (v := (-1)) hf1.2 (Nat.le_of_ble_eq_true rfl) (Nat.le_of_ble_eq_true rfl) rfl rfl) dX9_init_16 ?_
  obtain ⟨S6, hS7⟩ : ∃ z, z = sI S4 904 a0 (-1) := ⟨_, rfl⟩
  rw [← hS7] at h ⊢
  have hf1 : a0 ∈ gL S6 ∧ gK S6 a0 = 9 := by rw [hS7]; exact hf1
  refine z_aload_n 0 dX9_init_19 rfl rfl ?_
  refine z_new (c := 0) (ty0 := tyJx4a65c) (Nat.le_of_ble_eq_true rfl) rfl zU_Jx4a65c tyJx4a65c_ok z0_Jx4a65c zw_114 zw_66 zw_33 (Nat.le_of_ble_eq_true rfl) (Nat.le_of_ble_eq_true rfl) dX9_init_20 (fun q8 hq9 => ?_)
  have h := h q8 hq9 _ rfl
  obtain ⟨S10, hS11⟩ : ∃ z, z = nO S6 q8 0 := ⟨_, rfl⟩
  rw [← hS11] at h ⊢
  refine z_widen (k' := 1) (n' := 3) (Nat.le_refl _) (Nat.le_refl _) ?_
  refine z_dup dX9_init_23 rfl ?_
  refine z_callIV (st := [.ref q8, .ref a0]) (w_Jx4a65c_init_da8c8 h) zw_69 zw_115 zw_68 zw_33 rfl zy_Jx4a65c_init_da8c8 rfl rfl ⟨Nat.le_of_ble_eq_true rfl, Nat.le_of_ble_eq_true rfl⟩ ⟨(Nat.le_of_ble_eq_true rfl), (Nat.le_of_ble_eq_true rfl)⟩ (Nat.le_of_ble_eq_true rfl) dX9_init_24 (fun _ _ hx => hx.elim) (fun S12 h => ?_)
  refine z_widen (k' := 1) (n' := 3) (Nat.le_refl _) (Nat.le_refl _) ?_
  obtain ⟨hf14, h⟩ := h
  have h := h _ rfl
  refine z_putV (c := 9) (j := 6) (ty0 := tyX9) (S' := sR S12 906 a0 (some q8)) hf14.1 hf14.2 (Nat.le_of_ble_eq_true rfl) rfl zU_X9 tyX9_ok nmX9 (Nat.le_of_ble_eq_true rfl) (Nat.le_of_ble_eq_true rfl) ⟨_, zw_133, Or.inl rfl⟩ (.inr ⟨rfl, rfl⟩) (zrefn (ty := tyX9 6) (o := (some q8)) (by decide)) (zreff (ty := tyX9 6) (o := (some q8)) (by decide)) rfl (zUpR (v := (some q8)) hf14.2 (Nat.le_of_ble_eq_true rfl) (Nat.le_of_ble_eq_true rfl) rfl rfl) dX9_init_27 ?_
  obtain ⟨S15, hS16⟩ : ∃ z, z = sR S12 906 a0 (some q8) := ⟨_, rfl⟩
  rw [← hS16] at h ⊢
  have hf14 : a0 ∈ gL S15 ∧ gK S15 a0 = 9 := by rw [hS16]; exact hf14
  refine z_aload_n 0 dX9_init_30 rfl rfl ?_
  refine z_bipush (v := 20) dX9_init_31 rfl ?_
  refine z_newa (c := 12) (N := 20) (.inl ⟨rfl, rfl⟩) zw_101 rfl (Nat.le_of_ble_eq_true rfl) (Nat.le_of_ble_eq_true rfl) (Nat.le_of_ble_eq_true rfl) dX9_init_33 (fun q17 hq18 => ?_)
  have h := h q17 hq18 _ rfl
  obtain ⟨S19, hS20⟩ : ∃ z, z = nA S15 q17 12 20 := ⟨_, rfl⟩
  rw [← hS20] at h ⊢
  refine z_widen (k' := 2) (n' := 23) (Nat.le_refl _) (Nat.le_refl _) ?_
  obtain ⟨hf23, h⟩ := h
  have h := h _ rfl
  refine z_putV (c := 9) (j := 7) (ty0 := tyX9) (S' := sR S19 907 a0 (some q17)) hf23.1 hf23.2 (Nat.le_of_ble_eq_true rfl) rfl zU_X9 tyX9_ok nmX9 (Nat.le_of_ble_eq_true rfl) (Nat.le_of_ble_eq_true rfl) ⟨_, zw_135, Or.inl rfl⟩ (.inr ⟨rfl, rfl⟩) (zrefn (ty := tyX9 7) (o := (some q17)) (by decide)) (zreff (ty := tyX9 7) (o := (some q17)) (by decide)) rfl (zUpR (v := (some q17)) hf23.2 (Nat.le_of_ble_eq_true rfl) (Nat.le_of_ble_eq_true rfl) rfl rfl) dX9_init_35 ?_
  obtain ⟨S24, hS25⟩ : ∃ z, z = sR S19 907 a0 (some q17) := ⟨_, rfl⟩
  rw [← hS25] at h ⊢
  have hf23 : a0 ∈ gL S24 ∧ gK S24 a0 = 9 := by rw [hS25]; exact hf23
  refine z_aload_n 0 dX9_init_38 rfl rfl ?_
  refine z_sipush (v := 240) dX9_init_39 rfl ?_
  refine z_newa (c := 12) (N := 240) (.inl ⟨rfl, rfl⟩) zw_101 rfl (Nat.le_of_ble_eq_true rfl) (Nat.le_of_ble_eq_true rfl) (Nat.le_of_ble_eq_true rfl) dX9_init_42 (fun q26 hq27 => ?_)
  have h := h q26 hq27 _ rfl
  obtain ⟨S28, hS29⟩ : ∃ z, z = nA S24 q26 12 240 := ⟨_, rfl⟩
  rw [← hS29] at h ⊢
  refine z_widen (k' := 3) (n' := 263) (Nat.le_refl _) (Nat.le_refl _) ?_
  obtain ⟨hf32, h⟩ := h
  have h := h _ rfl
  refine z_putV (c := 9) (j := 8) (ty0 := tyX9) (S' := sR S28 908 a0 (some q26)) hf32.1 hf32.2 (Nat.le_of_ble_eq_true rfl) rfl zU_X9 tyX9_ok nmX9 (Nat.le_of_ble_eq_true rfl) (Nat.le_of_ble_eq_true rfl) ⟨_, zw_138, Or.inl rfl⟩ (.inr ⟨rfl, rfl⟩) (zrefn (ty := tyX9 8) (o := (some q26)) (by decide)) (zreff (ty := tyX9 8) (o := (some q26)) (by decide)) rfl (zUpR (v := (some q26)) hf32.2 (Nat.le_of_ble_eq_true rfl) (Nat.le_of_ble_eq_true rfl) rfl rfl) dX9_init_44 ?_
  obtain ⟨S33, hS34⟩ : ∃ z, z = sR S28 908 a0 (some q26) := ⟨_, rfl⟩
  rw [← hS34] at h ⊢
  have hf32 : a0 ∈ gL S33 ∧ gK S33 a0 = 9 := by rw [hS34]; exact hf32
  exact z_return ⟨rfl, rfl, h⟩ rfl (Nat.le_of_ble_eq_true rfl) (Nat.le_of_ble_eq_true rfl) dX9_init_47
set_option maxRecDepth 20000 in
set_option maxHeartbeats 4000000 in
theorem w_X2_init {E : zE} {a0 : Nat} {a1 : Nat} {S : zS} {Q : zS → Prop} {X : String → zS → Prop} (h : p_X2_init E a0 a1 S Q X) : zM E yX2_init cX2_init 2 none ({ frames := 5, cells := 4, slots := 272, locals := 92 } : Room) [.ref a0, .ref a1] S (qV Q) X := by
  unfold p_X2_init at h
  refine zM_of RX2 true (by decide) rfl (fun h => rfl) (Nat.le_of_ble_eq_true rfl) ?_
  refine z_aload_n 0 dX2_init_0 rfl rfl ?_
  refine z_objInit zw_107 (Nat.le_of_ble_eq_true rfl) (Nat.le_of_ble_eq_true rfl) dX2_init_1 ?_
  refine z_aload_n 0 dX2_init_4 rfl rfl ?_
  refine z_aload_n 1 dX2_init_5 rfl rfl ?_
  obtain ⟨hf1, h⟩ := h
  have h := h _ rfl
  refine z_putV (c := 3) (j := 0) (ty0 := tyX2) (S' := sR S 300 a0 (some a1)) hf1.1 hf1.2 (Nat.le_of_ble_eq_true rfl) rfl zU_X2 tyX2_ok nmX2 (Nat.le_of_ble_eq_true rfl) (Nat.le_of_ble_eq_true rfl) ⟨_, zw_160, Or.inl rfl⟩ (.inr ⟨rfl, rfl⟩) (zrefn (ty := tyX2 0) (o := (some a1)) (by decide)) (zreff (ty := tyX2 0) (o := (some a1)) (by decide)) rfl (zUpR (v := (some a1)) hf1.2 (Nat.le_of_ble_eq_true rfl) (Nat.le_of_ble_eq_true rfl) rfl rfl) dX2_init_6 ?_
  obtain ⟨S2, hS3⟩ : ∃ z, z = sR S 300 a0 (some a1) := ⟨_, rfl⟩
  rw [← hS3] at h ⊢
  have hf1 : a0 ∈ gL S2 ∧ gK S2 a0 = 3 := by rw [hS3]; exact hf1
  refine z_aload_n 0 dX2_init_9 rfl rfl ?_
  refine z_new (c := 9) (ty0 := tyX9) (Nat.le_of_ble_eq_true rfl) rfl zU_X9 tyX9_ok z0_X9 zw_108 zw_109 zw_36 (Nat.le_of_ble_eq_true rfl) (Nat.le_of_ble_eq_true rfl) dX2_init_10 (fun q4 hq5 => ?_)
  have h := h q4 hq5 _ rfl
  obtain ⟨S6, hS7⟩ : ∃ z, z = nO S2 q4 9 := ⟨_, rfl⟩
  rw [← hS7] at h ⊢
  refine z_widen (k' := 1) (n' := 9) (Nat.le_refl _) (Nat.le_refl _) ?_
  refine z_dup dX2_init_13 rfl ?_
  refine z_callIV (st := [.ref q4, .ref a0]) (w_X9_init h) zw_112 zw_110 zw_111 zw_36 rfl zy_X9_init rfl rfl ⟨Nat.le_of_ble_eq_true rfl, Nat.le_of_ble_eq_true rfl⟩ ⟨(Nat.le_of_ble_eq_true rfl), (Nat.le_of_ble_eq_true rfl)⟩ (Nat.le_of_ble_eq_true rfl) dX2_init_14 (fun _ _ hx => hx.elim) (fun S8 h => ?_)
  refine z_widen (k' := 4) (n' := 272) (Nat.le_refl _) (Nat.le_refl _) ?_
  obtain ⟨hf10, h⟩ := h
  have h := h _ rfl
  refine z_putV (c := 3) (j := 1) (ty0 := tyX2) (S' := sR S8 301 a0 (some q4)) hf10.1 hf10.2 (Nat.le_of_ble_eq_true rfl) rfl zU_X2 tyX2_ok nmX2 (Nat.le_of_ble_eq_true rfl) (Nat.le_of_ble_eq_true rfl) ⟨_, zw_161, Or.inl rfl⟩ (.inl rfl) (zrefn (ty := tyX2 1) (o := (some q4)) (by decide)) (zreff (ty := tyX2 1) (o := (some q4)) (by decide)) rfl (zUpR (v := (some q4)) hf10.2 (Nat.le_of_ble_eq_true rfl) (Nat.le_of_ble_eq_true rfl) rfl rfl) dX2_init_17 ?_
  obtain ⟨S11, hS12⟩ : ∃ z, z = sR S8 301 a0 (some q4) := ⟨_, rfl⟩
  rw [← hS12] at h ⊢
  have hf10 : a0 ∈ gL S11 ∧ gK S11 a0 = 3 := by rw [hS12]; exact hf10
  exact z_return ⟨rfl, rfl, h⟩ rfl (Nat.le_of_ble_eq_true rfl) (Nat.le_of_ble_eq_true rfl) dX2_init_20
set_option maxRecDepth 20000 in
set_option maxHeartbeats 4000000 in
theorem w_X9_clear {E : zE} {a0 : Nat} {S : zS} {Q : zS → Prop} {X : String → zS → Prop} (h : p_X9_clear E a0 S Q X) : zM E yX9_clear cX9_clear 1 none ({ frames := 1, cells := 0, slots := 0, locals := 23 } : Room) [.ref a0] S (qV Q) X := by
  unfold p_X9_clear at h
  refine zM_of RX9 false (by decide) rfl (fun h => by cases h) (Nat.le_of_ble_eq_true rfl) ?_
  refine z_aload_n 0 dX9_clear_0 rfl rfl ?_
  obtain ⟨hf1, h⟩ := h
  refine z_getQ (c := 9) (j := 6) (f := 906) hf1.1 hf1.2 (Nat.le_of_ble_eq_true rfl) rfl zU_X9 (Nat.le_of_ble_eq_true rfl) (Nat.le_of_ble_eq_true rfl) ⟨_, zw_133, Or.inl rfl⟩ rfl rfl dX9_clear_1 ?_
  obtain ⟨b2, hb3, h⟩ := h
  rw [show va_rf (gR S 906 a0) = Value.ref b2 from by rw [hb3]; rfl]
  obtain ⟨hf6, h⟩ := h
  refine z_callVV (ci := 0) (st := []) (w_Jx4a65c_clear_da8c8 h) hf6.1 hf6.2 (Nat.le_of_ble_eq_true rfl) rfl zw_751 zw_748 zw_749 zw_750 zw_33 zy_Jx4a65c_clear_da8c8 rfl rfl ⟨Nat.le_of_ble_eq_true rfl, Nat.le_of_ble_eq_true rfl⟩ ⟨(Nat.le_of_ble_eq_true rfl), (Nat.le_of_ble_eq_true rfl)⟩ (Nat.le_of_ble_eq_true rfl) dX9_clear_4 (fun _ _ hx => hx.elim) (fun S4 h => ?_)
  refine z_widen (k' := 0) (n' := 0) (Nat.le_refl _) (Nat.le_refl _) ?_
  exact z_return ⟨rfl, rfl, h⟩ rfl (Nat.le_of_ble_eq_true rfl) (Nat.le_of_ble_eq_true rfl) dX9_clear_7
set_option maxRecDepth 20000 in
set_option maxHeartbeats 4000000 in
theorem w_X9_addLead {E : zE} {a0 : Nat} {a1 : Nat} {l2 : Int32} {S : zS} {Q : zS → Prop} {X : String → zS → Prop} (h : p_X9_addLead E a0 a1 l2 S Q X) : zM E yX9_addLead cX9_addLead 3 none ({ frames := 7, cells := 1, slots := 22, locals := 171 } : Room) [.ref a0, .ref a1, .int l2] S (qV Q) X := by
  unfold p_X9_addLead at h
  refine zM_of RX9 false (by decide) rfl (fun h => by cases h) (Nat.le_of_ble_eq_true rfl) ?_
  refine z_aload_n 0 dX9_addLead_0 rfl rfl ?_
  refine z_aload_n 1 dX9_addLead_1 rfl rfl ?_
  obtain ⟨hf1, h⟩ := h
  refine z_getI (c := 5) (j := 1) (f := 501) hf1.1 hf1.2 (Nat.le_of_ble_eq_true rfl) rfl zU_X4 (Nat.le_of_ble_eq_true rfl) (Nat.le_of_ble_eq_true rfl) ⟨_, zw_480, Or.inl rfl⟩ rfl rfl dX9_addLead_2 ?_
  obtain ⟨hf2, h⟩ := h
  have h := h _ rfl
  refine z_putV (c := 9) (j := 1) (ty0 := tyX9) (S' := sI S 901 a0 (gI S 501 a1)) hf2.1 hf2.2 (Nat.le_of_ble_eq_true rfl) rfl zU_X9 tyX9_ok nmX9 (Nat.le_of_ble_eq_true rfl) (Nat.le_of_ble_eq_true rfl) ⟨_, zw_118, Or.inl rfl⟩ (.inl rfl) rfl rfl rfl (zUpI (v := (gI S 501 a1)) hf2.2 (Nat.le_of_ble_eq_true rfl) (Nat.le_of_ble_eq_true rfl) rfl rfl) dX9_addLead_5 ?_
  obtain ⟨S3, hS4⟩ : ∃ z, z = sI S 901 a0 (gI S 501 a1) := ⟨_, rfl⟩
  rw [← hS4] at h ⊢
  have hf2 : a0 ∈ gL S3 ∧ gK S3 a0 = 9 := by rw [hS4]; exact hf2
  have hf1 : a1 ∈ gL S3 ∧ gK S3 a1 = 5 := by rw [hS4]; exact hf1
  refine z_aload_n 0 dX9_addLead_8 rfl rfl ?_
  refine z_getQ (c := 9) (j := 7) (f := 907) hf2.1 hf2.2 (Nat.le_of_ble_eq_true rfl) rfl zU_X9 (Nat.le_of_ble_eq_true rfl) (Nat.le_of_ble_eq_true rfl) ⟨_, zw_135, Or.inl rfl⟩ rfl rfl dX9_addLead_9 ?_
  refine z_aload_n 0 dX9_addLead_12 rfl rfl ?_
  refine z_getQ (c := 9) (j := 6) (f := 906) hf2.1 hf2.2 (Nat.le_of_ble_eq_true rfl) rfl zU_X9 (Nat.le_of_ble_eq_true rfl) (Nat.le_of_ble_eq_true rfl) ⟨_, zw_133, Or.inl rfl⟩ rfl rfl dX9_addLead_13 ?_
  obtain ⟨b5, hb6, h⟩ := h
  rw [show va_rf (gR S3 906 a0) = Value.ref b5 from by rw [hb6]; rfl]
  obtain ⟨hf23, h⟩ := h
  refine z_callVI (ci := 0) (st := [va_rf (gR S3 907 a0)]) (w_Jx4a65c_size_8abf5 h) hf23.1 hf23.2 (Nat.le_of_ble_eq_true rfl) rfl zw_423 zw_648 zw_421 zw_422 zw_33 zy_Jx4a65c_size_8abf5 rfl rfl ⟨Nat.le_of_ble_eq_true rfl, Nat.le_of_ble_eq_true rfl⟩ ⟨(Nat.le_of_ble_eq_true rfl), (Nat.le_of_ble_eq_true rfl)⟩ (by generalize (gR S3 907 a0) = z9; cases z9 <;> exact (Nat.le_of_ble_eq_true rfl)) dX9_addLead_16 (fun _ _ hx => hx.elim) (fun r8 S7 h => ?_)
  refine z_widen (k' := 0) (n' := 0) (Nat.le_refl _) (Nat.le_refl _) ?_
  refine z_iload_n 2 dX9_addLead_19 rfl rfl ?_
  obtain ⟨b9, hb10, h⟩ := h
  rw [show va_rf (gR S3 907 a0) = Value.ref b9 from by rw [hb10]; rfl]
  obtain ⟨hf11, h⟩ := h
  obtain ⟨j12, hj13, h⟩ := h
  have h := h _ rfl
  refine z_iast (j := j12) hf11.1 hf11.2 hj13.1 hj13.2.1 hj13.2.2 dX9_addLead_20 ?_
  obtain ⟨S14, hS15⟩ : ∃ z, z = sA S7 b9 j12 l2 := ⟨_, rfl⟩
  rw [← hS15] at h ⊢
  have hf11 : b9 ∈ gL S14 ∧ gK S14 b9 = 12 := by rw [hS15]; exact hf11
  refine z_aload_n 0 dX9_addLead_21 rfl rfl ?_
  obtain ⟨hf16, h⟩ := h
  refine z_getQ (c := 9) (j := 6) (f := 906) hf16.1 hf16.2 (Nat.le_of_ble_eq_true rfl) rfl zU_X9 (Nat.le_of_ble_eq_true rfl) (Nat.le_of_ble_eq_true rfl) ⟨_, zw_133, Or.inl rfl⟩ rfl rfl dX9_addLead_22 ?_
  refine z_aload_n 1 dX9_addLead_25 rfl rfl ?_
  obtain ⟨b17, hb18, h⟩ := h
  rw [show va_rf (gR S14 906 a0) = Value.ref b17 from by rw [hb18]; rfl]
  obtain ⟨hf21, h⟩ := h
  refine z_callVI (ci := 0) (st := []) (w_Jx4a65c_add_9ea2d h) hf21.1 hf21.2 (Nat.le_of_ble_eq_true rfl) rfl zw_508 zw_723 zw_506 zw_507 zw_33 zy_Jx4a65c_add_9ea2d rfl rfl ⟨Nat.le_of_ble_eq_true rfl, Nat.le_of_ble_eq_true rfl⟩ ⟨(Nat.le_of_ble_eq_true rfl), (Nat.le_of_ble_eq_true rfl)⟩ (Nat.le_of_ble_eq_true rfl) dX9_addLead_26 (fun _ _ hx => hx.elim) (fun r20 S19 h => ?_)
  refine z_widen (k' := 1) (n' := 22) (Nat.le_refl _) (Nat.le_refl _) ?_
  refine z_pop dX9_addLead_29 rfl ?_
  exact z_return ⟨rfl, rfl, h⟩ rfl (Nat.le_of_ble_eq_true rfl) (Nat.le_of_ble_eq_true rfl) dX9_addLead_30
set_option maxRecDepth 20000 in
set_option maxHeartbeats 4000000 in
theorem w_X9_lastRow {E : zE} {a0 : Nat} {S : zS} {Q : Int32 → zS → Prop} {X : String → zS → Prop} (h : p_X9_lastRow E a0 S Q X) : zM E yX9_lastRow cX9_lastRow 1 (some .int) ({ frames := 1, cells := 0, slots := 0, locals := 22 } : Room) [.ref a0] S (qI Q) X := by
  unfold p_X9_lastRow at h
  refine zM_of RX9 false (by decide) rfl (fun h => by cases h) (Nat.le_of_ble_eq_true rfl) ?_
  refine z_aload_n 0 dX9_lastRow_0 rfl rfl ?_
  obtain ⟨hf1, h⟩ := h
  refine z_getI (c := 9) (j := 2) (f := 902) hf1.1 hf1.2 (Nat.le_of_ble_eq_true rfl) rfl zU_X9 (Nat.le_of_ble_eq_true rfl) (Nat.le_of_ble_eq_true rfl) ⟨_, zw_124, Or.inl rfl⟩ rfl rfl dX9_lastRow_1 ?_
  refine z_if_ne 17 dX9_lastRow_4 (by decide) (fun c9 => ?_) (fun c9 => ?_)
  · have h := h.1 c9
    refine z_aload_n 0 dX9_lastRow_17 rfl rfl ?_
    refine z_getQ (c := 9) (j := 8) (f := 908) hf1.1 hf1.2 (Nat.le_of_ble_eq_true rfl) rfl zU_X9 (Nat.le_of_ble_eq_true rfl) (Nat.le_of_ble_eq_true rfl) ⟨_, zw_138, Or.inl rfl⟩ rfl rfl dX9_lastRow_18 ?_
    refine z_aload_n 0 dX9_lastRow_21 rfl rfl ?_
    refine z_getI (c := 9) (j := 2) (f := 902) hf1.1 hf1.2 (Nat.le_of_ble_eq_true rfl) rfl zU_X9 (Nat.le_of_ble_eq_true rfl) (Nat.le_of_ble_eq_true rfl) ⟨_, zw_124, Or.inl rfl⟩ rfl rfl dX9_lastRow_22 ?_
    refine z_iconst (v := 1) dX9_lastRow_25 rfl ?_
    refine z_isub dX9_lastRow_26 ?_
    obtain ⟨b2, hb3, h⟩ := h
    rw [show va_rf (gR S 908 a0) = Value.ref b2 from by rw [hb3]; rfl]
    obtain ⟨hf4, h⟩ := h
    obtain ⟨j5, hj6, h⟩ := h
    refine z_iald (j := j5) hf4.1 hf4.2 hj6.1 hj6.2.1 hj6.2.2 dX9_lastRow_27 ?_
    exact z_ireturn ⟨rfl, _, rfl, h⟩ rfl (Nat.le_of_ble_eq_true rfl) (Nat.le_of_ble_eq_true rfl) dX9_lastRow_28
  · have h := h.2 c9
    refine z_aload_n 0 dX9_lastRow_7 rfl rfl ?_
    refine z_getI (c := 9) (j := 1) (f := 901) hf1.1 hf1.2 (Nat.le_of_ble_eq_true rfl) rfl zU_X9 (Nat.le_of_ble_eq_true rfl) (Nat.le_of_ble_eq_true rfl) ⟨_, zw_118, Or.inl rfl⟩ rfl rfl dX9_lastRow_8 ?_
    refine z_callSI (st := []) (w_X8_rounds h) zw_447 zw_659 zw_446 zw_48 zy_X8_rounds rfl rfl ⟨Nat.le_of_ble_eq_true rfl, Nat.le_of_ble_eq_true rfl⟩ ⟨(Nat.le_of_ble_eq_true rfl), (Nat.le_of_ble_eq_true rfl)⟩ (Nat.le_of_ble_eq_true rfl) dX9_lastRow_11 (fun _ _ hx => hx.elim) (fun r8 S7 h => ?_)
    refine z_widen (k' := 0) (n' := 0) (Nat.le_refl _) (Nat.le_refl _) ?_
    refine z_goto 28 dX9_lastRow_14 (by decide) ?_
    exact z_ireturn ⟨rfl, _, rfl, h⟩ rfl (Nat.le_of_ble_eq_true rfl) (Nat.le_of_ble_eq_true rfl) dX9_lastRow_28
set_option maxRecDepth 20000 in
set_option maxHeartbeats 4000000 in
theorem w_X9_writeLead_L21 {E : zE} {K130 : zS → Prop} {Q : zS → Prop} {X : String → zS → Prop} (hK130 : ∀  (S : zS), K130  S → zJ E (RX9, cX9_writeLead, 6, none, false, [], zTr) ({ frames := 3, cells := 0, slots := 0, locals := 72 } : Room) (zq (qV Q)) (zx X) 130 [] [] [] S 0 0) : ∀ (m21 : Nat) (a0 : Nat) (l1 : Int32) (a2 : Nat) (a3 : Nat) (l4 : Int32) (l5 : Int32) (S : zS), p_X9_writeLead_L21 E K130 Q X m21 a0 l1 a2 a3 l4 l5 S → zJ E (RX9, cX9_writeLead, 6, none, false, [], zTr) ({ frames := 3, cells := 0, slots := 0, locals := 72 } : Room) (zq (qV Q)) (zx X) 21 [(0, .ref a0), (1, .int l1), (2, .ref a2), (3, .ref a3), (4, .int l4), (5, .int l5)] [] [] S 0 0 := by
  intro m21
  induction m21 with
  | zero => intro a0 l1 a2 a3 l4 l5 S h; exact (show False from h).elim
  | succ m21 ih =>
    intro a0 l1 a2 a3 l4 l5 S h
    unfold p_X9_writeLead_L21 at h
    refine z_iload 5 dX9_writeLead_21 rfl ?_
    refine z_aload_n 3 dX9_writeLead_23 rfl rfl ?_
    obtain ⟨hf11, h⟩ := h
    refine z_getI (c := 5) (j := 2) (f := 502) hf11.1 hf11.2 (Nat.le_of_ble_eq_true rfl) rfl zU_X4 (Nat.le_of_ble_eq_true rfl) (Nat.le_of_ble_eq_true rfl) ⟨_, zw_484, Or.inl rfl⟩ rfl rfl dX9_writeLead_24 ?_
    refine z_icmp_ge 130 dX9_writeLead_27 (by decide) (fun c52 => ?_) (fun c52 => ?_)
    · have h := h.1 c52
      refine z_sub [] rfl ?_
      exact hK130 S h
    · have h := h.2 c52
      refine z_aload_n 0 dX9_writeLead_30 rfl rfl ?_
      obtain ⟨hf12, h⟩ := h
      refine z_getI (c := 9) (j := 2) (f := 902) hf12.1 hf12.2 (Nat.le_of_ble_eq_true rfl) rfl zU_X9 (Nat.le_of_ble_eq_true rfl) (Nat.le_of_ble_eq_true rfl) ⟨_, zw_124, Or.inl rfl⟩ rfl rfl dX9_writeLead_31 ?_
      refine z_sipush (v := 240) dX9_writeLead_34 rfl ?_
      refine z_icmp_ge 130 dX9_writeLead_37 (by decide) (fun c51 => ?_) (fun c51 => ?_)
      · have h := h.1 c51
        refine z_sub [] rfl ?_
        exact hK130 S h
      · have h := h.2 c51
        refine z_iload 4 dX9_writeLead_40 rfl ?_
        refine z_aload_n 3 dX9_writeLead_42 rfl rfl ?_
        refine z_aload_n 0 dX9_writeLead_43 rfl rfl ?_
        refine z_getQ (c := 9) (j := 7) (f := 907) hf12.1 hf12.2 (Nat.le_of_ble_eq_true rfl) rfl zU_X9 (Nat.le_of_ble_eq_true rfl) (Nat.le_of_ble_eq_true rfl) ⟨_, zw_135, Or.inl rfl⟩ rfl rfl dX9_writeLead_44 ?_
        refine z_iload_n 1 dX9_writeLead_47 rfl rfl ?_
        obtain ⟨b13, hb14, h⟩ := h
        rw [show va_rf (gR S 907 a0) = Value.ref b13 from by rw [hb14]; rfl]
        obtain ⟨hf15, h⟩ := h
        obtain ⟨j16, hj17, h⟩ := h
        refine z_iald (j := j16) hf15.1 hf15.2 hj17.1 hj17.2.1 hj17.2.2 dX9_writeLead_48 ?_
        refine z_iload 5 dX9_writeLead_49 rfl ?_
        refine z_callVI (ci := 5) (st := [.int l4]) (w_X4_changeOf h) hf11.1 hf11.2 (Nat.le_of_ble_eq_true rfl) rfl zw_635 zw_660 zw_633 zw_634 zw_52 zy_X4_changeOf rfl rfl ⟨Nat.le_of_ble_eq_true rfl, Nat.le_of_ble_eq_true rfl⟩ ⟨(Nat.le_of_ble_eq_true rfl), (Nat.le_of_ble_eq_true rfl)⟩ (Nat.le_of_ble_eq_true rfl) dX9_writeLead_51 (fun _ _ hx => hx.elim) (fun r19 S18 h => ?_)
        refine z_widen (k' := 0) (n' := 0) (Nat.le_refl _) (Nat.le_refl _) ?_
        refine z_aload_n 0 dX9_writeLead_54 rfl rfl ?_
        obtain ⟨hf20, h⟩ := h
        refine z_getI (c := 9) (j := 1) (f := 901) hf20.1 hf20.2 (Nat.le_of_ble_eq_true rfl) rfl zU_X9 (Nat.le_of_ble_eq_true rfl) (Nat.le_of_ble_eq_true rfl) ⟨_, zw_118, Or.inl rfl⟩ rfl rfl dX9_writeLead_55 ?_
        refine z_callSI (st := []) (w_X8_afterChange h) zw_450 zw_661 zw_449 zw_48 zy_X8_afterChange rfl rfl ⟨Nat.le_of_ble_eq_true rfl, Nat.le_of_ble_eq_true rfl⟩ ⟨(Nat.le_of_ble_eq_true rfl), (Nat.le_of_ble_eq_true rfl)⟩ (Nat.le_of_ble_eq_true rfl) dX9_writeLead_58 (fun _ _ hx => hx.elim) (fun r22 S21 h => ?_)
        refine z_widen (k' := 0) (n' := 0) (Nat.le_refl _) (Nat.le_refl _) ?_
        refine z_istore (lv' := [(4, .int r22), (0, .ref a0), (1, .int l1), (2, .ref a2), (3, .ref a3), (5, .int l5)]) dX9_writeLead_61 (Nat.le_of_ble_eq_true rfl) rfl ?_
        refine z_aload_n 1 dX9_writeLead_63 rfl rfl ?_
        obtain ⟨hf23, h⟩ := h
        refine z_getQ (c := 9) (j := 8) (f := 908) hf23.1 hf23.2 (Nat.le_of_ble_eq_true rfl) rfl zU_X9 (Nat.le_of_ble_eq_true rfl) (Nat.le_of_ble_eq_true rfl) ⟨_, zw_138, Or.inl rfl⟩ rfl rfl dX9_writeLead_64 ?_
        refine z_aload_n 1 dX9_writeLead_67 rfl rfl ?_
        refine z_getI (c := 9) (j := 2) (f := 902) hf23.1 hf23.2 (Nat.le_of_ble_eq_true rfl) rfl zU_X9 (Nat.le_of_ble_eq_true rfl) (Nat.le_of_ble_eq_true rfl) ⟨_, zw_124, Or.inl rfl⟩ rfl rfl dX9_writeLead_68 ?_
        refine z_iload 0 dX9_writeLead_71 rfl ?_
        obtain ⟨b24, hb25, h⟩ := h
        rw [show va_rf (gR S21 908 a0) = Value.ref b24 from by rw [hb25]; rfl]
        obtain ⟨hf26, h⟩ := h
        obtain ⟨j27, hj28, h⟩ := h
        have h := h _ rfl
        refine z_iast (j := j27) hf26.1 hf26.2 hj28.1 hj28.2.1 hj28.2.2 dX9_writeLead_73 ?_
        obtain ⟨S29, hS30⟩ : ∃ z, z = sA S21 b24 j27 r22 := ⟨_, rfl⟩
        rw [← hS30] at h ⊢
        have hf23 : a0 ∈ gL S29 ∧ gK S29 a0 = 9 := by rw [hS30]; exact hf23
        have hf26 : b24 ∈ gL S29 ∧ gK S29 b24 = 12 := by rw [hS30]; exact hf26
        refine z_aload_n 1 dX9_writeLead_74 rfl rfl ?_
        refine z_getI (c := 9) (j := 3) (f := 903) hf23.1 hf23.2 (Nat.le_of_ble_eq_true rfl) rfl zU_X9 (Nat.le_of_ble_eq_true rfl) (Nat.le_of_ble_eq_true rfl) ⟨_, zw_126, Or.inl rfl⟩ rfl rfl dX9_writeLead_75 ?_
        refine z_iconst (v := (-1)) dX9_writeLead_78 rfl ?_
        refine z_icmp_ne 114 dX9_writeLead_79 (by decide) (fun c49 => ?_) (fun c49 => ?_)
        · have h := h.1 c49
          refine z_aload_n 1 dX9_writeLead_114 rfl rfl ?_
          refine z_dup dX9_writeLead_115 rfl ?_
          refine z_getI (c := 9) (j := 2) (f := 902) hf23.1 hf23.2 (Nat.le_of_ble_eq_true rfl) rfl zU_X9 (Nat.le_of_ble_eq_true rfl) (Nat.le_of_ble_eq_true rfl) ⟨_, zw_124, Or.inl rfl⟩ rfl rfl dX9_writeLead_116 ?_
          refine z_iconst (v := 1) dX9_writeLead_119 rfl ?_
          refine z_iadd dX9_writeLead_120 ?_
          have h := h _ rfl
          refine z_putV (c := 9) (j := 2) (ty0 := tyX9) (S' := sI S29 902 a0 ((gI S29 902 a0) + 1)) hf23.1 hf23.2 (Nat.le_of_ble_eq_true rfl) rfl zU_X9 tyX9_ok nmX9 (Nat.le_of_ble_eq_true rfl) (Nat.le_of_ble_eq_true rfl) ⟨_, zw_124, Or.inl rfl⟩ (.inl rfl) rfl rfl rfl (zUpI (v := ((gI S29 902 a0) + 1)) hf23.2 (Nat.le_of_ble_eq_true rfl) (Nat.le_of_ble_eq_true rfl) rfl rfl) dX9_writeLead_121 ?_
          obtain ⟨S31, hS32⟩ : ∃ z, z = sI S29 902 a0 ((gI S29 902 a0) + 1) := ⟨_, rfl⟩
          rw [← hS32] at h ⊢
          have hf23 : a0 ∈ gL S31 ∧ gK S31 a0 = 9 := by rw [hS32]; exact hf23
          have hf26 : b24 ∈ gL S31 ∧ gK S31 b24 = 12 := by rw [hS32]; exact hf26
          refine z_iinc (v := (l5 + 1)) (lv' := [(5, .int (l5 + 1)), (4, .int r22), (0, .ref a0), (1, .int l1), (2, .ref a2), (3, .ref a3)]) 5 dX9_writeLead_124 rfl rfl (Nat.le_of_ble_eq_true rfl) rfl ?_
          refine z_goto 21 dX9_writeLead_127 (by decide) ?_
          refine z_sub [2, 3, 4, 5, 1, 0] rfl ?_
          exact ih a0 l1 a2 a3 r22 (l5 + 1) S31 h
        · have h := h.2 c49
          refine z_aload_n 3 dX9_writeLead_82 rfl rfl ?_
          refine z_aload_n 1 dX9_writeLead_83 rfl rfl ?_
          refine z_getQ (c := 9) (j := 8) (f := 908) hf23.1 hf23.2 (Nat.le_of_ble_eq_true rfl) rfl zU_X9 (Nat.le_of_ble_eq_true rfl) (Nat.le_of_ble_eq_true rfl) ⟨_, zw_138, Or.inl rfl⟩ rfl rfl dX9_writeLead_84 ?_
          refine z_aload_n 1 dX9_writeLead_87 rfl rfl ?_
          refine z_getI (c := 9) (j := 2) (f := 902) hf23.1 hf23.2 (Nat.le_of_ble_eq_true rfl) rfl zU_X9 (Nat.le_of_ble_eq_true rfl) (Nat.le_of_ble_eq_true rfl) ⟨_, zw_124, Or.inl rfl⟩ rfl rfl dX9_writeLead_88 ?_
          refine z_aload_n 1 dX9_writeLead_91 rfl rfl ?_
          refine z_getI (c := 9) (j := 1) (f := 901) hf23.1 hf23.2 (Nat.le_of_ble_eq_true rfl) rfl zU_X9 (Nat.le_of_ble_eq_true rfl) (Nat.le_of_ble_eq_true rfl) ⟨_, zw_118, Or.inl rfl⟩ rfl rfl dX9_writeLead_92 ?_
          obtain ⟨b33, hb34, h⟩ := h
          rw [show va_rf (gR S29 908 a0) = Value.ref b33 from by rw [hb34]; rfl]
          obtain ⟨hf48, h⟩ := h
          refine z_callVI (ci := 6) (st := []) (w_X5_isRepeat h) hf48.1 hf48.2 (Nat.le_of_ble_eq_true rfl) rfl zw_665 zw_662 zw_663 zw_664 zw_34 zy_X5_isRepeat rfl rfl ⟨Nat.le_of_ble_eq_true rfl, Nat.le_of_ble_eq_true rfl⟩ ⟨(Nat.le_of_ble_eq_true rfl), (Nat.le_of_ble_eq_true rfl)⟩ (Nat.le_of_ble_eq_true rfl) dX9_writeLead_95 (fun _ _ hx => hx.elim) (fun r36 S35 h => ?_)
          refine z_widen (k' := 0) (n' := 0) (Nat.le_refl _) (Nat.le_refl _) ?_
          refine z_if_eq 114 dX9_writeLead_98 (by decide) (fun c47 => ?_) (fun c47 => ?_)
          · have h := h.1 c47
            refine z_aload_n 1 dX9_writeLead_114 rfl rfl ?_
            refine z_dup dX9_writeLead_115 rfl ?_
            obtain ⟨hf37, h⟩ := h
            refine z_getI (c := 9) (j := 2) (f := 902) hf37.1 hf37.2 (Nat.le_of_ble_eq_true rfl) rfl zU_X9 (Nat.le_of_ble_eq_true rfl) (Nat.le_of_ble_eq_true rfl) ⟨_, zw_124, Or.inl rfl⟩ rfl rfl dX9_writeLead_116 ?_
            refine z_iconst (v := 1) dX9_writeLead_119 rfl ?_
            refine z_iadd dX9_writeLead_120 ?_
            have h := h _ rfl
            refine z_putV (c := 9) (j := 2) (ty0 := tyX9) (S' := sI S35 902 a0 ((gI S35 902 a0) + 1)) hf37.1 hf37.2 (Nat.le_of_ble_eq_true rfl) rfl zU_X9 tyX9_ok nmX9 (Nat.le_of_ble_eq_true rfl) (Nat.le_of_ble_eq_true rfl) ⟨_, zw_124, Or.inl rfl⟩ (.inl rfl) rfl rfl rfl (zUpI (v := ((gI S35 902 a0) + 1)) hf37.2 (Nat.le_of_ble_eq_true rfl) (Nat.le_of_ble_eq_true rfl) rfl rfl) dX9_writeLead_121 ?_
            obtain ⟨S38, hS39⟩ : ∃ z, z = sI S35 902 a0 ((gI S35 902 a0) + 1) := ⟨_, rfl⟩
            rw [← hS39] at h ⊢
            have hf37 : a0 ∈ gL S38 ∧ gK S38 a0 = 9 := by rw [hS39]; exact hf37
            refine z_iinc (v := (l5 + 1)) (lv' := [(5, .int (l5 + 1)), (4, .int r22), (0, .ref a0), (1, .int l1), (2, .ref a2), (3, .ref a3)]) 5 dX9_writeLead_124 rfl rfl (Nat.le_of_ble_eq_true rfl) rfl ?_
            refine z_goto 21 dX9_writeLead_127 (by decide) ?_
            refine z_sub [2, 3, 4, 5, 1, 0] rfl ?_
            exact ih a0 l1 a2 a3 r22 (l5 + 1) S38 h
          · have h := h.2 c47
            refine z_aload_n 1 dX9_writeLead_101 rfl rfl ?_
            refine z_aload_n 1 dX9_writeLead_102 rfl rfl ?_
            obtain ⟨hf40, h⟩ := h
            refine z_getI (c := 9) (j := 2) (f := 902) hf40.1 hf40.2 (Nat.le_of_ble_eq_true rfl) rfl zU_X9 (Nat.le_of_ble_eq_true rfl) (Nat.le_of_ble_eq_true rfl) ⟨_, zw_124, Or.inl rfl⟩ rfl rfl dX9_writeLead_103 ?_
            have h := h _ rfl
            refine z_putV (c := 9) (j := 3) (ty0 := tyX9) (S' := sI S35 903 a0 (gI S35 902 a0)) hf40.1 hf40.2 (Nat.le_of_ble_eq_true rfl) rfl zU_X9 tyX9_ok nmX9 (Nat.le_of_ble_eq_true rfl) (Nat.le_of_ble_eq_true rfl) ⟨_, zw_126, Or.inl rfl⟩ (.inl rfl) rfl rfl rfl (zUpI (v := (gI S35 902 a0)) hf40.2 (Nat.le_of_ble_eq_true rfl) (Nat.le_of_ble_eq_true rfl) rfl rfl) dX9_writeLead_106 ?_
            obtain ⟨S41, hS42⟩ : ∃ z, z = sI S35 903 a0 (gI S35 902 a0) := ⟨_, rfl⟩
            rw [← hS42] at h ⊢
            have hf40 : a0 ∈ gL S41 ∧ gK S41 a0 = 9 := by rw [hS42]; exact hf40
            refine z_aload_n 1 dX9_writeLead_109 rfl rfl ?_
            refine z_iload_n 2 dX9_writeLead_110 rfl rfl ?_
            have h := h _ rfl
            refine z_putV (c := 9) (j := 4) (ty0 := tyX9) (S' := sI S41 904 a0 l1) hf40.1 hf40.2 (Nat.le_of_ble_eq_true rfl) rfl zU_X9 tyX9_ok nmX9 (Nat.le_of_ble_eq_true rfl) (Nat.le_of_ble_eq_true rfl) ⟨_, zw_129, Or.inl rfl⟩ (.inl rfl) rfl rfl rfl (zUpI (v := l1) hf40.2 (Nat.le_of_ble_eq_true rfl) (Nat.le_of_ble_eq_true rfl) rfl rfl) dX9_writeLead_111 ?_
            obtain ⟨S43, hS44⟩ : ∃ z, z = sI S41 904 a0 l1 := ⟨_, rfl⟩
            rw [← hS44] at h ⊢
            have hf40 : a0 ∈ gL S43 ∧ gK S43 a0 = 9 := by rw [hS44]; exact hf40
            refine z_aload_n 1 dX9_writeLead_114 rfl rfl ?_
            refine z_dup dX9_writeLead_115 rfl ?_
            refine z_getI (c := 9) (j := 2) (f := 902) hf40.1 hf40.2 (Nat.le_of_ble_eq_true rfl) rfl zU_X9 (Nat.le_of_ble_eq_true rfl) (Nat.le_of_ble_eq_true rfl) ⟨_, zw_124, Or.inl rfl⟩ rfl rfl dX9_writeLead_116 ?_
            refine z_iconst (v := 1) dX9_writeLead_119 rfl ?_
            refine z_iadd dX9_writeLead_120 ?_
            have h := h _ rfl
            refine z_putV (c := 9) (j := 2) (ty0 := tyX9) (S' := sI S43 902 a0 ((gI S43 902 a0) + 1)) hf40.1 hf40.2 (Nat.le_of_ble_eq_true rfl) rfl zU_X9 tyX9_ok nmX9 (Nat.le_of_ble_eq_true rfl) (Nat.le_of_ble_eq_true rfl) ⟨_, zw_124, Or.inl rfl⟩ (.inl rfl) rfl rfl rfl (zUpI (v := ((gI S43 902 a0) + 1)) hf40.2 (Nat.le_of_ble_eq_true rfl) (Nat.le_of_ble_eq_true rfl) rfl rfl) dX9_writeLead_121 ?_
            obtain ⟨S45, hS46⟩ : ∃ z, z = sI S43 902 a0 ((gI S43 902 a0) + 1) := ⟨_, rfl⟩
            rw [← hS46] at h ⊢
            have hf40 : a0 ∈ gL S45 ∧ gK S45 a0 = 9 := by rw [hS46]; exact hf40
            refine z_iinc (v := (l5 + 1)) (lv' := [(5, .int (l5 + 1)), (4, .int r22), (0, .ref a0), (1, .int l1), (2, .ref a2), (3, .ref a3)]) 5 dX9_writeLead_124 rfl rfl (Nat.le_of_ble_eq_true rfl) rfl ?_
            refine z_goto 21 dX9_writeLead_127 (by decide) ?_
            refine z_sub [2, 3, 4, 5, 1, 0] rfl ?_
            exact ih a0 l1 a2 a3 r22 (l5 + 1) S45 h
set_option maxRecDepth 20000 in
set_option maxHeartbeats 4000000 in
theorem w_X9_writeLead {E : zE} {a0 : Nat} {l1 : Int32} {a2 : Nat} {S : zS} {Q : zS → Prop} {X : String → zS → Prop} (h : p_X9_writeLead E a0 l1 a2 S Q X) : zM E yX9_writeLead cX9_writeLead 6 none ({ frames := 3, cells := 0, slots := 0, locals := 72 } : Room) [.ref a0, .int l1, .ref a2] S (qV Q) X := by
  unfold p_X9_writeLead at h
  refine zM_of RX9 false (by decide) rfl (fun h => by cases h) (Nat.le_of_ble_eq_true rfl) ?_
  refine z_aload_n 0 dX9_writeLead_0 rfl rfl ?_
  obtain ⟨hf1, h⟩ := h
  refine z_getQ (c := 9) (j := 6) (f := 906) hf1.1 hf1.2 (Nat.le_of_ble_eq_true rfl) rfl zU_X9 (Nat.le_of_ble_eq_true rfl) (Nat.le_of_ble_eq_true rfl) ⟨_, zw_133, Or.inl rfl⟩ rfl rfl dX9_writeLead_1 ?_
  refine z_iload_n 1 dX9_writeLead_4 rfl rfl ?_
  obtain ⟨b2, hb3, h⟩ := h
  rw [show va_rf (gR S 906 a0) = Value.ref b2 from by rw [hb3]; rfl]
  obtain ⟨hf54, h⟩ := h
  refine z_callVR (ci := 0) (st := []) (w_Jx4a65c_get_915e3 h) hf54.1 hf54.2 (Nat.le_of_ble_eq_true rfl) rfl zw_607 zw_649 zw_605 zw_606 zw_33 zy_Jx4a65c_get_915e3 rfl rfl ⟨Nat.le_of_ble_eq_true rfl, Nat.le_of_ble_eq_true rfl⟩ ⟨(Nat.le_of_ble_eq_true rfl), (Nat.le_of_ble_eq_true rfl)⟩ (Nat.le_of_ble_eq_true rfl) dX9_writeLead_5 (fun _ _ hx => hx.elim) (fun r5 S4 h => ?_)
  refine z_widen (k' := 0) (n' := 0) (Nat.le_refl _) (Nat.le_refl _) ?_
  obtain ⟨b6, hb7, h⟩ := h
  rw [show va_rf r5 = Value.ref b6 from by rw [hb7]; rfl]
  obtain ⟨hf8, h⟩ := h
  refine z_cast (c := 5) hf8.1 hf8.2 (Nat.le_of_ble_eq_true rfl) rfl zw_650 dX9_writeLead_8 ?_
  refine z_astore_n (lv' := [(3, .ref b6), (0, .ref a0), (1, .int l1), (2, .ref a2)]) dX9_writeLead_11 rfl (Nat.le_of_ble_eq_true rfl) rfl ?_
  refine z_aload_n 1 dX9_writeLead_12 rfl rfl ?_
  obtain ⟨hf53, h⟩ := h
  refine z_callVI (ci := 9) (st := []) (w_X9_lastRow h) hf53.1 hf53.2 (Nat.le_of_ble_eq_true rfl) rfl zw_658 zw_655 zw_657 zw_11 zw_36 zy_X9_lastRow rfl rfl ⟨Nat.le_of_ble_eq_true rfl, Nat.le_of_ble_eq_true rfl⟩ ⟨(Nat.le_of_ble_eq_true rfl), (Nat.le_of_ble_eq_true rfl)⟩ (Nat.le_of_ble_eq_true rfl) dX9_writeLead_13 (fun _ _ hx => hx.elim) (fun r10 S9 h => ?_)
  refine z_widen (k' := 0) (n' := 0) (Nat.le_refl _) (Nat.le_refl _) ?_
  refine z_istore (lv' := [(4, .int r10), (3, .ref b6), (0, .ref a0), (1, .int l1), (2, .ref a2)]) dX9_writeLead_16 (Nat.le_of_ble_eq_true rfl) rfl ?_
  refine z_iconst (v := 0) dX9_writeLead_18 rfl ?_
  refine z_istore (lv' := [(5, .int 0), (4, .int r10), (3, .ref b6), (0, .ref a0), (1, .int l1), (2, .ref a2)]) dX9_writeLead_19 (Nat.le_of_ble_eq_true rfl) rfl ?_
  obtain ⟨m21, h⟩ := h
  refine z_sub [3, 4, 5, 2, 1, 0] rfl ?_
  refine w_X9_writeLead_L21 (fun S h => ?_) m21 a0 l1 a2 b6 r10 0 S9 h
  exact z_return ⟨rfl, rfl, h⟩ rfl (Nat.le_of_ble_eq_true rfl) (Nat.le_of_ble_eq_true rfl) dX9_writeLead_130
set_option maxRecDepth 20000 in
set_option maxHeartbeats 4000000 in
theorem w_X9_writeFrom_L17 {E : zE} {K71 : Nat → zS → Prop} {Q : zS → Prop} {X : String → zS → Prop} (hK71 : ∀ (a0 : Nat) (S : zS), K71 a0 S → zJ E (RX9, cX9_writeFrom, 4, none, false, [], zTr) ({ frames := 4, cells := 0, slots := 0, locals := 97 } : Room) (zq (qV Q)) (zx X) 71 [(0, .ref a0)] [] [] S 0 0) : ∀ (m17 : Nat) (a0 : Nat) (l1 : Int32) (a2 : Nat) (l3 : Int32) (S : zS), p_X9_writeFrom_L17 E K71 Q X m17 a0 l1 a2 l3 S → zJ E (RX9, cX9_writeFrom, 4, none, false, [], zTr) ({ frames := 4, cells := 0, slots := 0, locals := 97 } : Room) (zq (qV Q)) (zx X) 17 [(0, .ref a0), (1, .int l1), (2, .ref a2), (3, .int l3)] [] [] S 0 0 := by
  intro m17
  induction m17 with
  | zero => intro a0 l1 a2 l3 S h; exact (show False from h).elim
  | succ m17 ih =>
    intro a0 l1 a2 l3 S h
    unfold p_X9_writeFrom_L17 at h
    refine z_iload_n 3 dX9_writeFrom_17 rfl rfl ?_
    refine z_aload_n 0 dX9_writeFrom_18 rfl rfl ?_
    obtain ⟨hf8, h⟩ := h
    refine z_getQ (c := 9) (j := 6) (f := 906) hf8.1 hf8.2 (Nat.le_of_ble_eq_true rfl) rfl zU_X9 (Nat.le_of_ble_eq_true rfl) (Nat.le_of_ble_eq_true rfl) ⟨_, zw_133, Or.inl rfl⟩ rfl rfl dX9_writeFrom_19 ?_
    obtain ⟨b9, hb10, h⟩ := h
    rw [show va_rf (gR S 906 a0) = Value.ref b9 from by rw [hb10]; rfl]
    obtain ⟨hf30, h⟩ := h
    refine z_callVI (ci := 0) (st := [.int l3]) (w_Jx4a65c_size_8abf5 h) hf30.1 hf30.2 (Nat.le_of_ble_eq_true rfl) rfl zw_423 zw_648 zw_421 zw_422 zw_33 zy_Jx4a65c_size_8abf5 rfl rfl ⟨Nat.le_of_ble_eq_true rfl, Nat.le_of_ble_eq_true rfl⟩ ⟨(Nat.le_of_ble_eq_true rfl), (Nat.le_of_ble_eq_true rfl)⟩ (Nat.le_of_ble_eq_true rfl) dX9_writeFrom_22 (fun _ _ hx => hx.elim) (fun r12 S11 h => ?_)
    refine z_widen (k' := 0) (n' := 0) (Nat.le_refl _) (Nat.le_refl _) ?_
    refine z_icmp_ge 71 dX9_writeFrom_25 (by decide) (fun c29 => ?_) (fun c29 => ?_)
    · have h := h.1 c29
      refine z_sub [0] rfl ?_
      exact hK71 a0 S11 h
    · have h := h.2 c29
      refine z_iload_n 3 dX9_writeFrom_28 rfl rfl ?_
      refine z_iload_n 1 dX9_writeFrom_29 rfl rfl ?_
      refine z_icmp_ge 59 dX9_writeFrom_30 (by decide) (fun c28 => ?_) (fun c28 => ?_)
      · have h := h.1 c28
        refine z_aload_n 0 dX9_writeFrom_59 rfl rfl ?_
        refine z_iload_n 3 dX9_writeFrom_60 rfl rfl ?_
        refine z_aload_n 2 dX9_writeFrom_61 rfl rfl ?_
        obtain ⟨hf15, h⟩ := h
        refine z_callVV (ci := 9) (st := []) (w_X9_writeLead h) hf15.1 hf15.2 (Nat.le_of_ble_eq_true rfl) rfl zw_654 zw_651 zw_653 zw_10 zw_36 zy_X9_writeLead rfl rfl ⟨Nat.le_of_ble_eq_true rfl, Nat.le_of_ble_eq_true rfl⟩ ⟨(Nat.le_of_ble_eq_true rfl), (Nat.le_of_ble_eq_true rfl)⟩ (Nat.le_of_ble_eq_true rfl) dX9_writeFrom_62 (fun _ _ hx => hx.elim) (fun S13 h => ?_)
        refine z_widen (k' := 0) (n' := 0) (Nat.le_refl _) (Nat.le_refl _) ?_
        refine z_iinc (v := (l3 + 1)) (lv' := [(3, .int (l3 + 1)), (0, .ref a0), (1, .int l1), (2, .ref a2)]) 3 dX9_writeFrom_65 rfl rfl (Nat.le_of_ble_eq_true rfl) rfl ?_
        refine z_goto 17 dX9_writeFrom_68 (by decide) ?_
        refine z_sub [1, 2, 3, 0] rfl ?_
        exact ih a0 l1 a2 (l3 + 1) S13 h
      · have h := h.2 c28
        refine z_aload_n 0 dX9_writeFrom_33 rfl rfl ?_
        refine z_dup dX9_writeFrom_34 rfl ?_
        obtain ⟨hf16, h⟩ := h
        refine z_getI (c := 9) (j := 2) (f := 902) hf16.1 hf16.2 (Nat.le_of_ble_eq_true rfl) rfl zU_X9 (Nat.le_of_ble_eq_true rfl) (Nat.le_of_ble_eq_true rfl) ⟨_, zw_124, Or.inl rfl⟩ rfl rfl dX9_writeFrom_35 ?_
        refine z_aload_n 0 dX9_writeFrom_38 rfl rfl ?_
        refine z_getQ (c := 9) (j := 6) (f := 906) hf16.1 hf16.2 (Nat.le_of_ble_eq_true rfl) rfl zU_X9 (Nat.le_of_ble_eq_true rfl) (Nat.le_of_ble_eq_true rfl) ⟨_, zw_133, Or.inl rfl⟩ rfl rfl dX9_writeFrom_39 ?_
        refine z_iload_n 3 dX9_writeFrom_42 rfl rfl ?_
        obtain ⟨b17, hb18, h⟩ := h
        rw [show va_rf (gR S11 906 a0) = Value.ref b17 from by rw [hb18]; rfl]
        obtain ⟨hf27, h⟩ := h
        refine z_callVR (ci := 0) (st := [.int (gI S11 902 a0), .ref a0]) (w_Jx4a65c_get_915e3 h) hf27.1 hf27.2 (Nat.le_of_ble_eq_true rfl) rfl zw_607 zw_649 zw_605 zw_606 zw_33 zy_Jx4a65c_get_915e3 rfl rfl ⟨Nat.le_of_ble_eq_true rfl, Nat.le_of_ble_eq_true rfl⟩ ⟨(Nat.le_of_ble_eq_true rfl), (Nat.le_of_ble_eq_true rfl)⟩ (Nat.le_of_ble_eq_true rfl) dX9_writeFrom_43 (fun _ _ hx => hx.elim) (fun r20 S19 h => ?_)
        refine z_widen (k' := 0) (n' := 0) (Nat.le_refl _) (Nat.le_refl _) ?_
        obtain ⟨b21, hb22, h⟩ := h
        rw [show va_rf r20 = Value.ref b21 from by rw [hb22]; rfl]
        obtain ⟨hf23, h⟩ := h
        refine z_cast (c := 5) hf23.1 hf23.2 (Nat.le_of_ble_eq_true rfl) rfl zw_650 dX9_writeFrom_46 ?_
        refine z_getI (c := 5) (j := 2) (f := 502) hf23.1 hf23.2 (Nat.le_of_ble_eq_true rfl) rfl zU_X4 (Nat.le_of_ble_eq_true rfl) (Nat.le_of_ble_eq_true rfl) ⟨_, zw_484, Or.inl rfl⟩ rfl rfl dX9_writeFrom_49 ?_
        refine z_iadd dX9_writeFrom_52 ?_
        obtain ⟨hf24, h⟩ := h
        have h := h _ rfl
        refine z_putV (c := 9) (j := 2) (ty0 := tyX9) (S' := sI S19 902 a0 ((gI S11 902 a0) + (gI S19 502 b21))) hf24.1 hf24.2 (Nat.le_of_ble_eq_true rfl) rfl zU_X9 tyX9_ok nmX9 (Nat.le_of_ble_eq_true rfl) (Nat.le_of_ble_eq_true rfl) ⟨_, zw_124, Or.inl rfl⟩ (.inl rfl) rfl rfl rfl (zUpI (v := ((gI S11 902 a0) + (gI S19 502 b21))) hf24.2 (Nat.le_of_ble_eq_true rfl) (Nat.le_of_ble_eq_true rfl) rfl rfl) dX9_writeFrom_53 ?_
        obtain ⟨S25, hS26⟩ : ∃ z, z = sI S19 902 a0 ((gI S11 902 a0) + (gI S19 502 b21)) := ⟨_, rfl⟩
        rw [← hS26] at h ⊢
        have hf24 : a0 ∈ gL S25 ∧ gK S25 a0 = 9 := by rw [hS26]; exact hf24
        have hf23 : b21 ∈ gL S25 ∧ gK S25 b21 = 5 := by rw [hS26]; exact hf23
        refine z_goto 65 dX9_writeFrom_56 (by decide) ?_
        refine z_iinc (v := (l3 + 1)) (lv' := [(3, .int (l3 + 1)), (0, .ref a0), (1, .int l1), (2, .ref a2)]) 3 dX9_writeFrom_65 rfl rfl (Nat.le_of_ble_eq_true rfl) rfl ?_
        refine z_goto 17 dX9_writeFrom_68 (by decide) ?_
        refine z_sub [1, 2, 3, 0] rfl ?_
        exact ih a0 l1 a2 (l3 + 1) S25 h
set_option maxRecDepth 20000 in
set_option maxHeartbeats 4000000 in
theorem w_X9_writeFrom {E : zE} {a0 : Nat} {l1 : Int32} {a2 : Nat} {S : zS} {Q : zS → Prop} {X : String → zS → Prop} (h : p_X9_writeFrom E a0 l1 a2 S Q X) : zM E yX9_writeFrom cX9_writeFrom 4 none ({ frames := 4, cells := 0, slots := 0, locals := 97 } : Room) [.ref a0, .int l1, .ref a2] S (qV Q) X := by
  unfold p_X9_writeFrom at h
  refine zM_of RX9 false (by decide) rfl (fun h => by cases h) (Nat.le_of_ble_eq_true rfl) ?_
  refine z_aload_n 0 dX9_writeFrom_0 rfl rfl ?_
  refine z_iconst (v := 0) dX9_writeFrom_1 rfl ?_
  obtain ⟨hf1, h⟩ := h
  have h := h _ rfl
  refine z_putV (c := 9) (j := 2) (ty0 := tyX9) (S' := sI S 902 a0 0) hf1.1 hf1.2 (Nat.le_of_ble_eq_true rfl) rfl zU_X9 tyX9_ok nmX9 (Nat.le_of_ble_eq_true rfl) (Nat.le_of_ble_eq_true rfl) ⟨_, zw_124, Or.inl rfl⟩ (.inl rfl) rfl rfl rfl (zUpI (v := 0) hf1.2 (Nat.le_of_ble_eq_true rfl) (Nat.le_of_ble_eq_true rfl) rfl rfl) dX9_writeFrom_2 ?_
  obtain ⟨S2, hS3⟩ : ∃ z, z = sI S 902 a0 0 := ⟨_, rfl⟩
  rw [← hS3] at h ⊢
  have hf1 : a0 ∈ gL S2 ∧ gK S2 a0 = 9 := by rw [hS3]; exact hf1
  refine z_aload_n 0 dX9_writeFrom_5 rfl rfl ?_
  refine z_iconst (v := (-1)) dX9_writeFrom_6 rfl ?_
  have h := h _ rfl
  refine z_putV (c := 9) (j := 3) (ty0 := tyX9) (S' := sI S2 903 a0 (-1)) hf1.1 hf1.2 (Nat.le_of_ble_eq_true rfl) rfl zU_X9 tyX9_ok nmX9 (Nat.le_of_ble_eq_true rfl) (Nat.le_of_ble_eq_true rfl) ⟨_, zw_126, Or.inl rfl⟩ (.inl rfl) rfl rfl rfl (zUpI (v := (-1)) hf1.2 (Nat.le_of_ble_eq_true rfl) (Nat.le_of_ble_eq_true rfl) rfl rfl) dX9_writeFrom_7 ?_
  obtain ⟨S4, hS5⟩ : ∃ z, z = sI S2 903 a0 (-1) := ⟨_, rfl⟩
  rw [← hS5] at h ⊢
  have hf1 : a0 ∈ gL S4 ∧ gK S4 a0 = 9 := by rw [hS5]; exact hf1
  refine z_aload_n 0 dX9_writeFrom_10 rfl rfl ?_
  refine z_iconst (v := (-1)) dX9_writeFrom_11 rfl ?_
  have h := h _ rfl
  refine z_putV (c := 9) (j := 4) (ty0 := tyX9) (S' := sI S4 904 a0 (-1)) hf1.1 hf1.2 (Nat.le_of_ble_eq_true rfl) rfl zU_X9 tyX9_ok nmX9 (Nat.le_of_ble_eq_true rfl) (Nat.le_of_ble_eq_true rfl) ⟨_, zw_129, Or.inl rfl⟩ (.inl rfl) rfl rfl rfl (zUpI (v := (-1)) hf1.2 (Nat.le_of_ble_eq_true rfl) (Nat.le_of_ble_eq_true rfl) rfl rfl) dX9_writeFrom_12 ?_
  obtain ⟨S6, hS7⟩ : ∃ z, z = sI S4 904 a0 (-1) := ⟨_, rfl⟩
  rw [← hS7] at h ⊢
  have hf1 : a0 ∈ gL S6 ∧ gK S6 a0 = 9 := by rw [hS7]; exact hf1
  refine z_iconst (v := 0) dX9_writeFrom_15 rfl ?_
  refine z_istore_n (lv' := [(3, .int 0), (0, .ref a0), (1, .int l1), (2, .ref a2)]) dX9_writeFrom_16 rfl (Nat.le_of_ble_eq_true rfl) rfl ?_
  obtain ⟨m17, h⟩ := h
  refine z_sub [1, 2, 3, 0] rfl ?_
  refine w_X9_writeFrom_L17 (fun a0 S h => ?_) m17 a0 l1 a2 0 S6 h
  refine z_aload_n 0 dX9_writeFrom_71 rfl rfl ?_
  refine z_aload_n 0 dX9_writeFrom_72 rfl rfl ?_
  obtain ⟨hf45, h⟩ := h
  refine z_callVI (ci := 9) (st := [.ref a0]) (w_X9_lastRow h) hf45.1 hf45.2 (Nat.le_of_ble_eq_true rfl) rfl zw_658 zw_655 zw_657 zw_11 zw_36 zy_X9_lastRow rfl rfl ⟨Nat.le_of_ble_eq_true rfl, Nat.le_of_ble_eq_true rfl⟩ ⟨(Nat.le_of_ble_eq_true rfl), (Nat.le_of_ble_eq_true rfl)⟩ (Nat.le_of_ble_eq_true rfl) dX9_writeFrom_73 (fun _ _ hx => hx.elim) (fun r32 S31 h => ?_)
  refine z_widen (k' := 0) (n' := 0) (Nat.le_refl _) (Nat.le_refl _) ?_
  refine z_aload_n 0 dX9_writeFrom_76 rfl rfl ?_
  obtain ⟨hf33, h⟩ := h
  refine z_getI (c := 9) (j := 1) (f := 901) hf33.1 hf33.2 (Nat.le_of_ble_eq_true rfl) rfl zU_X9 (Nat.le_of_ble_eq_true rfl) (Nat.le_of_ble_eq_true rfl) ⟨_, zw_118, Or.inl rfl⟩ rfl rfl dX9_writeFrom_77 ?_
  refine z_callSI (st := [.int r32, .ref a0]) (w_X8_rounds h) zw_447 zw_659 zw_446 zw_48 zy_X8_rounds rfl rfl ⟨Nat.le_of_ble_eq_true rfl, Nat.le_of_ble_eq_true rfl⟩ ⟨(Nat.le_of_ble_eq_true rfl), (Nat.le_of_ble_eq_true rfl)⟩ (Nat.le_of_ble_eq_true rfl) dX9_writeFrom_80 (fun _ _ hx => hx.elim) (fun r35 S34 h => ?_)
  refine z_widen (k' := 0) (n' := 0) (Nat.le_refl _) (Nat.le_refl _) ?_
  refine z_icmp_ne 90 dX9_writeFrom_83 (by decide) (fun c44 => ?_) (fun c44 => ?_)
  · have h := h.1 c44
    refine z_iconst (v := 0) dX9_writeFrom_90 rfl ?_
    obtain ⟨hf36, h⟩ := h
    obtain ⟨hz39, h⟩ := h
    have h := h _ rfl
    refine z_putV (c := 9) (j := 5) (ty0 := tyX9) (S' := sI S34 905 a0 0) hf36.1 hf36.2 (Nat.le_of_ble_eq_true rfl) rfl zU_X9 tyX9_ok nmX9 (Nat.le_of_ble_eq_true rfl) (Nat.le_of_ble_eq_true rfl) ⟨_, zw_131, Or.inl rfl⟩ (.inl rfl) (zbn hz39) (zbf hz39) rfl (zUpI (v := 0) hf36.2 (Nat.le_of_ble_eq_true rfl) (Nat.le_of_ble_eq_true rfl) rfl rfl) dX9_writeFrom_91 ?_
    obtain ⟨S37, hS38⟩ : ∃ z, z = sI S34 905 a0 0 := ⟨_, rfl⟩
    rw [← hS38] at h ⊢
    have hf36 : a0 ∈ gL S37 ∧ gK S37 a0 = 9 := by rw [hS38]; exact hf36
    exact z_return ⟨rfl, rfl, h⟩ rfl (Nat.le_of_ble_eq_true rfl) (Nat.le_of_ble_eq_true rfl) dX9_writeFrom_94
  · have h := h.2 c44
    refine z_iconst (v := 1) dX9_writeFrom_86 rfl ?_
    refine z_goto 91 dX9_writeFrom_87 (by decide) ?_
    obtain ⟨hf40, h⟩ := h
    obtain ⟨hz43, h⟩ := h
    have h := h _ rfl
    refine z_putV (c := 9) (j := 5) (ty0 := tyX9) (S' := sI S34 905 a0 1) hf40.1 hf40.2 (Nat.le_of_ble_eq_true rfl) rfl zU_X9 tyX9_ok nmX9 (Nat.le_of_ble_eq_true rfl) (Nat.le_of_ble_eq_true rfl) ⟨_, zw_131, Or.inl rfl⟩ (.inl rfl) (zbn hz43) (zbf hz43) rfl (zUpI (v := 1) hf40.2 (Nat.le_of_ble_eq_true rfl) (Nat.le_of_ble_eq_true rfl) rfl rfl) dX9_writeFrom_91 ?_
    obtain ⟨S41, hS42⟩ : ∃ z, z = sI S34 905 a0 1 := ⟨_, rfl⟩
    rw [← hS42] at h ⊢
    have hf40 : a0 ∈ gL S41 ∧ gK S41 a0 = 9 := by rw [hS42]; exact hf40
    exact z_return ⟨rfl, rfl, h⟩ rfl (Nat.le_of_ble_eq_true rfl) (Nat.le_of_ble_eq_true rfl) dX9_writeFrom_94
set_option maxRecDepth 20000 in
set_option maxHeartbeats 4000000 in
theorem w_X9_isSound {E : zE} {a0 : Nat} {S : zS} {Q : Int32 → zS → Prop} {X : String → zS → Prop} (h : p_X9_isSound E a0 S Q X) : zM E yX9_isSound cX9_isSound 1 (some .boolean) ({ frames := 0, cells := 0, slots := 0, locals := 0 } : Room) [.ref a0] S (qI Q) X := by
  unfold p_X9_isSound at h
  refine zM_of RX9 false (by decide) rfl (fun h => by cases h) (Nat.le_of_ble_eq_true rfl) ?_
  refine z_aload_n 0 dX9_isSound_0 rfl rfl ?_
  obtain ⟨hf1, h⟩ := h
  refine z_getI (c := 9) (j := 3) (f := 903) hf1.1 hf1.2 (Nat.le_of_ble_eq_true rfl) rfl zU_X9 (Nat.le_of_ble_eq_true rfl) (Nat.le_of_ble_eq_true rfl) ⟨_, zw_126, Or.inl rfl⟩ rfl rfl dX9_isSound_1 ?_
  refine z_iconst (v := (-1)) dX9_isSound_4 rfl ?_
  refine z_icmp_ne 19 dX9_isSound_5 (by decide) (fun c6 => ?_) (fun c6 => ?_)
  · have h := h.1 c6
    refine z_iconst (v := 0) dX9_isSound_19 rfl ?_
    obtain ⟨hz2, h⟩ := h
    exact z_zreturn ⟨rfl, _, rfl, h⟩ rfl (zbn hz2) (Nat.le_of_ble_eq_true rfl) (Nat.le_of_ble_eq_true rfl) dX9_isSound_20
  · have h := h.2 c6
    refine z_aload_n 0 dX9_isSound_8 rfl rfl ?_
    refine z_getI (c := 9) (j := 5) (f := 905) hf1.1 hf1.2 (Nat.le_of_ble_eq_true rfl) rfl zU_X9 (Nat.le_of_ble_eq_true rfl) (Nat.le_of_ble_eq_true rfl) ⟨_, zw_131, Or.inl rfl⟩ rfl rfl dX9_isSound_9 ?_
    refine z_if_eq 19 dX9_isSound_12 (by decide) (fun c5 => ?_) (fun c5 => ?_)
    · have h := h.1 c5
      refine z_iconst (v := 0) dX9_isSound_19 rfl ?_
      obtain ⟨hz3, h⟩ := h
      exact z_zreturn ⟨rfl, _, rfl, h⟩ rfl (zbn hz3) (Nat.le_of_ble_eq_true rfl) (Nat.le_of_ble_eq_true rfl) dX9_isSound_20
    · have h := h.2 c5
      refine z_iconst (v := 1) dX9_isSound_15 rfl ?_
      refine z_goto 20 dX9_isSound_16 (by decide) ?_
      obtain ⟨hz4, h⟩ := h
      exact z_zreturn ⟨rfl, _, rfl, h⟩ rfl (zbn hz4) (Nat.le_of_ble_eq_true rfl) (Nat.le_of_ble_eq_true rfl) dX9_isSound_20
set_option maxRecDepth 20000 in
set_option maxHeartbeats 4000000 in
theorem w_X2_handOutTrial {E : zE} {a0 : Nat} {S : zS} {Q : Option Nat → zS → Prop} {X : String → zS → Prop} (h : p_X2_handOutTrial E a0 S Q X) : zM E yX2_handOutTrial cX2_handOutTrial 2 (some (.object "GrandsireLoft$Touch")) ({ frames := 5, cells := 4, slots := 272, locals := 92 } : Room) [.ref a0] S (qR Q) X := by
  unfold p_X2_handOutTrial at h
  refine zM_of RX2 false (by decide) rfl (fun h => by cases h) (Nat.le_of_ble_eq_true rfl) ?_
  refine z_aload_n 0 dX2_handOutTrial_0 rfl rfl ?_
  obtain ⟨hf1, h⟩ := h
  refine z_getQ (c := 3) (j := 1) (f := 301) hf1.1 hf1.2 (Nat.le_of_ble_eq_true rfl) rfl zU_X2 (Nat.le_of_ble_eq_true rfl) (Nat.le_of_ble_eq_true rfl) ⟨_, zw_161, Or.inl rfl⟩ rfl rfl dX2_handOutTrial_1 ?_
  refine z_astore_nQ (lv' := [(1, va_rf (gR S 301 a0)), (0, .ref a0)]) dX2_handOutTrial_4 rfl (Nat.le_of_ble_eq_true rfl) rfl ?_
  refine z_aload_n 1 dX2_handOutTrial_5 rfl rfl ?_
  refine z_new (c := 9) (ty0 := tyX9) (Nat.le_of_ble_eq_true rfl) rfl zU_X9 tyX9_ok z0_X9 zw_108 zw_109 zw_36 (Nat.le_of_ble_eq_true rfl) (Nat.le_of_ble_eq_true rfl) dX2_handOutTrial_6 (fun q2 hq3 => ?_)
  have h := h q2 hq3 _ rfl
  obtain ⟨S4, hS5⟩ : ∃ z, z = nO S q2 9 := ⟨_, rfl⟩
  rw [← hS5] at h ⊢
  refine z_widen (k' := 1) (n' := 9) (Nat.le_refl _) (Nat.le_refl _) ?_
  refine z_dup dX2_handOutTrial_9 rfl ?_
  refine z_callIV (st := [.ref q2, .ref a0]) (w_X9_init h) zw_112 zw_110 zw_111 zw_36 rfl zy_X9_init rfl rfl ⟨Nat.le_of_ble_eq_true rfl, Nat.le_of_ble_eq_true rfl⟩ ⟨(Nat.le_of_ble_eq_true rfl), (Nat.le_of_ble_eq_true rfl)⟩ (Nat.le_of_ble_eq_true rfl) dX2_handOutTrial_10 (fun _ _ hx => hx.elim) (fun S6 h => ?_)
  refine z_widen (k' := 4) (n' := 272) (Nat.le_refl _) (Nat.le_refl _) ?_
  obtain ⟨hf8, h⟩ := h
  have h := h _ rfl
  refine z_putV (c := 3) (j := 1) (ty0 := tyX2) (S' := sR S6 301 a0 (some q2)) hf8.1 hf8.2 (Nat.le_of_ble_eq_true rfl) rfl zU_X2 tyX2_ok nmX2 (Nat.le_of_ble_eq_true rfl) (Nat.le_of_ble_eq_true rfl) ⟨_, zw_161, Or.inl rfl⟩ (.inl rfl) (zrefn (ty := tyX2 1) (o := (some q2)) (by decide)) (zreff (ty := tyX2 1) (o := (some q2)) (by decide)) rfl (zUpR (v := (some q2)) hf8.2 (Nat.le_of_ble_eq_true rfl) (Nat.le_of_ble_eq_true rfl) rfl rfl) dX2_handOutTrial_13 ?_
  obtain ⟨S9, hS10⟩ : ∃ z, z = sR S6 301 a0 (some q2) := ⟨_, rfl⟩
  rw [← hS10] at h ⊢
  have hf8 : a0 ∈ gL S9 ∧ gK S9 a0 = 3 := by rw [hS10]; exact hf8
  refine z_aload_nQ 0 dX2_handOutTrial_16 rfl rfl ?_
  exact z_areturn (v := va_rf (gR S 301 a0)) ⟨rfl, _, rfl, h⟩ rfl (.inl ⟨_, rfl⟩) (va_rf_or _) (Nat.le_of_ble_eq_true rfl) (Nat.le_of_ble_eq_true rfl) dX2_handOutTrial_17
set_option maxRecDepth 20000 in
set_option maxHeartbeats 4000000 in
theorem w_X2_callNext_L2 {E : zE} {K27 : Nat → Int32 → Int32 → zS → Prop} {K56 : zS → Prop} {Q : Int32 → zS → Prop} {X : String → zS → Prop} (hK27 : ∀ (a0 : Nat) (l3 : Int32) (l4 : Int32) (S : zS), K27 a0 l3 l4 S → zJ E (RX2, cX2_callNext, 5, (some .int), false, [], zTr) ({ frames := 2, cells := 0, slots := 0, locals := 44 } : Room) (zq (qI Q)) (zx X) 27 [(0, .ref a0), (3, .int l3), (4, .int l4)] [] [] S 0 0) (hK56 : ∀  (S : zS), K56  S → zJ E (RX2, cX2_callNext, 5, (some .int), false, [], zTr) ({ frames := 2, cells := 0, slots := 0, locals := 44 } : Room) (zq (qI Q)) (zx X) 56 [] [] [] S 0 0) : ∀ (m2 : Nat) (a0 : Nat) (a1 : Nat) (l3 : Int32) (S : zS), p_X2_callNext_L2 E K27 K56 Q X m2 a0 a1 l3 S → zJ E (RX2, cX2_callNext, 5, (some .int), false, [], zTr) ({ frames := 2, cells := 0, slots := 0, locals := 44 } : Room) (zq (qI Q)) (zx X) 2 [(0, .ref a0), (1, .ref a1), (3, .int l3)] [] [] S 0 0 := by
  intro m2
  induction m2 with
  | zero => intro a0 a1 l3 S h; exact (show False from h).elim
  | succ m2 ih =>
    intro a0 a1 l3 S h
    unfold p_X2_callNext_L2 at h
    refine z_iload_n 2 dX2_callNext_2 rfl rfl ?_
    refine z_if_lt 56 dX2_callNext_3 (by decide) (fun c26 => ?_) (fun c26 => ?_)
    · have h := h.1 c26
      refine z_sub [] rfl ?_
      exact hK56 S h
    · have h := h.2 c26
      refine z_aload_n 1 dX2_callNext_6 rfl rfl ?_
      refine z_aload_n 0 dX2_callNext_7 rfl rfl ?_
      obtain ⟨hf1, h⟩ := h
      refine z_getQ (c := 3) (j := 1) (f := 301) hf1.1 hf1.2 (Nat.le_of_ble_eq_true rfl) rfl zU_X2 (Nat.le_of_ble_eq_true rfl) (Nat.le_of_ble_eq_true rfl) ⟨_, zw_161, Or.inl rfl⟩ rfl rfl dX2_callNext_8 ?_
      obtain ⟨b2, hb3, h⟩ := h
      rw [show va_rf (gR S 301 a0) = Value.ref b2 from by rw [hb3]; rfl]
      obtain ⟨hf4, h⟩ := h
      refine z_getQ (c := 9) (j := 7) (f := 907) hf4.1 hf4.2 (Nat.le_of_ble_eq_true rfl) rfl zU_X9 (Nat.le_of_ble_eq_true rfl) (Nat.le_of_ble_eq_true rfl) ⟨_, zw_136, Or.inl rfl⟩ rfl rfl dX2_callNext_11 ?_
      refine z_iload_n 2 dX2_callNext_14 rfl rfl ?_
      obtain ⟨b5, hb6, h⟩ := h
      rw [show va_rf (gR S 907 b2) = Value.ref b5 from by rw [hb6]; rfl]
      obtain ⟨hf7, h⟩ := h
      obtain ⟨j8, hj9, h⟩ := h
      refine z_iald (j := j8) hf7.1 hf7.2 hj9.1 hj9.2.1 hj9.2.2 dX2_callNext_15 ?_
      obtain ⟨hf25, h⟩ := h
      refine z_callVI (ci := 5) (st := []) (w_X4_nextUnlikeCall h) hf25.1 hf25.2 (Nat.le_of_ble_eq_true rfl) rfl zw_766 zw_763 zw_764 zw_765 zw_52 zy_X4_nextUnlikeCall rfl rfl ⟨Nat.le_of_ble_eq_true rfl, Nat.le_of_ble_eq_true rfl⟩ ⟨(Nat.le_of_ble_eq_true rfl), (Nat.le_of_ble_eq_true rfl)⟩ (Nat.le_of_ble_eq_true rfl) dX2_callNext_16 (fun _ _ hx => hx.elim) (fun r11 S10 h => ?_)
      refine z_widen (k' := 0) (n' := 0) (Nat.le_refl _) (Nat.le_refl _) ?_
      refine z_istore (lv' := [(4, .int r11), (0, .ref a0), (1, .ref a1), (3, .int l3)]) dX2_callNext_19 (Nat.le_of_ble_eq_true rfl) rfl ?_
      refine z_iload 0 dX2_callNext_21 rfl ?_
      refine z_iconst (v := (-1)) dX2_callNext_23 rfl ?_
      refine z_icmp_eq 40 dX2_callNext_24 (by decide) (fun c24 => ?_) (fun c24 => ?_)
      · have h := h.1 c24
        refine z_aload_n 1 dX2_callNext_40 rfl rfl ?_
        obtain ⟨hf12, h⟩ := h
        refine z_getQ (c := 3) (j := 1) (f := 301) hf12.1 hf12.2 (Nat.le_of_ble_eq_true rfl) rfl zU_X2 (Nat.le_of_ble_eq_true rfl) (Nat.le_of_ble_eq_true rfl) ⟨_, zw_161, Or.inl rfl⟩ rfl rfl dX2_callNext_41 ?_
        obtain ⟨b13, hb14, h⟩ := h
        rw [show va_rf (gR S10 301 a0) = Value.ref b13 from by rw [hb14]; rfl]
        obtain ⟨hf15, h⟩ := h
        refine z_getQ (c := 9) (j := 7) (f := 907) hf15.1 hf15.2 (Nat.le_of_ble_eq_true rfl) rfl zU_X9 (Nat.le_of_ble_eq_true rfl) (Nat.le_of_ble_eq_true rfl) ⟨_, zw_136, Or.inl rfl⟩ rfl rfl dX2_callNext_44 ?_
        refine z_iload_n 3 dX2_callNext_47 rfl rfl ?_
        refine z_iconst (v := 0) dX2_callNext_48 rfl ?_
        obtain ⟨b16, hb17, h⟩ := h
        rw [show va_rf (gR S10 907 b13) = Value.ref b16 from by rw [hb17]; rfl]
        obtain ⟨hf18, h⟩ := h
        obtain ⟨j19, hj20, h⟩ := h
        have h := h _ rfl
        refine z_iast (j := j19) hf18.1 hf18.2 hj20.1 hj20.2.1 hj20.2.2 dX2_callNext_49 ?_
        obtain ⟨S21, hS22⟩ : ∃ z, z = sA S10 b16 j19 0 := ⟨_, rfl⟩
        rw [← hS22] at h ⊢
        have hf12 : a0 ∈ gL S21 ∧ gK S21 a0 = 3 := by rw [hS22]; exact hf12
        have hf15 : b13 ∈ gL S21 ∧ gK S21 b13 = 9 := by rw [hS22]; exact hf15
        have hf18 : b16 ∈ gL S21 ∧ gK S21 b16 = 12 := by rw [hS22]; exact hf18
        refine z_iinc (v := (l3 + (-1))) (lv' := [(3, .int (l3 + (-1))), (4, .int r11), (0, .ref a0), (1, .ref a1)]) 3 dX2_callNext_50 rfl rfl (Nat.le_of_ble_eq_true rfl) rfl ?_
        refine z_goto 2 dX2_callNext_53 (by decide) ?_
        refine z_sub [2, 3, 0] rfl ?_
        exact ih a0 a1 (l3 + (-1)) S21 h
      · have h := h.2 c24
        refine z_sub [1, 3, 0] rfl ?_
        exact hK27 a0 l3 r11 S10 h
set_option maxRecDepth 20000 in
set_option maxHeartbeats 4000000 in
theorem w_X2_callNext {E : zE} {a0 : Nat} {a1 : Nat} {l2 : Int32} {S : zS} {Q : Int32 → zS → Prop} {X : String → zS → Prop} (h : p_X2_callNext E a0 a1 l2 S Q X) : zM E yX2_callNext cX2_callNext 5 (some .int) ({ frames := 2, cells := 0, slots := 0, locals := 44 } : Room) [.ref a0, .ref a1, .int l2] S (qI Q) X := by
  unfold p_X2_callNext at h
  refine zM_of RX2 false (by decide) rfl (fun h => by cases h) (Nat.le_of_ble_eq_true rfl) ?_
  refine z_iload_n 2 dX2_callNext_0 rfl rfl ?_
  refine z_istore_n (lv' := [(3, .int l2), (0, .ref a0), (1, .ref a1), (2, .int l2)]) dX2_callNext_1 rfl (Nat.le_of_ble_eq_true rfl) rfl ?_
  obtain ⟨m2, h⟩ := h
  refine z_sub [1, 2, 0] rfl ?_
  refine w_X2_callNext_L2 (fun a0 l3 l4 S h => ?_) (fun S h => ?_) m2 a0 a1 l2 S h
  · refine z_aload_n 0 dX2_callNext_27 rfl rfl ?_
    obtain ⟨hf27, h⟩ := h
    refine z_getQ (c := 3) (j := 1) (f := 301) hf27.1 hf27.2 (Nat.le_of_ble_eq_true rfl) rfl zU_X2 (Nat.le_of_ble_eq_true rfl) (Nat.le_of_ble_eq_true rfl) ⟨_, zw_161, Or.inl rfl⟩ rfl rfl dX2_callNext_28 ?_
    obtain ⟨b28, hb29, h⟩ := h
    rw [show va_rf (gR S 301 a0) = Value.ref b28 from by rw [hb29]; rfl]
    obtain ⟨hf30, h⟩ := h
    refine z_getQ (c := 9) (j := 7) (f := 907) hf30.1 hf30.2 (Nat.le_of_ble_eq_true rfl) rfl zU_X9 (Nat.le_of_ble_eq_true rfl) (Nat.le_of_ble_eq_true rfl) ⟨_, zw_136, Or.inl rfl⟩ rfl rfl dX2_callNext_31 ?_
    refine z_iload_n 1 dX2_callNext_34 rfl rfl ?_
    refine z_iload 2 dX2_callNext_35 rfl ?_
    obtain ⟨b31, hb32, h⟩ := h
    rw [show va_rf (gR S 907 b28) = Value.ref b31 from by rw [hb32]; rfl]
    obtain ⟨hf33, h⟩ := h
    obtain ⟨j34, hj35, h⟩ := h
    have h := h _ rfl
    refine z_iast (j := j34) hf33.1 hf33.2 hj35.1 hj35.2.1 hj35.2.2 dX2_callNext_37 ?_
    obtain ⟨S36, hS37⟩ : ∃ z, z = sA S b31 j34 l4 := ⟨_, rfl⟩
    rw [← hS37] at h ⊢
    have hf27 : a0 ∈ gL S36 ∧ gK S36 a0 = 3 := by rw [hS37]; exact hf27
    have hf30 : b28 ∈ gL S36 ∧ gK S36 b28 = 9 := by rw [hS37]; exact hf30
    have hf33 : b31 ∈ gL S36 ∧ gK S36 b31 = 12 := by rw [hS37]; exact hf33
    refine z_iload_n 1 dX2_callNext_38 rfl rfl ?_
    exact z_ireturn ⟨rfl, _, rfl, h⟩ rfl (Nat.le_of_ble_eq_true rfl) (Nat.le_of_ble_eq_true rfl) dX2_callNext_39
  · refine z_iconst (v := (-1)) dX2_callNext_56 rfl ?_
    exact z_ireturn ⟨rfl, _, rfl, h⟩ rfl (Nat.le_of_ble_eq_true rfl) (Nat.le_of_ble_eq_true rfl) dX2_callNext_57
set_option maxRecDepth 20000 in
set_option maxHeartbeats 4000000 in
theorem w_X2_soundTouch_L9 {E : zE} {K29 : Nat → Nat → Int32 → zS → Prop} {Q : Option Nat → zS → Prop} {X : String → zS → Prop} (hK29 : ∀ (a0 : Nat) (a1 : Nat) (l2 : Int32) (S : zS), K29 a0 a1 l2 S → zJ E (RX2, cX2_soundTouch, 5, (some (.object "GrandsireLoft$Touch")), false, [], zTr) ({ frames := 8, cells := 11, slots := 426, locals := 193 } : Room) (zq (qR Q)) (zx X) 29 [(0, .ref a0), (1, .ref a1), (2, .int l2)] [] [] S 7 154) : ∀ (m9 k n : Nat), k + m9 * 1 ≤ 7 → n + m9 * 22 ≤ 154 → ∀ (a0 : Nat) (a1 : Nat) (l2 : Int32) (l3 : Int32) (S : zS), p_X2_soundTouch_L9 E K29 Q X m9 a0 a1 l2 l3 S → zJ E (RX2, cX2_soundTouch, 5, (some (.object "GrandsireLoft$Touch")), false, [], zTr) ({ frames := 8, cells := 11, slots := 426, locals := 193 } : Room) (zq (qR Q)) (zx X) 9 [(0, .ref a0), (1, .ref a1), (2, .int l2), (3, .int l3)] [] [] S k n := by
  intro m9
  induction m9 with
  | zero => intro k n hk hn a0 a1 l2 l3 S h; exact (show False from h).elim
  | succ m9 ih =>
    intro k n hk hn a0 a1 l2 l3 S h
    unfold p_X2_soundTouch_L9 at h
    refine z_iload_n 3 dX2_soundTouch_9 rfl rfl ?_
    refine z_iload_n 2 dX2_soundTouch_10 rfl rfl ?_
    refine z_icmp_ge 29 dX2_soundTouch_11 (by decide) (fun c12 => ?_) (fun c12 => ?_)
    · have h := h.1 c12
      refine z_sub [0, 1, 2] rfl ?_
      refine z_widen (k' := 7) (n' := 154) (by omega) (by omega) ?_
      exact hK29 a0 a1 l2 S h
    · have h := h.2 c12
      refine z_aload_n 0 dX2_soundTouch_14 rfl rfl ?_
      obtain ⟨hf6, h⟩ := h
      refine z_getQ (c := 3) (j := 1) (f := 301) hf6.1 hf6.2 (Nat.le_of_ble_eq_true rfl) rfl zU_X2 (Nat.le_of_ble_eq_true rfl) (Nat.le_of_ble_eq_true rfl) ⟨_, zw_161, Or.inl rfl⟩ rfl rfl dX2_soundTouch_15 ?_
      refine z_aload_n 1 dX2_soundTouch_18 rfl rfl ?_
      refine z_iconst (v := 0) dX2_soundTouch_19 rfl ?_
      obtain ⟨b7, hb8, h⟩ := h
      rw [show va_rf (gR S 301 a0) = Value.ref b7 from by rw [hb8]; rfl]
      obtain ⟨hf11, h⟩ := h
      refine z_callVV (ci := 9) (st := []) (w_X9_addLead h) hf11.1 hf11.2 (Nat.le_of_ble_eq_true rfl) rfl zw_722 zw_752 zw_720 zw_721 zw_36 zy_X9_addLead rfl rfl ⟨Nat.le_of_ble_eq_true rfl, Nat.le_of_ble_eq_true rfl⟩ ⟨(by show k + 1 ≤ 11; omega), (by show n + 22 ≤ 426; omega)⟩ (Nat.le_of_ble_eq_true rfl) dX2_soundTouch_20 (fun _ _ hx => hx.elim) (fun S9 h => ?_)
      refine z_widen (k' := (k + 1)) (n' := (n + 22)) (Nat.le_of_eq rfl) (Nat.le_of_eq rfl) ?_
      refine z_iinc (v := (l3 + 1)) (lv' := [(3, .int (l3 + 1)), (0, .ref a0), (1, .ref a1), (2, .int l2)]) 3 dX2_soundTouch_23 rfl rfl (Nat.le_of_ble_eq_true rfl) rfl ?_
      refine z_goto 9 dX2_soundTouch_26 (by decide) ?_
      refine z_sub [1, 2, 3, 0] rfl ?_
      exact ih (k + 1) (n + 22) (by omega) (by omega) a0 a1 l2 (l3 + 1) S9 h
set_option maxRecDepth 20000 in
set_option maxHeartbeats 4000000 in
theorem w_X2_soundTouch_L34 {E : zE} {K69 : Nat → zS → Prop} {K110 : zS → Prop} {Q : Option Nat → zS → Prop} {X : String → zS → Prop} (hK69 : ∀ (a0 : Nat) (S : zS), K69 a0 S → zJ E (RX2, cX2_soundTouch, 5, (some (.object "GrandsireLoft$Touch")), false, [], zTr) ({ frames := 8, cells := 11, slots := 426, locals := 193 } : Room) (zq (qR Q)) (zx X) 69 [(0, .ref a0)] [] [] S 7 154) (hK110 : ∀  (S : zS), K110  S → zJ E (RX2, cX2_soundTouch, 5, (some (.object "GrandsireLoft$Touch")), false, [], zTr) ({ frames := 8, cells := 11, slots := 426, locals := 193 } : Room) (zq (qR Q)) (zx X) 110 [] [] [] S 7 154) : ∀ (m34 : Nat) (a0 : Nat) (a1 : Nat) (l2 : Int32) (l3 : Int32) (l4 : Int32) (S : zS), p_X2_soundTouch_L34 E K69 K110 Q X m34 a0 a1 l2 l3 l4 S → zJ E (RX2, cX2_soundTouch, 5, (some (.object "GrandsireLoft$Touch")), false, [], zTr) ({ frames := 8, cells := 11, slots := 426, locals := 193 } : Room) (zq (qR Q)) (zx X) 34 [(0, .ref a0), (1, .ref a1), (2, .int l2), (3, .int l3), (4, .int l4)] [] [] S 7 154 := by
  intro m34
  induction m34 with
  | zero => intro a0 a1 l2 l3 l4 S h; exact (show False from h).elim
  | succ m34 ih =>
    intro a0 a1 l2 l3 l4 S h
    unfold p_X2_soundTouch_L34 at h
    refine z_iload 4 dX2_soundTouch_34 rfl ?_
    refine z_sipush (v := 729) dX2_soundTouch_36 rfl ?_
    refine z_icmp_ge 110 dX2_soundTouch_39 (by decide) (fun c41 => ?_) (fun c41 => ?_)
    · have h := h.1 c41
      refine z_sub [] rfl ?_
      exact hK110 S h
    · have h := h.2 c41
      refine z_iload_n 3 dX2_soundTouch_42 rfl rfl ?_
      refine z_iconst (v := (-1)) dX2_soundTouch_43 rfl ?_
      refine z_icmp_eq 110 dX2_soundTouch_44 (by decide) (fun c40 => ?_) (fun c40 => ?_)
      · have h := h.1 c40
        refine z_sub [] rfl ?_
        exact hK110 S h
      · have h := h.2 c40
        refine z_aload_n 0 dX2_soundTouch_47 rfl rfl ?_
        obtain ⟨hf13, h⟩ := h
        refine z_getQ (c := 3) (j := 1) (f := 301) hf13.1 hf13.2 (Nat.le_of_ble_eq_true rfl) rfl zU_X2 (Nat.le_of_ble_eq_true rfl) (Nat.le_of_ble_eq_true rfl) ⟨_, zw_161, Or.inl rfl⟩ rfl rfl dX2_soundTouch_48 ?_
        refine z_iload_n 3 dX2_soundTouch_51 rfl rfl ?_
        refine z_aload_n 0 dX2_soundTouch_52 rfl rfl ?_
        refine z_getQ (c := 3) (j := 0) (f := 300) hf13.1 hf13.2 (Nat.le_of_ble_eq_true rfl) rfl zU_X2 (Nat.le_of_ble_eq_true rfl) (Nat.le_of_ble_eq_true rfl) ⟨_, zw_160, Or.inl rfl⟩ rfl rfl dX2_soundTouch_53 ?_
        obtain ⟨b14, hb15, h⟩ := h
        rw [show va_rf (gR S 301 a0) = Value.ref b14 from by rw [hb15]; rfl]
        obtain ⟨b16, hb17, h⟩ := h
        rw [show va_rf (gR S 300 a0) = Value.ref b16 from by rw [hb17]; rfl]
        obtain ⟨hf39, h⟩ := h
        refine z_callVV (ci := 9) (st := []) (w_X9_writeFrom h) hf39.1 hf39.2 (Nat.le_of_ble_eq_true rfl) rfl zw_647 zw_753 zw_645 zw_646 zw_36 zy_X9_writeFrom rfl rfl ⟨Nat.le_of_ble_eq_true rfl, Nat.le_of_ble_eq_true rfl⟩ ⟨(Nat.le_of_ble_eq_true rfl), (Nat.le_of_ble_eq_true rfl)⟩ (Nat.le_of_ble_eq_true rfl) dX2_soundTouch_56 (fun _ _ hx => hx.elim) (fun S18 h => ?_)
        refine z_widen (k' := 7) (n' := 154) (Nat.le_refl _) (Nat.le_refl _) ?_
        refine z_aload_n 0 dX2_soundTouch_59 rfl rfl ?_
        obtain ⟨hf20, h⟩ := h
        refine z_getQ (c := 3) (j := 1) (f := 301) hf20.1 hf20.2 (Nat.le_of_ble_eq_true rfl) rfl zU_X2 (Nat.le_of_ble_eq_true rfl) (Nat.le_of_ble_eq_true rfl) ⟨_, zw_161, Or.inl rfl⟩ rfl rfl dX2_soundTouch_60 ?_
        obtain ⟨b21, hb22, h⟩ := h
        rw [show va_rf (gR S18 301 a0) = Value.ref b21 from by rw [hb22]; rfl]
        obtain ⟨hf38, h⟩ := h
        refine z_callVI (ci := 9) (st := []) (w_X9_isSound h) hf38.1 hf38.2 (Nat.le_of_ble_eq_true rfl) rfl zw_693 zw_754 zw_691 zw_692 zw_36 zy_X9_isSound rfl rfl ⟨Nat.le_of_ble_eq_true rfl, Nat.le_of_ble_eq_true rfl⟩ ⟨(Nat.le_of_ble_eq_true rfl), (Nat.le_of_ble_eq_true rfl)⟩ (Nat.le_of_ble_eq_true rfl) dX2_soundTouch_63 (fun _ _ hx => hx.elim) (fun r24 S23 h => ?_)
        refine z_widen (k' := 7) (n' := 154) (Nat.le_refl _) (Nat.le_refl _) ?_
        refine z_if_eq 74 dX2_soundTouch_66 (by decide) (fun c37 => ?_) (fun c37 => ?_)
        · have h := h.1 c37
          refine z_aload_n 0 dX2_soundTouch_74 rfl rfl ?_
          refine z_aload_n 1 dX2_soundTouch_75 rfl rfl ?_
          refine z_aload_n 0 dX2_soundTouch_76 rfl rfl ?_
          obtain ⟨hf25, h⟩ := h
          refine z_getQ (c := 3) (j := 1) (f := 301) hf25.1 hf25.2 (Nat.le_of_ble_eq_true rfl) rfl zU_X2 (Nat.le_of_ble_eq_true rfl) (Nat.le_of_ble_eq_true rfl) ⟨_, zw_161, Or.inl rfl⟩ rfl rfl dX2_soundTouch_77 ?_
          obtain ⟨b26, hb27, h⟩ := h
          rw [show va_rf (gR S23 301 a0) = Value.ref b26 from by rw [hb27]; rfl]
          obtain ⟨hf28, h⟩ := h
          refine z_getI (c := 9) (j := 3) (f := 903) hf28.1 hf28.2 (Nat.le_of_ble_eq_true rfl) rfl zU_X9 (Nat.le_of_ble_eq_true rfl) (Nat.le_of_ble_eq_true rfl) ⟨_, zw_127, Or.inl rfl⟩ rfl rfl dX2_soundTouch_80 ?_
          refine z_iconst (v := (-1)) dX2_soundTouch_83 rfl ?_
          refine z_icmp_ne 93 dX2_soundTouch_84 (by decide) (fun c36 => ?_) (fun c36 => ?_)
          · have h := h.1 c36
            refine z_aload_n 0 dX2_soundTouch_93 rfl rfl ?_
            refine z_getQ (c := 3) (j := 1) (f := 301) hf25.1 hf25.2 (Nat.le_of_ble_eq_true rfl) rfl zU_X2 (Nat.le_of_ble_eq_true rfl) (Nat.le_of_ble_eq_true rfl) ⟨_, zw_161, Or.inl rfl⟩ rfl rfl dX2_soundTouch_94 ?_
            obtain ⟨b29, hb30, h⟩ := h
            rw [show va_rf (gR S23 301 a0) = Value.ref b29 from by rw [hb30]; rfl]
            obtain ⟨hf31, h⟩ := h
            refine z_getI (c := 9) (j := 4) (f := 904) hf31.1 hf31.2 (Nat.le_of_ble_eq_true rfl) rfl zU_X9 (Nat.le_of_ble_eq_true rfl) (Nat.le_of_ble_eq_true rfl) ⟨_, zw_130, Or.inl rfl⟩ rfl rfl dX2_soundTouch_97 ?_
            refine z_callVI (ci := 3) (st := []) (w_X2_callNext h) hf25.1 hf25.2 (Nat.le_of_ble_eq_true rfl) rfl zw_762 zw_759 zw_761 zw_15 zw_35 zy_X2_callNext rfl rfl ⟨Nat.le_of_ble_eq_true rfl, Nat.le_of_ble_eq_true rfl⟩ ⟨(Nat.le_of_ble_eq_true rfl), (Nat.le_of_ble_eq_true rfl)⟩ (Nat.le_of_ble_eq_true rfl) dX2_soundTouch_100 (fun _ _ hx => hx.elim) (fun r33 S32 h => ?_)
            refine z_widen (k' := 7) (n' := 154) (Nat.le_refl _) (Nat.le_refl _) ?_
            refine z_istore_n (lv' := [(3, .int r33), (0, .ref a0), (1, .ref a1), (2, .int l2), (4, .int l4)]) dX2_soundTouch_103 rfl (Nat.le_of_ble_eq_true rfl) rfl ?_
            refine z_iinc (v := (l4 + 1)) (lv' := [(4, .int (l4 + 1)), (3, .int r33), (0, .ref a0), (1, .ref a1), (2, .int l2)]) 4 dX2_soundTouch_104 rfl rfl (Nat.le_of_ble_eq_true rfl) rfl ?_
            refine z_goto 34 dX2_soundTouch_107 (by decide) ?_
            refine z_sub [2, 3, 4, 1, 0] rfl ?_
            exact ih a0 a1 l2 r33 (l4 + 1) S32 h
          · have h := h.2 c36
            refine z_iload_n 2 dX2_soundTouch_87 rfl rfl ?_
            refine z_iconst (v := 1) dX2_soundTouch_88 rfl ?_
            refine z_isub dX2_soundTouch_89 ?_
            refine z_goto 100 dX2_soundTouch_90 (by decide) ?_
            refine z_callVI (ci := 3) (st := []) (w_X2_callNext h) hf25.1 hf25.2 (Nat.le_of_ble_eq_true rfl) rfl zw_762 zw_759 zw_761 zw_15 zw_35 zy_X2_callNext rfl rfl ⟨Nat.le_of_ble_eq_true rfl, Nat.le_of_ble_eq_true rfl⟩ ⟨(Nat.le_of_ble_eq_true rfl), (Nat.le_of_ble_eq_true rfl)⟩ (Nat.le_of_ble_eq_true rfl) dX2_soundTouch_100 (fun _ _ hx => hx.elim) (fun r35 S34 h => ?_)
            refine z_widen (k' := 7) (n' := 154) (Nat.le_refl _) (Nat.le_refl _) ?_
            refine z_istore_n (lv' := [(3, .int r35), (0, .ref a0), (1, .ref a1), (2, .int l2), (4, .int l4)]) dX2_soundTouch_103 rfl (Nat.le_of_ble_eq_true rfl) rfl ?_
            refine z_iinc (v := (l4 + 1)) (lv' := [(4, .int (l4 + 1)), (3, .int r35), (0, .ref a0), (1, .ref a1), (2, .int l2)]) 4 dX2_soundTouch_104 rfl rfl (Nat.le_of_ble_eq_true rfl) rfl ?_
            refine z_goto 34 dX2_soundTouch_107 (by decide) ?_
            refine z_sub [2, 3, 4, 1, 0] rfl ?_
            exact ih a0 a1 l2 r35 (l4 + 1) S34 h
        · have h := h.2 c37
          refine z_sub [0] rfl ?_
          exact hK69 a0 S23 h
set_option maxRecDepth 20000 in
set_option maxHeartbeats 4000000 in
theorem w_X2_soundTouch {E : zE} {a0 : Nat} {a1 : Nat} {l2 : Int32} {S : zS} {Q : Option Nat → zS → Prop} {X : String → zS → Prop} (h : p_X2_soundTouch E a0 a1 l2 S Q X) : zM E yX2_soundTouch cX2_soundTouch 5 (some (.object "GrandsireLoft$Touch")) ({ frames := 8, cells := 11, slots := 426, locals := 193 } : Room) [.ref a0, .ref a1, .int l2] S (qR Q) X := by
  unfold p_X2_soundTouch at h
  refine zM_of RX2 false (by decide) rfl (fun h => by cases h) (Nat.le_of_ble_eq_true rfl) ?_
  refine z_aload_n 0 dX2_soundTouch_0 rfl rfl ?_
  obtain ⟨hf1, h⟩ := h
  refine z_getQ (c := 3) (j := 1) (f := 301) hf1.1 hf1.2 (Nat.le_of_ble_eq_true rfl) rfl zU_X2 (Nat.le_of_ble_eq_true rfl) (Nat.le_of_ble_eq_true rfl) ⟨_, zw_161, Or.inl rfl⟩ rfl rfl dX2_soundTouch_1 ?_
  obtain ⟨b2, hb3, h⟩ := h
  rw [show va_rf (gR S 301 a0) = Value.ref b2 from by rw [hb3]; rfl]
  obtain ⟨hf45, h⟩ := h
  refine z_callVV (ci := 9) (st := []) (w_X9_clear h) hf45.1 hf45.2 (Nat.le_of_ble_eq_true rfl) rfl zw_747 zw_744 zw_745 zw_746 zw_36 zy_X9_clear rfl rfl ⟨Nat.le_of_ble_eq_true rfl, Nat.le_of_ble_eq_true rfl⟩ ⟨(Nat.le_of_ble_eq_true rfl), (Nat.le_of_ble_eq_true rfl)⟩ (Nat.le_of_ble_eq_true rfl) dX2_soundTouch_4 (fun _ _ hx => hx.elim) (fun S4 h => ?_)
  refine z_widen (k' := 0) (n' := 0) (Nat.le_refl _) (Nat.le_refl _) ?_
  refine z_iconst (v := 0) dX2_soundTouch_7 rfl ?_
  refine z_istore_n (lv' := [(3, .int 0), (0, .ref a0), (1, .ref a1), (2, .int l2)]) dX2_soundTouch_8 rfl (Nat.le_of_ble_eq_true rfl) rfl ?_
  obtain ⟨m9, hm, h⟩ := h
  refine z_sub [1, 2, 3, 0] rfl ?_
  refine w_X2_soundTouch_L9 (fun a0 a1 l2 S h => ?_) m9 0 0 (by omega) (by omega) a0 a1 l2 0 S4 h
  refine z_iconst (v := 0) dX2_soundTouch_29 rfl ?_
  refine z_istore_n (lv' := [(3, .int 0), (0, .ref a0), (1, .ref a1), (2, .int l2)]) dX2_soundTouch_30 rfl (Nat.le_of_ble_eq_true rfl) rfl ?_
  refine z_iconst (v := 0) dX2_soundTouch_31 rfl ?_
  refine z_istore (lv' := [(4, .int 0), (3, .int 0), (0, .ref a0), (1, .ref a1), (2, .int l2)]) dX2_soundTouch_32 (Nat.le_of_ble_eq_true rfl) rfl ?_
  obtain ⟨m34, h⟩ := h
  refine z_sub [2, 3, 4, 1, 0] rfl ?_
  refine w_X2_soundTouch_L34 (fun a0 S h => ?_) (fun S h => ?_) m34 a0 a1 l2 0 0 S h
  · refine z_aload_n 0 dX2_soundTouch_69 rfl rfl ?_
    obtain ⟨hf44, h⟩ := h
    refine z_callVR (ci := 3) (st := []) (w_X2_handOutTrial h) hf44.1 hf44.2 (Nat.le_of_ble_eq_true rfl) rfl zw_758 zw_755 zw_757 zw_14 zw_35 zy_X2_handOutTrial rfl rfl ⟨Nat.le_of_ble_eq_true rfl, Nat.le_of_ble_eq_true rfl⟩ ⟨(Nat.le_of_ble_eq_true rfl), (Nat.le_of_ble_eq_true rfl)⟩ (Nat.le_of_ble_eq_true rfl) dX2_soundTouch_70 (fun _ _ hx => hx.elim) (fun r43 S42 h => ?_)
    refine z_widen (k' := 11) (n' := 426) (Nat.le_refl _) (Nat.le_refl _) ?_
    exact z_areturn (v := va_rf r43) ⟨rfl, _, rfl, h⟩ rfl (.inl ⟨_, rfl⟩) (va_rf_or _) (Nat.le_of_ble_eq_true rfl) (Nat.le_of_ble_eq_true rfl) dX2_soundTouch_73
  · refine z_null dX2_soundTouch_110 ?_
    exact z_areturn (v := va_rf none) ⟨rfl, _, rfl, h⟩ rfl (.inl ⟨_, rfl⟩) (va_rf_or _) (Nat.le_of_ble_eq_true rfl) (Nat.le_of_ble_eq_true rfl) dX2_soundTouch_111
set_option maxRecDepth 20000 in
set_option maxHeartbeats 4000000 in
theorem w_X3_init {E : zE} {a0 : Nat} {S : zS} {Q : zS → Prop} {X : String → zS → Prop} (h : p_X3_init E a0 S Q X) : zM E yX3_init cX3_init 1 none ({ frames := 4, cells := 1, slots := 3, locals := 72 } : Room) [.ref a0] S (qV Q) X := by
  unfold p_X3_init at h
  refine zM_of RX3 true (by decide) rfl (fun h => rfl) (Nat.le_of_ble_eq_true rfl) ?_
  refine z_aload_n 0 dX3_init_0 rfl rfl ?_
  refine z_objInit zw_232 (Nat.le_of_ble_eq_true rfl) (Nat.le_of_ble_eq_true rfl) dX3_init_1 ?_
  refine z_aload_n 0 dX3_init_4 rfl rfl ?_
  refine z_new (c := 0) (ty0 := tyJx4a65c) (Nat.le_of_ble_eq_true rfl) rfl zU_Jx4a65c tyJx4a65c_ok z0_Jx4a65c zw_233 zw_66 zw_33 (Nat.le_of_ble_eq_true rfl) (Nat.le_of_ble_eq_true rfl) dX3_init_5 (fun q1 hq2 => ?_)
  have h := h q1 hq2 _ rfl
  obtain ⟨S3, hS4⟩ : ∃ z, z = nO S q1 0 := ⟨_, rfl⟩
  rw [← hS4] at h ⊢
  refine z_widen (k' := 1) (n' := 3) (Nat.le_refl _) (Nat.le_refl _) ?_
  refine z_dup dX3_init_8 rfl ?_
  refine z_callIV (st := [.ref q1, .ref a0]) (w_Jx4a65c_init_da8c8 h) zw_69 zw_234 zw_68 zw_33 rfl zy_Jx4a65c_init_da8c8 rfl rfl ⟨Nat.le_of_ble_eq_true rfl, Nat.le_of_ble_eq_true rfl⟩ ⟨(Nat.le_of_ble_eq_true rfl), (Nat.le_of_ble_eq_true rfl)⟩ (Nat.le_of_ble_eq_true rfl) dX3_init_9 (fun _ _ hx => hx.elim) (fun S5 h => ?_)
  refine z_widen (k' := 1) (n' := 3) (Nat.le_refl _) (Nat.le_refl _) ?_
  obtain ⟨hf7, h⟩ := h
  have h := h _ rfl
  refine z_putV (c := 4) (j := 0) (ty0 := tyX3) (S' := sR S5 400 a0 (some q1)) hf7.1 hf7.2 (Nat.le_of_ble_eq_true rfl) rfl zU_X3 tyX3_ok nmX3 (Nat.le_of_ble_eq_true rfl) (Nat.le_of_ble_eq_true rfl) ⟨_, zw_235, Or.inl rfl⟩ (.inr ⟨rfl, rfl⟩) (zrefn (ty := tyX3 0) (o := (some q1)) (by decide)) (zreff (ty := tyX3 0) (o := (some q1)) (by decide)) rfl (zUpR (v := (some q1)) hf7.2 (Nat.le_of_ble_eq_true rfl) (Nat.le_of_ble_eq_true rfl) rfl rfl) dX3_init_12 ?_
  obtain ⟨S8, hS9⟩ : ∃ z, z = sR S5 400 a0 (some q1) := ⟨_, rfl⟩
  rw [← hS9] at h ⊢
  have hf7 : a0 ∈ gL S8 ∧ gK S8 a0 = 4 := by rw [hS9]; exact hf7
  exact z_return ⟨rfl, rfl, h⟩ rfl (Nat.le_of_ble_eq_true rfl) (Nat.le_of_ble_eq_true rfl) dX3_init_15
set_option maxRecDepth 20000 in
set_option maxHeartbeats 4000000 in
theorem w_X3_hasTouch_L2 {E : zE} {K25 : zS → Prop} {K33 : zS → Prop} {Q : Int32 → zS → Prop} {X : String → zS → Prop} (hK25 : ∀  (S : zS), K25  S → zJ E (RX3, cX3_hasTouch, 3, (some .boolean), false, [], zTr) ({ frames := 3, cells := 0, slots := 0, locals := 64 } : Room) (zq (qI Q)) (zx X) 25 [] [] [] S 0 0) (hK33 : ∀  (S : zS), K33  S → zJ E (RX3, cX3_hasTouch, 3, (some .boolean), false, [], zTr) ({ frames := 3, cells := 0, slots := 0, locals := 64 } : Room) (zq (qI Q)) (zx X) 33 [] [] [] S 0 0) : ∀ (m2 : Nat) (a0 : Nat) (a1 : Nat) (l2 : Int32) (S : zS), p_X3_hasTouch_L2 E K25 K33 Q X m2 a0 a1 l2 S → zJ E (RX3, cX3_hasTouch, 3, (some .boolean), false, [], zTr) ({ frames := 3, cells := 0, slots := 0, locals := 64 } : Room) (zq (qI Q)) (zx X) 2 [(0, .ref a0), (1, .ref a1), (2, .int l2)] [] [] S 0 0 := by
  intro m2
  induction m2 with
  | zero => intro a0 a1 l2 S h; exact (show False from h).elim
  | succ m2 ih =>
    intro a0 a1 l2 S h
    unfold p_X3_hasTouch_L2 at h
    refine z_iload_n 2 dX3_hasTouch_2 rfl rfl ?_
    refine z_aload_n 0 dX3_hasTouch_3 rfl rfl ?_
    obtain ⟨hf1, h⟩ := h
    refine z_getQ (c := 4) (j := 0) (f := 400) hf1.1 hf1.2 (Nat.le_of_ble_eq_true rfl) rfl zU_X3 (Nat.le_of_ble_eq_true rfl) (Nat.le_of_ble_eq_true rfl) ⟨_, zw_235, Or.inl rfl⟩ rfl rfl dX3_hasTouch_4 ?_
    obtain ⟨b2, hb3, h⟩ := h
    rw [show va_rf (gR S 400 a0) = Value.ref b2 from by rw [hb3]; rfl]
    obtain ⟨hf14, h⟩ := h
    refine z_callVI (ci := 0) (st := [.int l2]) (w_Jx4a65c_size_8abf5 h) hf14.1 hf14.2 (Nat.le_of_ble_eq_true rfl) rfl zw_423 zw_683 zw_421 zw_422 zw_33 zy_Jx4a65c_size_8abf5 rfl rfl ⟨Nat.le_of_ble_eq_true rfl, Nat.le_of_ble_eq_true rfl⟩ ⟨(Nat.le_of_ble_eq_true rfl), (Nat.le_of_ble_eq_true rfl)⟩ (Nat.le_of_ble_eq_true rfl) dX3_hasTouch_7 (fun _ _ hx => hx.elim) (fun r5 S4 h => ?_)
    refine z_widen (k' := 0) (n' := 0) (Nat.le_refl _) (Nat.le_refl _) ?_
    refine z_icmp_ge 33 dX3_hasTouch_10 (by decide) (fun c13 => ?_) (fun c13 => ?_)
    · have h := h.1 c13
      refine z_sub [] rfl ?_
      exact hK33 S4 h
    · have h := h.2 c13
      refine z_aload_n 0 dX3_hasTouch_13 rfl rfl ?_
      obtain ⟨hf6, h⟩ := h
      refine z_getQ (c := 4) (j := 0) (f := 400) hf6.1 hf6.2 (Nat.le_of_ble_eq_true rfl) rfl zU_X3 (Nat.le_of_ble_eq_true rfl) (Nat.le_of_ble_eq_true rfl) ⟨_, zw_235, Or.inl rfl⟩ rfl rfl dX3_hasTouch_14 ?_
      refine z_iload_n 2 dX3_hasTouch_17 rfl rfl ?_
      obtain ⟨b7, hb8, h⟩ := h
      rw [show va_rf (gR S4 400 a0) = Value.ref b7 from by rw [hb8]; rfl]
      obtain ⟨hf12, h⟩ := h
      refine z_callVR (ci := 0) (st := []) (w_Jx4a65c_get_915e3 h) hf12.1 hf12.2 (Nat.le_of_ble_eq_true rfl) rfl zw_607 zw_684 zw_605 zw_606 zw_33 zy_Jx4a65c_get_915e3 rfl rfl ⟨Nat.le_of_ble_eq_true rfl, Nat.le_of_ble_eq_true rfl⟩ ⟨(Nat.le_of_ble_eq_true rfl), (Nat.le_of_ble_eq_true rfl)⟩ (Nat.le_of_ble_eq_true rfl) dX3_hasTouch_18 (fun _ _ hx => hx.elim) (fun r10 S9 h => ?_)
      refine z_widen (k' := 0) (n' := 0) (Nat.le_refl _) (Nat.le_refl _) ?_
      refine z_aload_n 1 dX3_hasTouch_21 rfl rfl ?_
      refine z_acmp_ne (rx := r10) (ry := (some a1)) 27 dX3_hasTouch_22 (by decide) (fun c11 => ?_) (fun c11 => ?_)
      · have h := h.1 c11
        refine z_iinc (v := (l2 + 1)) (lv' := [(2, .int (l2 + 1)), (0, .ref a0), (1, .ref a1)]) 2 dX3_hasTouch_27 rfl rfl (Nat.le_of_ble_eq_true rfl) rfl ?_
        refine z_goto 2 dX3_hasTouch_30 (by decide) ?_
        refine z_sub [1, 2, 0] rfl ?_
        exact ih a0 a1 (l2 + 1) S9 h
      · have h := h.2 c11
        refine z_sub [] rfl ?_
        exact hK25 S9 h
set_option maxRecDepth 20000 in
set_option maxHeartbeats 4000000 in
theorem w_X3_hasTouch {E : zE} {a0 : Nat} {a1 : Nat} {S : zS} {Q : Int32 → zS → Prop} {X : String → zS → Prop} (h : p_X3_hasTouch E a0 a1 S Q X) : zM E yX3_hasTouch cX3_hasTouch 3 (some .boolean) ({ frames := 3, cells := 0, slots := 0, locals := 64 } : Room) [.ref a0, .ref a1] S (qI Q) X := by
  unfold p_X3_hasTouch at h
  refine zM_of RX3 false (by decide) rfl (fun h => by cases h) (Nat.le_of_ble_eq_true rfl) ?_
  refine z_iconst (v := 0) dX3_hasTouch_0 rfl ?_
  refine z_istore_n (lv' := [(2, .int 0), (0, .ref a0), (1, .ref a1)]) dX3_hasTouch_1 rfl (Nat.le_of_ble_eq_true rfl) rfl ?_
  obtain ⟨m2, h⟩ := h
  refine z_sub [1, 2, 0] rfl ?_
  refine w_X3_hasTouch_L2 (fun S h => ?_) (fun S h => ?_) m2 a0 a1 0 S h
  · refine z_iconst (v := 1) dX3_hasTouch_25 rfl ?_
    obtain ⟨hz15, h⟩ := h
    exact z_zreturn ⟨rfl, _, rfl, h⟩ rfl (zbn hz15) (Nat.le_of_ble_eq_true rfl) (Nat.le_of_ble_eq_true rfl) dX3_hasTouch_26
  · refine z_iconst (v := 0) dX3_hasTouch_33 rfl ?_
    obtain ⟨hz16, h⟩ := h
    exact z_zreturn ⟨rfl, _, rfl, h⟩ rfl (zbn hz16) (Nat.le_of_ble_eq_true rfl) (Nat.le_of_ble_eq_true rfl) dX3_hasTouch_34
set_option maxRecDepth 20000 in
set_option maxHeartbeats 4000000 in
theorem w_X3_takesTouch {E : zE} {a0 : Nat} {a1 : Nat} {S : zS} {Q : Int32 → zS → Prop} {X : String → zS → Prop} (h : p_X3_takesTouch E a0 a1 S Q X) : zM E yX3_takesTouch cX3_takesTouch 2 (some .boolean) ({ frames := 4, cells := 0, slots := 0, locals := 86 } : Room) [.ref a0, .ref a1] S (qI Q) X := by
  unfold p_X3_takesTouch at h
  refine zM_of RX3 false (by decide) rfl (fun h => by cases h) (Nat.le_of_ble_eq_true rfl) ?_
  refine z_aload_n 0 dX3_takesTouch_0 rfl rfl ?_
  obtain ⟨hf1, h⟩ := h
  refine z_getQ (c := 4) (j := 0) (f := 400) hf1.1 hf1.2 (Nat.le_of_ble_eq_true rfl) rfl zU_X3 (Nat.le_of_ble_eq_true rfl) (Nat.le_of_ble_eq_true rfl) ⟨_, zw_235, Or.inl rfl⟩ rfl rfl dX3_takesTouch_1 ?_
  obtain ⟨b2, hb3, h⟩ := h
  rw [show va_rf (gR S 400 a0) = Value.ref b2 from by rw [hb3]; rfl]
  obtain ⟨hf14, h⟩ := h
  refine z_callVI (ci := 0) (st := []) (w_Jx4a65c_size_8abf5 h) hf14.1 hf14.2 (Nat.le_of_ble_eq_true rfl) rfl zw_423 zw_683 zw_421 zw_422 zw_33 zy_Jx4a65c_size_8abf5 rfl rfl ⟨Nat.le_of_ble_eq_true rfl, Nat.le_of_ble_eq_true rfl⟩ ⟨(Nat.le_of_ble_eq_true rfl), (Nat.le_of_ble_eq_true rfl)⟩ (Nat.le_of_ble_eq_true rfl) dX3_takesTouch_4 (fun _ _ hx => hx.elim) (fun r5 S4 h => ?_)
  refine z_widen (k' := 0) (n' := 0) (Nat.le_refl _) (Nat.le_refl _) ?_
  refine z_iconst (v := 4) dX3_takesTouch_7 rfl ?_
  refine z_icmp_ge 23 dX3_takesTouch_8 (by decide) (fun c13 => ?_) (fun c13 => ?_)
  · have h := h.1 c13
    refine z_iconst (v := 0) dX3_takesTouch_23 rfl ?_
    obtain ⟨hz6, h⟩ := h
    exact z_zreturn ⟨rfl, _, rfl, h⟩ rfl (zbn hz6) (Nat.le_of_ble_eq_true rfl) (Nat.le_of_ble_eq_true rfl) dX3_takesTouch_24
  · have h := h.2 c13
    refine z_aload_n 0 dX3_takesTouch_11 rfl rfl ?_
    refine z_aload_n 1 dX3_takesTouch_12 rfl rfl ?_
    obtain ⟨hf12, h⟩ := h
    refine z_callVI (ci := 4) (st := []) (w_X3_hasTouch h) hf12.1 hf12.2 (Nat.le_of_ble_eq_true rfl) rfl zw_906 zw_903 zw_904 zw_905 zw_40 zy_X3_hasTouch rfl rfl ⟨Nat.le_of_ble_eq_true rfl, Nat.le_of_ble_eq_true rfl⟩ ⟨(Nat.le_of_ble_eq_true rfl), (Nat.le_of_ble_eq_true rfl)⟩ (Nat.le_of_ble_eq_true rfl) dX3_takesTouch_13 (fun _ _ hx => hx.elim) (fun r8 S7 h => ?_)
    refine z_widen (k' := 0) (n' := 0) (Nat.le_refl _) (Nat.le_refl _) ?_
    refine z_if_ne 23 dX3_takesTouch_16 (by decide) (fun c11 => ?_) (fun c11 => ?_)
    · have h := h.1 c11
      refine z_iconst (v := 0) dX3_takesTouch_23 rfl ?_
      obtain ⟨hz9, h⟩ := h
      exact z_zreturn ⟨rfl, _, rfl, h⟩ rfl (zbn hz9) (Nat.le_of_ble_eq_true rfl) (Nat.le_of_ble_eq_true rfl) dX3_takesTouch_24
    · have h := h.2 c11
      refine z_iconst (v := 1) dX3_takesTouch_19 rfl ?_
      refine z_goto 24 dX3_takesTouch_20 (by decide) ?_
      obtain ⟨hz10, h⟩ := h
      exact z_zreturn ⟨rfl, _, rfl, h⟩ rfl (zbn hz10) (Nat.le_of_ble_eq_true rfl) (Nat.le_of_ble_eq_true rfl) dX3_takesTouch_24
set_option maxRecDepth 20000 in
set_option maxHeartbeats 4000000 in
theorem w_X3_greatestStage_L4 {E : zE} {K40 : Int32 → zS → Prop} {Q : Int32 → zS → Prop} {X : String → zS → Prop} (hK40 : ∀ (l1 : Int32) (S : zS), K40 l1 S → zJ E (RX3, cX3_greatestStage, 3, (some .int), false, [], zTr) ({ frames := 3, cells := 0, slots := 0, locals := 64 } : Room) (zq (qI Q)) (zx X) 40 [(1, .int l1)] [] [] S 0 0) : ∀ (m4 : Nat) (a0 : Nat) (l1 : Int32) (l2 : Int32) (S : zS), p_X3_greatestStage_L4 E K40 Q X m4 a0 l1 l2 S → zJ E (RX3, cX3_greatestStage, 3, (some .int), false, [], zTr) ({ frames := 3, cells := 0, slots := 0, locals := 64 } : Room) (zq (qI Q)) (zx X) 4 [(0, .ref a0), (1, .int l1), (2, .int l2)] [] [] S 0 0 := by
  intro m4
  induction m4 with
  | zero => intro a0 l1 l2 S h; exact (show False from h).elim
  | succ m4 ih =>
    intro a0 l1 l2 S h
    unfold p_X3_greatestStage_L4 at h
    refine z_iload_n 2 dX3_greatestStage_4 rfl rfl ?_
    refine z_aload_n 0 dX3_greatestStage_5 rfl rfl ?_
    obtain ⟨hf1, h⟩ := h
    refine z_getQ (c := 4) (j := 0) (f := 400) hf1.1 hf1.2 (Nat.le_of_ble_eq_true rfl) rfl zU_X3 (Nat.le_of_ble_eq_true rfl) (Nat.le_of_ble_eq_true rfl) ⟨_, zw_235, Or.inl rfl⟩ rfl rfl dX3_greatestStage_6 ?_
    obtain ⟨b2, hb3, h⟩ := h
    rw [show va_rf (gR S 400 a0) = Value.ref b2 from by rw [hb3]; rfl]
    obtain ⟨hf18, h⟩ := h
    refine z_callVI (ci := 0) (st := [.int l2]) (w_Jx4a65c_size_8abf5 h) hf18.1 hf18.2 (Nat.le_of_ble_eq_true rfl) rfl zw_423 zw_683 zw_421 zw_422 zw_33 zy_Jx4a65c_size_8abf5 rfl rfl ⟨Nat.le_of_ble_eq_true rfl, Nat.le_of_ble_eq_true rfl⟩ ⟨(Nat.le_of_ble_eq_true rfl), (Nat.le_of_ble_eq_true rfl)⟩ (Nat.le_of_ble_eq_true rfl) dX3_greatestStage_9 (fun _ _ hx => hx.elim) (fun r5 S4 h => ?_)
    refine z_widen (k' := 0) (n' := 0) (Nat.le_refl _) (Nat.le_refl _) ?_
    refine z_icmp_ge 40 dX3_greatestStage_12 (by decide) (fun c17 => ?_) (fun c17 => ?_)
    · have h := h.1 c17
      refine z_sub [1] rfl ?_
      exact hK40 l1 S4 h
    · have h := h.2 c17
      refine z_iload_n 1 dX3_greatestStage_15 rfl rfl ?_
      refine z_aload_n 0 dX3_greatestStage_16 rfl rfl ?_
      obtain ⟨hf6, h⟩ := h
      refine z_getQ (c := 4) (j := 0) (f := 400) hf6.1 hf6.2 (Nat.le_of_ble_eq_true rfl) rfl zU_X3 (Nat.le_of_ble_eq_true rfl) (Nat.le_of_ble_eq_true rfl) ⟨_, zw_235, Or.inl rfl⟩ rfl rfl dX3_greatestStage_17 ?_
      refine z_iload_n 2 dX3_greatestStage_20 rfl rfl ?_
      obtain ⟨b7, hb8, h⟩ := h
      rw [show va_rf (gR S4 400 a0) = Value.ref b7 from by rw [hb8]; rfl]
      obtain ⟨hf16, h⟩ := h
      refine z_callVR (ci := 0) (st := [.int l1]) (w_Jx4a65c_get_915e3 h) hf16.1 hf16.2 (Nat.le_of_ble_eq_true rfl) rfl zw_607 zw_684 zw_605 zw_606 zw_33 zy_Jx4a65c_get_915e3 rfl rfl ⟨Nat.le_of_ble_eq_true rfl, Nat.le_of_ble_eq_true rfl⟩ ⟨(Nat.le_of_ble_eq_true rfl), (Nat.le_of_ble_eq_true rfl)⟩ (Nat.le_of_ble_eq_true rfl) dX3_greatestStage_21 (fun _ _ hx => hx.elim) (fun r10 S9 h => ?_)
      refine z_widen (k' := 0) (n' := 0) (Nat.le_refl _) (Nat.le_refl _) ?_
      obtain ⟨b11, hb12, h⟩ := h
      rw [show va_rf r10 = Value.ref b11 from by rw [hb12]; rfl]
      obtain ⟨hf13, h⟩ := h
      refine z_cast (c := 9) hf13.1 hf13.2 (Nat.le_of_ble_eq_true rfl) rfl zw_685 dX3_greatestStage_24 ?_
      refine z_getI (c := 9) (j := 1) (f := 901) hf13.1 hf13.2 (Nat.le_of_ble_eq_true rfl) rfl zU_X9 (Nat.le_of_ble_eq_true rfl) (Nat.le_of_ble_eq_true rfl) ⟨_, zw_119, Or.inl rfl⟩ rfl rfl dX3_greatestStage_27 ?_
      refine z_mmax zw_932 zw_525 zw_50 zw_526 (Nat.le_of_ble_eq_true rfl) (Nat.le_of_ble_eq_true rfl) (Nat.le_of_ble_eq_true rfl) (Nat.le_of_ble_eq_true rfl) dX3_greatestStage_30 ?_
      refine z_top (fun x14 hx15 => ?_)
      have h := h x14 hx15
      refine z_istore_n (lv' := [(1, .int x14), (0, .ref a0), (2, .int l2)]) dX3_greatestStage_33 rfl (Nat.le_of_ble_eq_true rfl) rfl ?_
      refine z_iinc (v := (l2 + 1)) (lv' := [(2, .int (l2 + 1)), (1, .int x14), (0, .ref a0)]) 2 dX3_greatestStage_34 rfl rfl (Nat.le_of_ble_eq_true rfl) rfl ?_
      refine z_goto 4 dX3_greatestStage_37 (by decide) ?_
      refine z_sub [2, 1, 0] rfl ?_
      exact ih a0 x14 (l2 + 1) S9 h
set_option maxRecDepth 20000 in
set_option maxHeartbeats 4000000 in
theorem w_X3_greatestStage {E : zE} {a0 : Nat} {S : zS} {Q : Int32 → zS → Prop} {X : String → zS → Prop} (h : p_X3_greatestStage E a0 S Q X) : zM E yX3_greatestStage cX3_greatestStage 3 (some .int) ({ frames := 3, cells := 0, slots := 0, locals := 64 } : Room) [.ref a0] S (qI Q) X := by
  unfold p_X3_greatestStage at h
  refine zM_of RX3 false (by decide) rfl (fun h => by cases h) (Nat.le_of_ble_eq_true rfl) ?_
  refine z_iconst (v := 0) dX3_greatestStage_0 rfl ?_
  refine z_istore_n (lv' := [(1, .int 0), (0, .ref a0)]) dX3_greatestStage_1 rfl (Nat.le_of_ble_eq_true rfl) rfl ?_
  refine z_iconst (v := 0) dX3_greatestStage_2 rfl ?_
  refine z_istore_n (lv' := [(2, .int 0), (1, .int 0), (0, .ref a0)]) dX3_greatestStage_3 rfl (Nat.le_of_ble_eq_true rfl) rfl ?_
  obtain ⟨m4, h⟩ := h
  refine z_sub [2, 1, 0] rfl ?_
  refine w_X3_greatestStage_L4 (fun l1 S h => ?_) m4 a0 0 0 S h
  refine z_iload_n 0 dX3_greatestStage_40 rfl rfl ?_
  exact z_ireturn ⟨rfl, _, rfl, h⟩ rfl (Nat.le_of_ble_eq_true rfl) (Nat.le_of_ble_eq_true rfl) dX3_greatestStage_41
set_option maxRecDepth 20000 in
set_option maxHeartbeats 4000000 in
theorem w_X3_takeAway_L10 {E : zE} {K41 : zS → Prop} {Q : zS → Prop} {X : String → zS → Prop} (hK41 : ∀  (S : zS), K41  S → zJ E (RX3, cX3_takeAway, 3, none, false, [], zTr) ({ frames := 3, cells := 0, slots := 0, locals := 86 } : Room) (zq (qV Q)) (zx X) 41 [] [] [] S 0 0) : ∀ (m10 : Nat) (a0 : Nat) (a1 : Nat) (l2 : Int32) (S : zS), p_X3_takeAway_L10 E K41 Q X m10 a0 a1 l2 S → zJ E (RX3, cX3_takeAway, 3, none, false, [], zTr) ({ frames := 3, cells := 0, slots := 0, locals := 86 } : Room) (zq (qV Q)) (zx X) 10 [(0, .ref a0), (1, .ref a1), (2, .int l2)] [] [] S 0 0 := by
  intro m10
  induction m10 with
  | zero => intro a0 a1 l2 S h; exact (show False from h).elim
  | succ m10 ih =>
    intro a0 a1 l2 S h
    unfold p_X3_takeAway_L10 at h
    refine z_iload_n 2 dX3_takeAway_10 rfl rfl ?_
    refine z_if_lt 41 dX3_takeAway_11 (by decide) (fun c19 => ?_) (fun c19 => ?_)
    · have h := h.1 c19
      refine z_sub [] rfl ?_
      exact hK41 S h
    · have h := h.2 c19
      refine z_aload_n 0 dX3_takeAway_14 rfl rfl ?_
      obtain ⟨hf6, h⟩ := h
      refine z_getQ (c := 4) (j := 0) (f := 400) hf6.1 hf6.2 (Nat.le_of_ble_eq_true rfl) rfl zU_X3 (Nat.le_of_ble_eq_true rfl) (Nat.le_of_ble_eq_true rfl) ⟨_, zw_235, Or.inl rfl⟩ rfl rfl dX3_takeAway_15 ?_
      refine z_iload_n 2 dX3_takeAway_18 rfl rfl ?_
      obtain ⟨b7, hb8, h⟩ := h
      rw [show va_rf (gR S 400 a0) = Value.ref b7 from by rw [hb8]; rfl]
      obtain ⟨hf18, h⟩ := h
      refine z_callVR (ci := 0) (st := []) (w_Jx4a65c_get_915e3 h) hf18.1 hf18.2 (Nat.le_of_ble_eq_true rfl) rfl zw_607 zw_684 zw_605 zw_606 zw_33 zy_Jx4a65c_get_915e3 rfl rfl ⟨Nat.le_of_ble_eq_true rfl, Nat.le_of_ble_eq_true rfl⟩ ⟨(Nat.le_of_ble_eq_true rfl), (Nat.le_of_ble_eq_true rfl)⟩ (Nat.le_of_ble_eq_true rfl) dX3_takeAway_19 (fun _ _ hx => hx.elim) (fun r10 S9 h => ?_)
      refine z_widen (k' := 0) (n' := 0) (Nat.le_refl _) (Nat.le_refl _) ?_
      refine z_aload_n 1 dX3_takeAway_22 rfl rfl ?_
      refine z_acmp_ne (rx := r10) (ry := (some a1)) 35 dX3_takeAway_23 (by decide) (fun c17 => ?_) (fun c17 => ?_)
      · have h := h.1 c17
        refine z_iinc (v := (l2 + (-1))) (lv' := [(2, .int (l2 + (-1))), (0, .ref a0), (1, .ref a1)]) 2 dX3_takeAway_35 rfl rfl (Nat.le_of_ble_eq_true rfl) rfl ?_
        refine z_goto 10 dX3_takeAway_38 (by decide) ?_
        refine z_sub [1, 2, 0] rfl ?_
        exact ih a0 a1 (l2 + (-1)) S9 h
      · have h := h.2 c17
        refine z_aload_n 0 dX3_takeAway_26 rfl rfl ?_
        obtain ⟨hf11, h⟩ := h
        refine z_getQ (c := 4) (j := 0) (f := 400) hf11.1 hf11.2 (Nat.le_of_ble_eq_true rfl) rfl zU_X3 (Nat.le_of_ble_eq_true rfl) (Nat.le_of_ble_eq_true rfl) ⟨_, zw_235, Or.inl rfl⟩ rfl rfl dX3_takeAway_27 ?_
        refine z_iload_n 2 dX3_takeAway_30 rfl rfl ?_
        obtain ⟨b12, hb13, h⟩ := h
        rw [show va_rf (gR S9 400 a0) = Value.ref b12 from by rw [hb13]; rfl]
        obtain ⟨hf16, h⟩ := h
        refine z_callVR (ci := 0) (st := []) (w_Jx4a65c_remove_915e3 h) hf16.1 hf16.2 (Nat.le_of_ble_eq_true rfl) rfl zw_697 zw_694 zw_695 zw_696 zw_33 zy_Jx4a65c_remove_915e3 rfl rfl ⟨Nat.le_of_ble_eq_true rfl, Nat.le_of_ble_eq_true rfl⟩ ⟨(Nat.le_of_ble_eq_true rfl), (Nat.le_of_ble_eq_true rfl)⟩ (Nat.le_of_ble_eq_true rfl) dX3_takeAway_31 (fun _ _ hx => hx.elim) (fun r15 S14 h => ?_)
        refine z_widen (k' := 0) (n' := 0) (Nat.le_refl _) (Nat.le_refl _) ?_
        refine z_pop dX3_takeAway_34 (zcat _) ?_
        refine z_iinc (v := (l2 + (-1))) (lv' := [(2, .int (l2 + (-1))), (0, .ref a0), (1, .ref a1)]) 2 dX3_takeAway_35 rfl rfl (Nat.le_of_ble_eq_true rfl) rfl ?_
        refine z_goto 10 dX3_takeAway_38 (by decide) ?_
        refine z_sub [1, 2, 0] rfl ?_
        exact ih a0 a1 (l2 + (-1)) S14 h
set_option maxRecDepth 20000 in
set_option maxHeartbeats 4000000 in
theorem w_X3_takeAway {E : zE} {a0 : Nat} {a1 : Nat} {S : zS} {Q : zS → Prop} {X : String → zS → Prop} (h : p_X3_takeAway E a0 a1 S Q X) : zM E yX3_takeAway cX3_takeAway 3 none ({ frames := 3, cells := 0, slots := 0, locals := 86 } : Room) [.ref a0, .ref a1] S (qV Q) X := by
  unfold p_X3_takeAway at h
  refine zM_of RX3 false (by decide) rfl (fun h => by cases h) (Nat.le_of_ble_eq_true rfl) ?_
  refine z_aload_n 0 dX3_takeAway_0 rfl rfl ?_
  obtain ⟨hf1, h⟩ := h
  refine z_getQ (c := 4) (j := 0) (f := 400) hf1.1 hf1.2 (Nat.le_of_ble_eq_true rfl) rfl zU_X3 (Nat.le_of_ble_eq_true rfl) (Nat.le_of_ble_eq_true rfl) ⟨_, zw_235, Or.inl rfl⟩ rfl rfl dX3_takeAway_1 ?_
  obtain ⟨b2, hb3, h⟩ := h
  rw [show va_rf (gR S 400 a0) = Value.ref b2 from by rw [hb3]; rfl]
  obtain ⟨hf20, h⟩ := h
  refine z_callVI (ci := 0) (st := []) (w_Jx4a65c_size_8abf5 h) hf20.1 hf20.2 (Nat.le_of_ble_eq_true rfl) rfl zw_423 zw_683 zw_421 zw_422 zw_33 zy_Jx4a65c_size_8abf5 rfl rfl ⟨Nat.le_of_ble_eq_true rfl, Nat.le_of_ble_eq_true rfl⟩ ⟨(Nat.le_of_ble_eq_true rfl), (Nat.le_of_ble_eq_true rfl)⟩ (Nat.le_of_ble_eq_true rfl) dX3_takeAway_4 (fun _ _ hx => hx.elim) (fun r5 S4 h => ?_)
  refine z_widen (k' := 0) (n' := 0) (Nat.le_refl _) (Nat.le_refl _) ?_
  refine z_iconst (v := 1) dX3_takeAway_7 rfl ?_
  refine z_isub dX3_takeAway_8 ?_
  refine z_istore_n (lv' := [(2, .int (r5 - 1)), (0, .ref a0), (1, .ref a1)]) dX3_takeAway_9 rfl (Nat.le_of_ble_eq_true rfl) rfl ?_
  obtain ⟨m10, h⟩ := h
  refine z_sub [1, 2, 0] rfl ?_
  refine w_X3_takeAway_L10 (fun S h => ?_) m10 a0 a1 (r5 - 1) S4 h
  exact z_return ⟨rfl, rfl, h⟩ rfl (Nat.le_of_ble_eq_true rfl) (Nat.le_of_ble_eq_true rfl) dX3_takeAway_41
set_option maxRecDepth 20000 in
set_option maxHeartbeats 4000000 in
theorem w_X9_isFit {E : zE} {a0 : Nat} {l1 : Int32} {S : zS} {Q : Int32 → zS → Prop} {X : String → zS → Prop} (h : p_X9_isFit E a0 l1 S Q X) : zM E yX9_isFit cX9_isFit 3 (some .boolean) ({ frames := 1, cells := 0, slots := 0, locals := 20 } : Room) [.ref a0, .int l1] S (qI Q) X := by
  unfold p_X9_isFit at h
  refine zM_of RX9 false (by decide) rfl (fun h => by cases h) (Nat.le_of_ble_eq_true rfl) ?_
  refine z_iconst (v := 1) dX9_isFit_0 rfl ?_
  refine z_aload_n 0 dX9_isFit_1 rfl rfl ?_
  obtain ⟨hf1, h⟩ := h
  refine z_getI (c := 9) (j := 1) (f := 901) hf1.1 hf1.2 (Nat.le_of_ble_eq_true rfl) rfl zU_X9 (Nat.le_of_ble_eq_true rfl) (Nat.le_of_ble_eq_true rfl) ⟨_, zw_118, Or.inl rfl⟩ rfl rfl dX9_isFit_2 ?_
  refine z_ishl dX9_isFit_5 ?_
  refine z_iconst (v := 1) dX9_isFit_6 rfl ?_
  refine z_isub dX9_isFit_7 ?_
  refine z_istore_n (lv' := [(2, .int ((1 <<< ((gI S 901 a0) &&& 31)) - 1)), (0, .ref a0), (1, .int l1)]) dX9_isFit_8 rfl (Nat.le_of_ble_eq_true rfl) rfl ?_
  refine z_aload_n 1 dX9_isFit_9 rfl rfl ?_
  refine z_callVI (ci := 9) (st := []) (w_X9_isSound h) hf1.1 hf1.2 (Nat.le_of_ble_eq_true rfl) rfl zw_693 zw_690 zw_691 zw_692 zw_36 zy_X9_isSound rfl rfl ⟨Nat.le_of_ble_eq_true rfl, Nat.le_of_ble_eq_true rfl⟩ ⟨(Nat.le_of_ble_eq_true rfl), (Nat.le_of_ble_eq_true rfl)⟩ (Nat.le_of_ble_eq_true rfl) dX9_isFit_10 (fun _ _ hx => hx.elim) (fun r3 S2 h => ?_)
  refine z_widen (k' := 0) (n' := 0) (Nat.le_refl _) (Nat.le_refl _) ?_
  refine z_if_eq 26 dX9_isFit_13 (by decide) (fun c8 => ?_) (fun c8 => ?_)
  · have h := h.1 c8
    refine z_iconst (v := 0) dX9_isFit_26 rfl ?_
    obtain ⟨hz4, h⟩ := h
    exact z_zreturn ⟨rfl, _, rfl, h⟩ rfl (zbn hz4) (Nat.le_of_ble_eq_true rfl) (Nat.le_of_ble_eq_true rfl) dX9_isFit_27
  · have h := h.2 c8
    refine z_iload_n 2 dX9_isFit_16 rfl rfl ?_
    refine z_iload_n 0 dX9_isFit_17 rfl rfl ?_
    refine z_iand dX9_isFit_18 ?_
    refine z_if_ne 26 dX9_isFit_19 (by decide) (fun c7 => ?_) (fun c7 => ?_)
    · have h := h.1 c7
      refine z_iconst (v := 0) dX9_isFit_26 rfl ?_
      obtain ⟨hz5, h⟩ := h
      exact z_zreturn ⟨rfl, _, rfl, h⟩ rfl (zbn hz5) (Nat.le_of_ble_eq_true rfl) (Nat.le_of_ble_eq_true rfl) dX9_isFit_27
    · have h := h.2 c7
      refine z_iconst (v := 1) dX9_isFit_22 rfl ?_
      refine z_goto 27 dX9_isFit_23 (by decide) ?_
      obtain ⟨hz6, h⟩ := h
      exact z_zreturn ⟨rfl, _, rfl, h⟩ rfl (zbn hz6) (Nat.le_of_ble_eq_true rfl) (Nat.le_of_ble_eq_true rfl) dX9_isFit_27
set_option maxRecDepth 20000 in
set_option maxHeartbeats 4000000 in
theorem w_X3_dropUnfit_L12 {E : zE} {K49 : Nat → Int32 → zS → Prop} {Q : Int32 → zS → Prop} {X : String → zS → Prop} (hK49 : ∀ (a0 : Nat) (l2 : Int32) (S : zS), K49 a0 l2 S → zJ E (RX3, cX3_dropUnfit, 4, (some .int), false, [], zTr) ({ frames := 3, cells := 0, slots := 0, locals := 86 } : Room) (zq (qI Q)) (zx X) 49 [(0, .ref a0), (2, .int l2)] [] [] S 0 0) : ∀ (m12 : Nat) (a0 : Nat) (l1 : Int32) (l2 : Int32) (l3 : Int32) (S : zS), p_X3_dropUnfit_L12 E K49 Q X m12 a0 l1 l2 l3 S → zJ E (RX3, cX3_dropUnfit, 4, (some .int), false, [], zTr) ({ frames := 3, cells := 0, slots := 0, locals := 86 } : Room) (zq (qI Q)) (zx X) 12 [(0, .ref a0), (1, .int l1), (2, .int l2), (3, .int l3)] [] [] S 0 0 := by
  intro m12
  induction m12 with
  | zero => intro a0 l1 l2 l3 S h; exact (show False from h).elim
  | succ m12 ih =>
    intro a0 l1 l2 l3 S h
    unfold p_X3_dropUnfit_L12 at h
    refine z_iload_n 3 dX3_dropUnfit_12 rfl rfl ?_
    refine z_if_lt 49 dX3_dropUnfit_13 (by decide) (fun c24 => ?_) (fun c24 => ?_)
    · have h := h.1 c24
      refine z_sub [0, 2] rfl ?_
      exact hK49 a0 l2 S h
    · have h := h.2 c24
      refine z_aload_n 0 dX3_dropUnfit_16 rfl rfl ?_
      obtain ⟨hf6, h⟩ := h
      refine z_getQ (c := 4) (j := 0) (f := 400) hf6.1 hf6.2 (Nat.le_of_ble_eq_true rfl) rfl zU_X3 (Nat.le_of_ble_eq_true rfl) (Nat.le_of_ble_eq_true rfl) ⟨_, zw_235, Or.inl rfl⟩ rfl rfl dX3_dropUnfit_17 ?_
      refine z_iload_n 3 dX3_dropUnfit_20 rfl rfl ?_
      obtain ⟨b7, hb8, h⟩ := h
      rw [show va_rf (gR S 400 a0) = Value.ref b7 from by rw [hb8]; rfl]
      obtain ⟨hf23, h⟩ := h
      refine z_callVR (ci := 0) (st := []) (w_Jx4a65c_get_915e3 h) hf23.1 hf23.2 (Nat.le_of_ble_eq_true rfl) rfl zw_607 zw_684 zw_605 zw_606 zw_33 zy_Jx4a65c_get_915e3 rfl rfl ⟨Nat.le_of_ble_eq_true rfl, Nat.le_of_ble_eq_true rfl⟩ ⟨(Nat.le_of_ble_eq_true rfl), (Nat.le_of_ble_eq_true rfl)⟩ (Nat.le_of_ble_eq_true rfl) dX3_dropUnfit_21 (fun _ _ hx => hx.elim) (fun r10 S9 h => ?_)
      refine z_widen (k' := 0) (n' := 0) (Nat.le_refl _) (Nat.le_refl _) ?_
      obtain ⟨b11, hb12, h⟩ := h
      rw [show va_rf r10 = Value.ref b11 from by rw [hb12]; rfl]
      obtain ⟨hf13, h⟩ := h
      refine z_cast (c := 9) hf13.1 hf13.2 (Nat.le_of_ble_eq_true rfl) rfl zw_685 dX3_dropUnfit_24 ?_
      refine z_iload_n 1 dX3_dropUnfit_27 rfl rfl ?_
      refine z_callVI (ci := 9) (st := []) (w_X9_isFit h) hf13.1 hf13.2 (Nat.le_of_ble_eq_true rfl) rfl zw_689 zw_686 zw_687 zw_688 zw_36 zy_X9_isFit rfl rfl ⟨Nat.le_of_ble_eq_true rfl, Nat.le_of_ble_eq_true rfl⟩ ⟨(Nat.le_of_ble_eq_true rfl), (Nat.le_of_ble_eq_true rfl)⟩ (Nat.le_of_ble_eq_true rfl) dX3_dropUnfit_28 (fun _ _ hx => hx.elim) (fun r15 S14 h => ?_)
      refine z_widen (k' := 0) (n' := 0) (Nat.le_refl _) (Nat.le_refl _) ?_
      refine z_if_ne 43 dX3_dropUnfit_31 (by decide) (fun c22 => ?_) (fun c22 => ?_)
      · have h := h.1 c22
        refine z_iinc (v := (l3 + (-1))) (lv' := [(3, .int (l3 + (-1))), (0, .ref a0), (1, .int l1), (2, .int l2)]) 3 dX3_dropUnfit_43 rfl rfl (Nat.le_of_ble_eq_true rfl) rfl ?_
        refine z_goto 12 dX3_dropUnfit_46 (by decide) ?_
        refine z_sub [1, 2, 3, 0] rfl ?_
        exact ih a0 l1 l2 (l3 + (-1)) S14 h
      · have h := h.2 c22
        refine z_aload_n 0 dX3_dropUnfit_34 rfl rfl ?_
        obtain ⟨hf16, h⟩ := h
        refine z_getQ (c := 4) (j := 0) (f := 400) hf16.1 hf16.2 (Nat.le_of_ble_eq_true rfl) rfl zU_X3 (Nat.le_of_ble_eq_true rfl) (Nat.le_of_ble_eq_true rfl) ⟨_, zw_235, Or.inl rfl⟩ rfl rfl dX3_dropUnfit_35 ?_
        refine z_iload_n 3 dX3_dropUnfit_38 rfl rfl ?_
        obtain ⟨b17, hb18, h⟩ := h
        rw [show va_rf (gR S14 400 a0) = Value.ref b17 from by rw [hb18]; rfl]
        obtain ⟨hf21, h⟩ := h
        refine z_callVR (ci := 0) (st := []) (w_Jx4a65c_remove_915e3 h) hf21.1 hf21.2 (Nat.le_of_ble_eq_true rfl) rfl zw_697 zw_694 zw_695 zw_696 zw_33 zy_Jx4a65c_remove_915e3 rfl rfl ⟨Nat.le_of_ble_eq_true rfl, Nat.le_of_ble_eq_true rfl⟩ ⟨(Nat.le_of_ble_eq_true rfl), (Nat.le_of_ble_eq_true rfl)⟩ (Nat.le_of_ble_eq_true rfl) dX3_dropUnfit_39 (fun _ _ hx => hx.elim) (fun r20 S19 h => ?_)
        refine z_widen (k' := 0) (n' := 0) (Nat.le_refl _) (Nat.le_refl _) ?_
        refine z_pop dX3_dropUnfit_42 (zcat _) ?_
        refine z_iinc (v := (l3 + (-1))) (lv' := [(3, .int (l3 + (-1))), (0, .ref a0), (1, .int l1), (2, .int l2)]) 3 dX3_dropUnfit_43 rfl rfl (Nat.le_of_ble_eq_true rfl) rfl ?_
        refine z_goto 12 dX3_dropUnfit_46 (by decide) ?_
        refine z_sub [1, 2, 3, 0] rfl ?_
        exact ih a0 l1 l2 (l3 + (-1)) S19 h
set_option maxRecDepth 20000 in
set_option maxHeartbeats 4000000 in
theorem w_X3_dropUnfit {E : zE} {a0 : Nat} {l1 : Int32} {S : zS} {Q : Int32 → zS → Prop} {X : String → zS → Prop} (h : p_X3_dropUnfit E a0 l1 S Q X) : zM E yX3_dropUnfit cX3_dropUnfit 4 (some .int) ({ frames := 3, cells := 0, slots := 0, locals := 86 } : Room) [.ref a0, .int l1] S (qI Q) X := by
  unfold p_X3_dropUnfit at h
  refine zM_of RX3 false (by decide) rfl (fun h => by cases h) (Nat.le_of_ble_eq_true rfl) ?_
  refine z_aload_n 0 dX3_dropUnfit_0 rfl rfl ?_
  obtain ⟨hf1, h⟩ := h
  refine z_getQ (c := 4) (j := 0) (f := 400) hf1.1 hf1.2 (Nat.le_of_ble_eq_true rfl) rfl zU_X3 (Nat.le_of_ble_eq_true rfl) (Nat.le_of_ble_eq_true rfl) ⟨_, zw_235, Or.inl rfl⟩ rfl rfl dX3_dropUnfit_1 ?_
  obtain ⟨b2, hb3, h⟩ := h
  rw [show va_rf (gR S 400 a0) = Value.ref b2 from by rw [hb3]; rfl]
  obtain ⟨hf31, h⟩ := h
  refine z_callVI (ci := 0) (st := []) (w_Jx4a65c_size_8abf5 h) hf31.1 hf31.2 (Nat.le_of_ble_eq_true rfl) rfl zw_423 zw_683 zw_421 zw_422 zw_33 zy_Jx4a65c_size_8abf5 rfl rfl ⟨Nat.le_of_ble_eq_true rfl, Nat.le_of_ble_eq_true rfl⟩ ⟨(Nat.le_of_ble_eq_true rfl), (Nat.le_of_ble_eq_true rfl)⟩ (Nat.le_of_ble_eq_true rfl) dX3_dropUnfit_4 (fun _ _ hx => hx.elim) (fun r5 S4 h => ?_)
  refine z_widen (k' := 0) (n' := 0) (Nat.le_refl _) (Nat.le_refl _) ?_
  refine z_istore_n (lv' := [(2, .int r5), (0, .ref a0), (1, .int l1)]) dX3_dropUnfit_7 rfl (Nat.le_of_ble_eq_true rfl) rfl ?_
  refine z_iload_n 0 dX3_dropUnfit_8 rfl rfl ?_
  refine z_iconst (v := 1) dX3_dropUnfit_9 rfl ?_
  refine z_isub dX3_dropUnfit_10 ?_
  refine z_istore_n (lv' := [(3, .int (r5 - 1)), (2, .int r5), (0, .ref a0), (1, .int l1)]) dX3_dropUnfit_11 rfl (Nat.le_of_ble_eq_true rfl) rfl ?_
  obtain ⟨m12, h⟩ := h
  refine z_sub [2, 3, 1, 0] rfl ?_
  refine w_X3_dropUnfit_L12 (fun a0 l2 S h => ?_) m12 a0 l1 r5 (r5 - 1) S4 h
  refine z_iload_n 1 dX3_dropUnfit_49 rfl rfl ?_
  refine z_aload_n 0 dX3_dropUnfit_50 rfl rfl ?_
  obtain ⟨hf25, h⟩ := h
  refine z_getQ (c := 4) (j := 0) (f := 400) hf25.1 hf25.2 (Nat.le_of_ble_eq_true rfl) rfl zU_X3 (Nat.le_of_ble_eq_true rfl) (Nat.le_of_ble_eq_true rfl) ⟨_, zw_235, Or.inl rfl⟩ rfl rfl dX3_dropUnfit_51 ?_
  obtain ⟨b26, hb27, h⟩ := h
  rw [show va_rf (gR S 400 a0) = Value.ref b26 from by rw [hb27]; rfl]
  obtain ⟨hf30, h⟩ := h
  refine z_callVI (ci := 0) (st := [.int l2]) (w_Jx4a65c_size_8abf5 h) hf30.1 hf30.2 (Nat.le_of_ble_eq_true rfl) rfl zw_423 zw_683 zw_421 zw_422 zw_33 zy_Jx4a65c_size_8abf5 rfl rfl ⟨Nat.le_of_ble_eq_true rfl, Nat.le_of_ble_eq_true rfl⟩ ⟨(Nat.le_of_ble_eq_true rfl), (Nat.le_of_ble_eq_true rfl)⟩ (Nat.le_of_ble_eq_true rfl) dX3_dropUnfit_54 (fun _ _ hx => hx.elim) (fun r29 S28 h => ?_)
  refine z_widen (k' := 0) (n' := 0) (Nat.le_refl _) (Nat.le_refl _) ?_
  refine z_isub dX3_dropUnfit_57 ?_
  exact z_ireturn ⟨rfl, _, rfl, h⟩ rfl (Nat.le_of_ble_eq_true rfl) (Nat.le_of_ble_eq_true rfl) dX3_dropUnfit_58
set_option maxRecDepth 20000 in
set_option maxHeartbeats 4000000 in
theorem w_X7_init_L13 {E : zE} {K32 : Nat → zS → Prop} {Q : zS → Prop} {X : String → zS → Prop} (hK32 : ∀ (a0 : Nat) (S : zS), K32 a0 S → zJ E (RX7, cX7_init, 2, none, true, [], zTr) ({ frames := 5, cells := 126, slots := 313, locals := 92 } : Room) (zq (qV Q)) (zx X) 32 [(0, .ref a0)] [] [] S 1 4) : ∀ (m13 : Nat) (a0 : Nat) (l1 : Int32) (S : zS), p_X7_init_L13 E K32 Q X m13 a0 l1 S → zJ E (RX7, cX7_init, 2, none, true, [], zTr) ({ frames := 5, cells := 126, slots := 313, locals := 92 } : Room) (zq (qV Q)) (zx X) 13 [(0, .ref a0), (1, .int l1)] [] [] S 1 4 := by
  intro m13
  induction m13 with
  | zero => intro a0 l1 S h; exact (show False from h).elim
  | succ m13 ih =>
    intro a0 l1 S h
    unfold p_X7_init_L13 at h
    refine z_iload_n 1 dX7_init_13 rfl rfl ?_
    refine z_iconst (v := 4) dX7_init_14 rfl ?_
    refine z_icmp_ge 32 dX7_init_15 (by decide) (fun c19 => ?_) (fun c19 => ?_)
    · have h := h.1 c19
      refine z_sub [0] rfl ?_
      exact hK32 a0 S h
    · have h := h.2 c19
      refine z_aload_n 0 dX7_init_18 rfl rfl ?_
      obtain ⟨hf10, h⟩ := h
      refine z_getQ (c := 8) (j := 0) (f := 800) hf10.1 hf10.2 (Nat.le_of_ble_eq_true rfl) rfl zU_X7 (Nat.le_of_ble_eq_true rfl) (Nat.le_of_ble_eq_true rfl) ⟨_, zw_241, Or.inl rfl⟩ rfl rfl dX7_init_19 ?_
      refine z_iload_n 1 dX7_init_22 rfl rfl ?_
      refine z_bipush (v := 6) dX7_init_23 rfl ?_
      obtain ⟨b11, hb12, h⟩ := h
      rw [show va_rf (gR S 800 a0) = Value.ref b11 from by rw [hb12]; rfl]
      obtain ⟨hf13, h⟩ := h
      obtain ⟨j14, hj15, h⟩ := h
      have h := h _ rfl
      refine z_iast (j := j14) hf13.1 hf13.2 hj15.1 hj15.2.1 hj15.2.2 dX7_init_25 ?_
      obtain ⟨S16, hS17⟩ : ∃ z, z = sA S b11 j14 6 := ⟨_, rfl⟩
      rw [← hS17] at h ⊢
      have hf10 : a0 ∈ gL S16 ∧ gK S16 a0 = 8 := by rw [hS17]; exact hf10
      have hf13 : b11 ∈ gL S16 ∧ gK S16 b11 = 12 := by rw [hS17]; exact hf13
      refine z_iinc (v := (l1 + 1)) (lv' := [(1, .int (l1 + 1)), (0, .ref a0)]) 1 dX7_init_26 rfl rfl (Nat.le_of_ble_eq_true rfl) rfl ?_
      refine z_goto 13 dX7_init_29 (by decide) ?_
      refine z_sub [1, 0] rfl ?_
      exact ih a0 (l1 + 1) S16 h
set_option maxRecDepth 20000 in
set_option maxHeartbeats 4000000 in
theorem w_X7_init_L43 {E : zE} {K68 : Nat → zS → Prop} {Q : zS → Prop} {X : String → zS → Prop} (hK68 : ∀ (a0 : Nat) (S : zS), K68 a0 S → zJ E (RX7, cX7_init, 2, none, true, [], zTr) ({ frames := 5, cells := 126, slots := 313, locals := 92 } : Room) (zq (qV Q)) (zx X) 68 [(0, .ref a0)] [] [] S 126 313) : ∀ (m43 k n : Nat), k + m43 * 2 ≤ 126 → n + m43 * 4 ≤ 313 → ∀ (a0 : Nat) (l1 : Int32) (S : zS), p_X7_init_L43 E K68 Q X m43 a0 l1 S → zJ E (RX7, cX7_init, 2, none, true, [], zTr) ({ frames := 5, cells := 126, slots := 313, locals := 92 } : Room) (zq (qV Q)) (zx X) 43 [(0, .ref a0), (1, .int l1)] [] [] S k n := by
  intro m43
  induction m43 with
  | zero => intro k n hk hn a0 l1 S h; exact (show False from h).elim
  | succ m43 ih =>
    intro k n hk hn a0 l1 S h
    unfold p_X7_init_L43 at h
    refine z_iload_n 1 dX7_init_43 rfl rfl ?_
    refine z_bipush (v := 60) dX7_init_44 rfl ?_
    refine z_icmp_gt 68 dX7_init_46 (by decide) (fun c44 => ?_) (fun c44 => ?_)
    · have h := h.1 c44
      refine z_sub [0] rfl ?_
      refine z_widen (k' := 126) (n' := 313) (by omega) (by omega) ?_
      exact hK68 a0 S h
    · have h := h.2 c44
      refine z_aload_n 0 dX7_init_49 rfl rfl ?_
      obtain ⟨hf29, h⟩ := h
      refine z_getQ (c := 8) (j := 1) (f := 801) hf29.1 hf29.2 (Nat.le_of_ble_eq_true rfl) rfl zU_X7 (Nat.le_of_ble_eq_true rfl) (Nat.le_of_ble_eq_true rfl) ⟨_, zw_243, Or.inl rfl⟩ rfl rfl dX7_init_50 ?_
      refine z_iload_n 1 dX7_init_53 rfl rfl ?_
      refine z_new (c := 4) (ty0 := tyX3) (Nat.le_of_ble_eq_true rfl) rfl zU_X3 tyX3_ok z0_X3 zw_226 zw_228 zw_40 (by show k + 1 ≤ 126; omega) (by show n + 1 ≤ 313; omega) dX7_init_54 (fun q30 hq31 => ?_)
      have h := h q30 hq31 _ rfl
      obtain ⟨S32, hS33⟩ : ∃ z, z = nO S q30 4 := ⟨_, rfl⟩
      rw [← hS33] at h ⊢
      refine z_widen (k' := (k + 1)) (n' := (n + 1)) (Nat.le_of_eq rfl) (Nat.le_of_eq rfl) ?_
      refine z_dup dX7_init_57 rfl ?_
      refine z_callIV (st := [.ref q30, .int l1, va_rf (gR S 801 a0)]) (w_X3_init h) zw_231 zw_229 zw_230 zw_40 rfl zy_X3_init rfl rfl ⟨Nat.le_of_ble_eq_true rfl, Nat.le_of_ble_eq_true rfl⟩ ⟨(by show (k + 1) + 1 ≤ 126; omega), (by show (n + 1) + 3 ≤ 313; omega)⟩ (by generalize (gR S 801 a0) = z9; cases z9 <;> exact (Nat.le_of_ble_eq_true rfl)) dX7_init_58 (fun _ _ hx => hx.elim) (fun S34 h => ?_)
      refine z_widen (k' := (k + 2)) (n' := (n + 4)) (Nat.le_of_eq rfl) (Nat.le_of_eq rfl) ?_
      obtain ⟨b36, hb37, h⟩ := h
      rw [show va_rf (gR S 801 a0) = Value.ref b36 from by rw [hb37]; rfl]
      obtain ⟨hf38, h⟩ := h
      obtain ⟨j39, hj40, h⟩ := h
      obtain ⟨hx43, h⟩ := h
      have h := h _ rfl
      refine z_aast (c := 15) (r := vwCl.getD 4 ("", TX0, 0)) (j := j39) hf38.1 hf38.2 (Nat.le_of_ble_eq_true rfl) (by decide) hx43.1 hx43.2 hj40.1 hj40.2.1 hj40.2.2 dX7_init_61 ?_
      obtain ⟨S41, hS42⟩ : ∃ z, z = sQ S34 b36 j39 (some q30) := ⟨_, rfl⟩
      rw [← hS42] at h ⊢
      have hf38 : b36 ∈ gL S41 ∧ gK S41 b36 = 15 := by rw [hS42]; exact hf38
      refine z_iinc (v := (l1 + 1)) (lv' := [(1, .int (l1 + 1)), (0, .ref a0)]) 1 dX7_init_62 rfl rfl (Nat.le_of_ble_eq_true rfl) rfl ?_
      refine z_goto 43 dX7_init_65 (by decide) ?_
      refine z_sub [1, 0] rfl ?_
      exact ih (k + 2) (n + 4) (by omega) (by omega) a0 (l1 + 1) S41 h
set_option maxRecDepth 20000 in
set_option maxHeartbeats 4000000 in
theorem w_X7_init {E : zE} {a0 : Nat} {S : zS} {Q : zS → Prop} {X : String → zS → Prop} (h : p_X7_init E a0 S Q X) : zM E yX7_init cX7_init 2 none ({ frames := 5, cells := 126, slots := 313, locals := 92 } : Room) [.ref a0] S (qV Q) X := by
  unfold p_X7_init at h
  refine zM_of RX7 true (by decide) rfl (fun h => rfl) (Nat.le_of_ble_eq_true rfl) ?_
  refine z_aload_n 0 dX7_init_0 rfl rfl ?_
  refine z_objInit zw_225 (Nat.le_of_ble_eq_true rfl) (Nat.le_of_ble_eq_true rfl) dX7_init_1 ?_
  refine z_aload_n 0 dX7_init_4 rfl rfl ?_
  refine z_iconst (v := 4) dX7_init_5 rfl ?_
  refine z_newa (c := 12) (N := 4) (.inl ⟨rfl, rfl⟩) zw_101 rfl (Nat.le_of_ble_eq_true rfl) (Nat.le_of_ble_eq_true rfl) (Nat.le_of_ble_eq_true rfl) dX7_init_6 (fun q1 hq2 => ?_)
  have h := h q1 hq2 _ rfl
  obtain ⟨S3, hS4⟩ : ∃ z, z = nA S q1 12 4 := ⟨_, rfl⟩
  rw [← hS4] at h ⊢
  refine z_widen (k' := 1) (n' := 4) (Nat.le_refl _) (Nat.le_refl _) ?_
  obtain ⟨hf7, h⟩ := h
  have h := h _ rfl
  refine z_putV (c := 8) (j := 0) (ty0 := tyX7) (S' := sR S3 800 a0 (some q1)) hf7.1 hf7.2 (Nat.le_of_ble_eq_true rfl) rfl zU_X7 tyX7_ok nmX7 (Nat.le_of_ble_eq_true rfl) (Nat.le_of_ble_eq_true rfl) ⟨_, zw_241, Or.inl rfl⟩ (.inr ⟨rfl, rfl⟩) (zrefn (ty := tyX7 0) (o := (some q1)) (by decide)) (zreff (ty := tyX7 0) (o := (some q1)) (by decide)) rfl (zUpR (v := (some q1)) hf7.2 (Nat.le_of_ble_eq_true rfl) (Nat.le_of_ble_eq_true rfl) rfl rfl) dX7_init_8 ?_
  obtain ⟨S8, hS9⟩ : ∃ z, z = sR S3 800 a0 (some q1) := ⟨_, rfl⟩
  rw [← hS9] at h ⊢
  have hf7 : a0 ∈ gL S8 ∧ gK S8 a0 = 8 := by rw [hS9]; exact hf7
  refine z_iconst (v := 0) dX7_init_11 rfl ?_
  refine z_istore_n (lv' := [(1, .int 0), (0, .ref a0)]) dX7_init_12 rfl (Nat.le_of_ble_eq_true rfl) rfl ?_
  obtain ⟨m13, h⟩ := h
  refine z_sub [1, 0] rfl ?_
  refine w_X7_init_L13 (fun a0 S h => ?_) m13 a0 0 S8 h
  refine z_aload_n 0 dX7_init_32 rfl rfl ?_
  refine z_bipush (v := 61) dX7_init_33 rfl ?_
  refine z_newq (c := 15) (N := 61) (by decide) zw_226 rfl (Nat.le_of_ble_eq_true rfl) (Nat.le_of_ble_eq_true rfl) (Nat.le_of_ble_eq_true rfl) dX7_init_35 (fun q20 hq21 => ?_)
  have h := h q20 hq21 _ rfl
  obtain ⟨S22, hS23⟩ : ∃ z, z = nA S q20 15 61 := ⟨_, rfl⟩
  rw [← hS23] at h ⊢
  refine z_widen (k' := 2) (n' := 65) (Nat.le_refl _) (Nat.le_refl _) ?_
  obtain ⟨hf26, h⟩ := h
  have h := h _ rfl
  refine z_putV (c := 8) (j := 1) (ty0 := tyX7) (S' := sR S22 801 a0 (some q20)) hf26.1 hf26.2 (Nat.le_of_ble_eq_true rfl) rfl zU_X7 tyX7_ok nmX7 (Nat.le_of_ble_eq_true rfl) (Nat.le_of_ble_eq_true rfl) ⟨_, zw_243, Or.inl rfl⟩ (.inr ⟨rfl, rfl⟩) (zrefn (ty := tyX7 1) (o := (some q20)) (by decide)) (zreff (ty := tyX7 1) (o := (some q20)) (by decide)) rfl (zUpR (v := (some q20)) hf26.2 (Nat.le_of_ble_eq_true rfl) (Nat.le_of_ble_eq_true rfl) rfl rfl) dX7_init_38 ?_
  obtain ⟨S27, hS28⟩ : ∃ z, z = sR S22 801 a0 (some q20) := ⟨_, rfl⟩
  rw [← hS28] at h ⊢
  have hf26 : a0 ∈ gL S27 ∧ gK S27 a0 = 8 := by rw [hS28]; exact hf26
  refine z_iconst (v := 0) dX7_init_41 rfl ?_
  refine z_istore_n (lv' := [(1, .int 0), (0, .ref a0)]) dX7_init_42 rfl (Nat.le_of_ble_eq_true rfl) rfl ?_
  obtain ⟨m43, hm, h⟩ := h
  refine z_sub [1, 0] rfl ?_
  refine w_X7_init_L43 (fun a0 S h => ?_) m43 2 65 (by omega) (by omega) a0 0 S27 h
  refine z_aload_n 0 dX7_init_68 rfl rfl ?_
  refine z_iconst (v := (-1)) dX7_init_69 rfl ?_
  obtain ⟨hf45, h⟩ := h
  have h := h _ rfl
  refine z_putV (c := 8) (j := 5) (ty0 := tyX7) (S' := sI S 805 a0 (-1)) hf45.1 hf45.2 (Nat.le_of_ble_eq_true rfl) rfl zU_X7 tyX7_ok nmX7 (Nat.le_of_ble_eq_true rfl) (Nat.le_of_ble_eq_true rfl) ⟨_, zw_250, Or.inl rfl⟩ (.inl rfl) rfl rfl rfl (zUpI (v := (-1)) hf45.2 (Nat.le_of_ble_eq_true rfl) (Nat.le_of_ble_eq_true rfl) rfl rfl) dX7_init_70 ?_
  obtain ⟨S46, hS47⟩ : ∃ z, z = sI S 805 a0 (-1) := ⟨_, rfl⟩
  rw [← hS47] at h ⊢
  have hf45 : a0 ∈ gL S46 ∧ gK S46 a0 = 8 := by rw [hS47]; exact hf45
  exact z_return ⟨rfl, rfl, h⟩ rfl (Nat.le_of_ble_eq_true rfl) (Nat.le_of_ble_eq_true rfl) dX7_init_73
set_option maxRecDepth 20000 in
set_option maxHeartbeats 4000000 in
theorem w_X7_firstBand_L8 {E : zE} {K31 : Int32 → zS → Prop} {K40 : zS → Prop} {Q : Int32 → zS → Prop} {X : String → zS → Prop} (hK31 : ∀ (l4 : Int32) (S : zS), K31 l4 S → zJ E (RX7, cX7_firstBand, 5, (some .int), false, [], zTr) ({ frames := 0, cells := 0, slots := 0, locals := 0 } : Room) (zq (qI Q)) (zx X) 31 [(4, .int l4)] [] [] S 0 0) (hK40 : ∀  (S : zS), K40  S → zJ E (RX7, cX7_firstBand, 5, (some .int), false, [], zTr) ({ frames := 0, cells := 0, slots := 0, locals := 0 } : Room) (zq (qI Q)) (zx X) 40 [] [] [] S 0 0) : ∀ (m8 : Nat) (a0 : Nat) (l1 : Int32) (l2 : Int32) (l3 : Int32) (S : zS), p_X7_firstBand_L8 E K31 K40 Q X m8 a0 l1 l2 l3 S → zJ E (RX7, cX7_firstBand, 5, (some .int), false, [], zTr) ({ frames := 0, cells := 0, slots := 0, locals := 0 } : Room) (zq (qI Q)) (zx X) 8 [(0, .ref a0), (1, .int l1), (2, .int l2), (3, .int l3)] [] [] S 0 0 := by
  intro m8
  induction m8 with
  | zero => intro a0 l1 l2 l3 S h; exact (show False from h).elim
  | succ m8 ih =>
    intro a0 l1 l2 l3 S h
    unfold p_X7_firstBand_L8 at h
    refine z_iload_n 3 dX7_firstBand_8 rfl rfl ?_
    refine z_iconst (v := 4) dX7_firstBand_9 rfl ?_
    refine z_icmp_ge 40 dX7_firstBand_10 (by decide) (fun c8 => ?_) (fun c8 => ?_)
    · have h := h.1 c8
      refine z_sub [] rfl ?_
      exact hK40 S h
    · have h := h.2 c8
      refine z_iload_n 1 dX7_firstBand_13 rfl rfl ?_
      refine z_iload_n 3 dX7_firstBand_14 rfl rfl ?_
      refine z_iadd dX7_firstBand_15 ?_
      refine z_iconst (v := 4) dX7_firstBand_16 rfl ?_
      refine z_irem dX7_firstBand_17 (by decide) ?_
      refine z_istore (lv' := [(4, .int ((l1 + l3) - (l1 + l3) / 4 * 4)), (0, .ref a0), (1, .int l1), (2, .int l2), (3, .int l3)]) dX7_firstBand_18 (Nat.le_of_ble_eq_true rfl) rfl ?_
      refine z_aload_n 1 dX7_firstBand_20 rfl rfl ?_
      obtain ⟨hf1, h⟩ := h
      refine z_getQ (c := 8) (j := 0) (f := 800) hf1.1 hf1.2 (Nat.le_of_ble_eq_true rfl) rfl zU_X7 (Nat.le_of_ble_eq_true rfl) (Nat.le_of_ble_eq_true rfl) ⟨_, zw_241, Or.inl rfl⟩ rfl rfl dX7_firstBand_21 ?_
      refine z_iload 0 dX7_firstBand_24 rfl ?_
      obtain ⟨b2, hb3, h⟩ := h
      rw [show va_rf (gR S 800 a0) = Value.ref b2 from by rw [hb3]; rfl]
      obtain ⟨hf4, h⟩ := h
      obtain ⟨j5, hj6, h⟩ := h
      refine z_iald (j := j5) hf4.1 hf4.2 hj6.1 hj6.2.1 hj6.2.2 dX7_firstBand_26 ?_
      refine z_iload_n 3 dX7_firstBand_27 rfl rfl ?_
      refine z_icmp_lt 34 dX7_firstBand_28 (by decide) (fun c7 => ?_) (fun c7 => ?_)
      · have h := h.1 c7
        refine z_iinc (v := (l3 + 1)) (lv' := [(3, .int (l3 + 1)), (4, .int ((l1 + l3) - (l1 + l3) / 4 * 4)), (0, .ref a0), (1, .int l1), (2, .int l2)]) 4 dX7_firstBand_34 rfl rfl (Nat.le_of_ble_eq_true rfl) rfl ?_
        refine z_goto 8 dX7_firstBand_37 (by decide) ?_
        refine z_sub [2, 3, 4, 0] rfl ?_
        exact ih a0 l1 l2 (l3 + 1) S h
      · have h := h.2 c7
        refine z_sub [0] rfl ?_
        exact hK31 ((l1 + l3) - (l1 + l3) / 4 * 4) S h
set_option maxRecDepth 20000 in
set_option maxHeartbeats 4000000 in
theorem w_X7_firstBand {E : zE} {a0 : Nat} {l1 : Int32} {l2 : Int32} {S : zS} {Q : Int32 → zS → Prop} {X : String → zS → Prop} (h : p_X7_firstBand E a0 l1 l2 S Q X) : zM E yX7_firstBand cX7_firstBand 5 (some .int) ({ frames := 0, cells := 0, slots := 0, locals := 0 } : Room) [.ref a0, .int l1, .int l2] S (qI Q) X := by
  unfold p_X7_firstBand at h
  refine zM_of RX7 false (by decide) rfl (fun h => by cases h) (Nat.le_of_ble_eq_true rfl) ?_
  refine z_iload_n 2 dX7_firstBand_0 rfl rfl ?_
  refine z_if_ne 6 dX7_firstBand_1 (by decide) (fun c9 => ?_) (fun c9 => ?_)
  · have h := h.1 c9
    refine z_iconst (v := 0) dX7_firstBand_6 rfl ?_
    refine z_istore_n (lv' := [(3, .int 0), (0, .ref a0), (1, .int l1), (2, .int l2)]) dX7_firstBand_7 rfl (Nat.le_of_ble_eq_true rfl) rfl ?_
    obtain ⟨m8, h⟩ := h
    refine z_sub [1, 2, 3, 0] rfl ?_
    refine w_X7_firstBand_L8 (fun l4 S h => ?_) (fun S h => ?_) m8 a0 l1 l2 0 S h
    · refine z_iload 0 dX7_firstBand_31 rfl ?_
      exact z_ireturn ⟨rfl, _, rfl, h⟩ rfl (Nat.le_of_ble_eq_true rfl) (Nat.le_of_ble_eq_true rfl) dX7_firstBand_33
    · refine z_iconst (v := (-1)) dX7_firstBand_40 rfl ?_
      exact z_ireturn ⟨rfl, _, rfl, h⟩ rfl (Nat.le_of_ble_eq_true rfl) (Nat.le_of_ble_eq_true rfl) dX7_firstBand_41
  · have h := h.2 c9
    refine z_iconst (v := (-1)) dX7_firstBand_4 rfl ?_
    exact z_ireturn ⟨rfl, _, rfl, h⟩ rfl (Nat.le_of_ble_eq_true rfl) (Nat.le_of_ble_eq_true rfl) dX7_firstBand_5
set_option maxRecDepth 20000 in
set_option maxHeartbeats 4000000 in
theorem w_X7_turnBehind {E : zE} {l0 : Int32} {l1 : Int32} {S : zS} {Q : Int32 → zS → Prop} {X : String → zS → Prop} (h : p_X7_turnBehind E l0 l1 S Q X) : zM E yX7_turnBehind cX7_turnBehind 2 (some .int) ({ frames := 0, cells := 0, slots := 0, locals := 0 } : Room) [.int l0, .int l1] S (qI Q) X := by
  unfold p_X7_turnBehind at h
  refine zM_of RX7 false (by decide) rfl (fun h => by cases h) (Nat.le_of_ble_eq_true rfl) ?_
  refine z_iload_n 0 dX7_turnBehind_0 rfl rfl ?_
  refine z_iconst (v := (-1)) dX7_turnBehind_1 rfl ?_
  refine z_icmp_ne 9 dX7_turnBehind_2 (by decide) (fun c1 => ?_) (fun c1 => ?_)
  · have h := h.1 c1
    refine z_iload_n 0 dX7_turnBehind_9 rfl rfl ?_
    refine z_iconst (v := 1) dX7_turnBehind_10 rfl ?_
    refine z_iadd dX7_turnBehind_11 ?_
    refine z_iconst (v := 4) dX7_turnBehind_12 rfl ?_
    refine z_irem dX7_turnBehind_13 (by decide) ?_
    exact z_ireturn ⟨rfl, _, rfl, h⟩ rfl (Nat.le_of_ble_eq_true rfl) (Nat.le_of_ble_eq_true rfl) dX7_turnBehind_14
  · have h := h.2 c1
    refine z_iload_n 1 dX7_turnBehind_5 rfl rfl ?_
    refine z_goto 14 dX7_turnBehind_6 (by decide) ?_
    exact z_ireturn ⟨rfl, _, rfl, h⟩ rfl (Nat.le_of_ble_eq_true rfl) (Nat.le_of_ble_eq_true rfl) dX7_turnBehind_14
set_option maxRecDepth 20000 in
set_option maxHeartbeats 4000000 in
theorem w_X7_bandFor_J48 {E : zE} {B13 : Nat → Int32 → Int32 → Int32 → Int32 → zS → Prop} {Q : Int32 → zS → Prop} {X : String → zS → Prop} (hB13 : ∀ (a0 : Nat) (l1 : Int32) (l2 : Int32) (l3 : Int32) (l4 : Int32) (S : zS), B13 a0 l1 l2 l3 l4 S → zJ E (RX7, cX7_bandFor, 6, (some .int), false, [], zTr) ({ frames := 4, cells := 0, slots := 0, locals := 86 } : Room) (zq (qI Q)) (zx X) 13 [(0, .ref a0), (1, .int l1), (2, .int l2), (3, .int l3), (4, .int l4)] [] [] S 0 0) (a0 : Nat) (l1 : Int32) (l3 : Int32) (l4 : Int32) (l100 : Int32) (S : zS) (h : p_X7_bandFor_J48 E B13 Q X a0 l1 l3 l4 l100 S) : zJ E (RX7, cX7_bandFor, 6, (some .int), false, [], zTr) ({ frames := 4, cells := 0, slots := 0, locals := 86 } : Room) (zq (qI Q)) (zx X) 48 [(0, .ref a0), (1, .int l1), (3, .int l3), (4, .int l4)] [.int l100] [] S 0 0 := by
  unfold p_X7_bandFor_J48 at h
  refine z_istore (lv' := [(5, .int l100), (0, .ref a0), (1, .int l1), (3, .int l3), (4, .int l4)]) dX7_bandFor_48 (Nat.le_of_ble_eq_true rfl) rfl ?_
  refine z_iload 0 dX7_bandFor_50 rfl ?_
  refine z_if_eq 62 dX7_bandFor_52 (by decide) (fun c22 => ?_) (fun c22 => ?_)
  · have h := h.1 c22
    refine z_aload_n 1 dX7_bandFor_62 rfl rfl ?_
    refine z_iload_n 3 dX7_bandFor_63 rfl rfl ?_
    refine z_aload_n 1 dX7_bandFor_64 rfl rfl ?_
    obtain ⟨hf3, h⟩ := h
    refine z_getQ (c := 8) (j := 1) (f := 801) hf3.1 hf3.2 (Nat.le_of_ble_eq_true rfl) rfl zU_X7 (Nat.le_of_ble_eq_true rfl) (Nat.le_of_ble_eq_true rfl) ⟨_, zw_243, Or.inl rfl⟩ rfl rfl dX7_bandFor_65 ?_
    refine z_iload 4 dX7_bandFor_68 rfl ?_
    obtain ⟨b4, hb5, h⟩ := h
    rw [show va_rf (gR S 801 a0) = Value.ref b4 from by rw [hb5]; rfl]
    obtain ⟨hf6, h⟩ := h
    obtain ⟨j7, hj8, h⟩ := h
    refine z_aald (j := j7) hf6.1 rfl hf6.2.1 hf6.2.2 hj8.1 hj8.2.1 hj8.2.2 dX7_bandFor_70 ?_
    obtain ⟨b9, hb10, h⟩ := h
    rw [show va_rf (gQ S b4 j7) = Value.ref b9 from by rw [hb10]; rfl]
    obtain ⟨hf18, h⟩ := h
    refine z_callVI (ci := 4) (st := [.int l3, .ref a0]) (w_X3_greatestStage h) hf18.1 hf18.2 (Nat.le_of_ble_eq_true rfl) rfl zw_931 zw_928 zw_929 zw_930 zw_40 zy_X3_greatestStage rfl rfl ⟨Nat.le_of_ble_eq_true rfl, Nat.le_of_ble_eq_true rfl⟩ ⟨(Nat.le_of_ble_eq_true rfl), (Nat.le_of_ble_eq_true rfl)⟩ (Nat.le_of_ble_eq_true rfl) dX7_bandFor_71 (fun _ _ hx => hx.elim) (fun r12 S11 h => ?_)
    refine z_widen (k' := 0) (n' := 0) (Nat.le_refl _) (Nat.le_refl _) ?_
    obtain ⟨hf17, h⟩ := h
    refine z_callVI (ci := 8) (st := []) (w_X7_firstBand h) hf17.1 hf17.2 (Nat.le_of_ble_eq_true rfl) rfl zw_936 zw_933 zw_935 zw_21 zw_39 zy_X7_firstBand rfl rfl ⟨Nat.le_of_ble_eq_true rfl, Nat.le_of_ble_eq_true rfl⟩ ⟨(Nat.le_of_ble_eq_true rfl), (Nat.le_of_ble_eq_true rfl)⟩ (Nat.le_of_ble_eq_true rfl) dX7_bandFor_74 (fun _ _ hx => hx.elim) (fun r14 S13 h => ?_)
    refine z_widen (k' := 0) (n' := 0) (Nat.le_refl _) (Nat.le_refl _) ?_
    refine z_istore_n (lv' := [(2, .int r14), (5, .int l100), (0, .ref a0), (1, .int l1), (3, .int l3), (4, .int l4)]) dX7_bandFor_77 rfl (Nat.le_of_ble_eq_true rfl) rfl ?_
    refine z_iload_n 0 dX7_bandFor_78 rfl rfl ?_
    refine z_iload_n 4 dX7_bandFor_79 rfl rfl ?_
    refine z_callSI (st := []) (w_X7_turnBehind h) zw_939 zw_937 zw_938 zw_39 zy_X7_turnBehind rfl rfl ⟨Nat.le_of_ble_eq_true rfl, Nat.le_of_ble_eq_true rfl⟩ ⟨(Nat.le_of_ble_eq_true rfl), (Nat.le_of_ble_eq_true rfl)⟩ (Nat.le_of_ble_eq_true rfl) dX7_bandFor_80 (fun _ _ hx => hx.elim) (fun r16 S15 h => ?_)
    refine z_widen (k' := 0) (n' := 0) (Nat.le_refl _) (Nat.le_refl _) ?_
    refine z_istore_n (lv' := [(3, .int r16), (2, .int r14), (5, .int l100), (0, .ref a0), (1, .int l1), (4, .int l4)]) dX7_bandFor_83 rfl (Nat.le_of_ble_eq_true rfl) rfl ?_
    refine z_iinc (v := (l4 + 1)) (lv' := [(4, .int (l4 + 1)), (3, .int r16), (2, .int r14), (5, .int l100), (0, .ref a0), (1, .int l1)]) 5 dX7_bandFor_84 rfl rfl (Nat.le_of_ble_eq_true rfl) rfl ?_
    refine z_goto 13 dX7_bandFor_87 (by decide) ?_
    refine z_sub [4, 5, 2, 1, 0] rfl ?_
    exact hB13 a0 l1 r14 r16 (l4 + 1) S15 h
  · have h := h.2 c22
    refine z_aload_n 1 dX7_bandFor_55 rfl rfl ?_
    obtain ⟨hf19, h⟩ := h
    refine z_getI (c := 8) (j := 5) (f := 805) hf19.1 hf19.2 (Nat.le_of_ble_eq_true rfl) rfl zU_X7 (Nat.le_of_ble_eq_true rfl) (Nat.le_of_ble_eq_true rfl) ⟨_, zw_250, Or.inl rfl⟩ rfl rfl dX7_bandFor_56 ?_
    refine z_goto 77 dX7_bandFor_59 (by decide) ?_
    refine z_istore_n (lv' := [(2, .int (gI S 805 a0)), (5, .int l100), (0, .ref a0), (1, .int l1), (3, .int l3), (4, .int l4)]) dX7_bandFor_77 rfl (Nat.le_of_ble_eq_true rfl) rfl ?_
    refine z_iload_n 0 dX7_bandFor_78 rfl rfl ?_
    refine z_iload_n 4 dX7_bandFor_79 rfl rfl ?_
    refine z_callSI (st := []) (w_X7_turnBehind h) zw_939 zw_937 zw_938 zw_39 zy_X7_turnBehind rfl rfl ⟨Nat.le_of_ble_eq_true rfl, Nat.le_of_ble_eq_true rfl⟩ ⟨(Nat.le_of_ble_eq_true rfl), (Nat.le_of_ble_eq_true rfl)⟩ (Nat.le_of_ble_eq_true rfl) dX7_bandFor_80 (fun _ _ hx => hx.elim) (fun r21 S20 h => ?_)
    refine z_widen (k' := 0) (n' := 0) (Nat.le_refl _) (Nat.le_refl _) ?_
    refine z_istore_n (lv' := [(3, .int r21), (2, .int (gI S 805 a0)), (5, .int l100), (0, .ref a0), (1, .int l1), (4, .int l4)]) dX7_bandFor_83 rfl (Nat.le_of_ble_eq_true rfl) rfl ?_
    refine z_iinc (v := (l4 + 1)) (lv' := [(4, .int (l4 + 1)), (3, .int r21), (2, .int (gI S 805 a0)), (5, .int l100), (0, .ref a0), (1, .int l1)]) 5 dX7_bandFor_84 rfl rfl (Nat.le_of_ble_eq_true rfl) rfl ?_
    refine z_goto 13 dX7_bandFor_87 (by decide) ?_
    refine z_sub [4, 5, 2, 1, 0] rfl ?_
    exact hB13 a0 l1 (gI S 805 a0) r21 (l4 + 1) S20 h
set_option maxRecDepth 20000 in
set_option maxHeartbeats 4000000 in
theorem w_X7_bandFor_J47 {E : zE} {B13 : Nat → Int32 → Int32 → Int32 → Int32 → zS → Prop} {Q : Int32 → zS → Prop} {X : String → zS → Prop} (hB13 : ∀ (a0 : Nat) (l1 : Int32) (l2 : Int32) (l3 : Int32) (l4 : Int32) (S : zS), B13 a0 l1 l2 l3 l4 S → zJ E (RX7, cX7_bandFor, 6, (some .int), false, [], zTr) ({ frames := 4, cells := 0, slots := 0, locals := 86 } : Room) (zq (qI Q)) (zx X) 13 [(0, .ref a0), (1, .int l1), (2, .int l2), (3, .int l3), (4, .int l4)] [] [] S 0 0) (a0 : Nat) (l1 : Int32) (l3 : Int32) (l4 : Int32) (S : zS) (h : p_X7_bandFor_J47 E B13 Q X a0 l1 l3 l4 S) : zJ E (RX7, cX7_bandFor, 6, (some .int), false, [], zTr) ({ frames := 4, cells := 0, slots := 0, locals := 86 } : Room) (zq (qI Q)) (zx X) 47 [(0, .ref a0), (1, .int l1), (3, .int l3), (4, .int l4)] [] [] S 0 0 := by
  unfold p_X7_bandFor_J47 at h
  refine z_iconst (v := 0) dX7_bandFor_47 rfl ?_
  refine w_X7_bandFor_J48 (fun a0 l1 l2 l3 l4 S h => ?_) a0 l1 l3 l4 0 S h
  exact hB13 a0 l1 l2 l3 l4 S h
set_option maxRecDepth 20000 in
set_option maxHeartbeats 4000000 in
theorem w_X7_bandFor_L13 {E : zE} {K90 : Int32 → zS → Prop} {Q : Int32 → zS → Prop} {X : String → zS → Prop} (hK90 : ∀ (l2 : Int32) (S : zS), K90 l2 S → zJ E (RX7, cX7_bandFor, 6, (some .int), false, [], zTr) ({ frames := 4, cells := 0, slots := 0, locals := 86 } : Room) (zq (qI Q)) (zx X) 90 [(2, .int l2)] [] [] S 0 0) : ∀ (m13 : Nat) (a0 : Nat) (l1 : Int32) (l2 : Int32) (l3 : Int32) (l4 : Int32) (S : zS), p_X7_bandFor_L13 E K90 Q X m13 a0 l1 l2 l3 l4 S → zJ E (RX7, cX7_bandFor, 6, (some .int), false, [], zTr) ({ frames := 4, cells := 0, slots := 0, locals := 86 } : Room) (zq (qI Q)) (zx X) 13 [(0, .ref a0), (1, .int l1), (2, .int l2), (3, .int l3), (4, .int l4)] [] [] S 0 0 := by
  intro m13
  induction m13 with
  | zero => intro a0 l1 l2 l3 l4 S h; exact (show False from h).elim
  | succ m13 ih =>
    intro a0 l1 l2 l3 l4 S h
    unfold p_X7_bandFor_L13 at h
    refine z_iload 4 dX7_bandFor_13 rfl ?_
    refine z_iload_n 1 dX7_bandFor_15 rfl rfl ?_
    refine z_icmp_gt 90 dX7_bandFor_16 (by decide) (fun c26 => ?_) (fun c26 => ?_)
    · have h := h.1 c26
      refine z_sub [2] rfl ?_
      exact hK90 l2 S h
    · have h := h.2 c26
      refine z_iload 4 dX7_bandFor_19 rfl ?_
      refine z_bipush (v := 60) dX7_bandFor_21 rfl ?_
      refine z_icmp_gt 90 dX7_bandFor_23 (by decide) (fun c25 => ?_) (fun c25 => ?_)
      · have h := h.1 c25
        refine z_sub [2] rfl ?_
        exact hK90 l2 S h
      · have h := h.2 c25
        refine z_iload 4 dX7_bandFor_26 rfl ?_
        refine z_aload_n 0 dX7_bandFor_28 rfl rfl ?_
        obtain ⟨hf2, h⟩ := h
        refine z_getI (c := 8) (j := 2) (f := 802) hf2.1 hf2.2 (Nat.le_of_ble_eq_true rfl) rfl zU_X7 (Nat.le_of_ble_eq_true rfl) (Nat.le_of_ble_eq_true rfl) ⟨_, zw_245, Or.inl rfl⟩ rfl rfl dX7_bandFor_29 ?_
        refine z_icmp_ne 47 dX7_bandFor_32 (by decide) (fun c24 => ?_) (fun c24 => ?_)
        · have h := h.1 c24
          refine z_sub [0, 1, 3, 4] rfl ?_
          refine w_X7_bandFor_J47 (fun a0 l1 l2 l3 l4 S h => ?_) a0 l1 l3 l4 S h
          exact ih a0 l1 l2 l3 l4 S h
        · have h := h.2 c24
          refine z_aload_n 0 dX7_bandFor_35 rfl rfl ?_
          refine z_getI (c := 8) (j := 5) (f := 805) hf2.1 hf2.2 (Nat.le_of_ble_eq_true rfl) rfl zU_X7 (Nat.le_of_ble_eq_true rfl) (Nat.le_of_ble_eq_true rfl) ⟨_, zw_250, Or.inl rfl⟩ rfl rfl dX7_bandFor_36 ?_
          refine z_iconst (v := (-1)) dX7_bandFor_39 rfl ?_
          refine z_icmp_eq 47 dX7_bandFor_40 (by decide) (fun c23 => ?_) (fun c23 => ?_)
          · have h := h.1 c23
            refine z_sub [0, 1, 3, 4] rfl ?_
            refine w_X7_bandFor_J47 (fun a0 l1 l2 l3 l4 S h => ?_) a0 l1 l3 l4 S h
            exact ih a0 l1 l2 l3 l4 S h
          · have h := h.2 c23
            refine z_iconst (v := 1) dX7_bandFor_43 rfl ?_
            refine z_goto 48 dX7_bandFor_44 (by decide) ?_
            refine z_sub [0, 1, 3, 4] rfl ?_
            refine w_X7_bandFor_J48 (fun a0 l1 l2 l3 l4 S h => ?_) a0 l1 l3 l4 1 S h
            exact ih a0 l1 l2 l3 l4 S h
set_option maxRecDepth 20000 in
set_option maxHeartbeats 4000000 in
theorem w_X7_bandFor {E : zE} {a0 : Nat} {l1 : Int32} {S : zS} {Q : Int32 → zS → Prop} {X : String → zS → Prop} (h : p_X7_bandFor E a0 l1 S Q X) : zM E yX7_bandFor cX7_bandFor 6 (some .int) ({ frames := 4, cells := 0, slots := 0, locals := 86 } : Room) [.ref a0, .int l1] S (qI Q) X := by
  unfold p_X7_bandFor at h
  refine zM_of RX7 false (by decide) rfl (fun h => by cases h) (Nat.le_of_ble_eq_true rfl) ?_
  refine z_iconst (v := (-1)) dX7_bandFor_0 rfl ?_
  refine z_istore_n (lv' := [(2, .int (-1)), (0, .ref a0), (1, .int l1)]) dX7_bandFor_1 rfl (Nat.le_of_ble_eq_true rfl) rfl ?_
  refine z_aload_n 1 dX7_bandFor_2 rfl rfl ?_
  obtain ⟨hf1, h⟩ := h
  refine z_getI (c := 8) (j := 4) (f := 804) hf1.1 hf1.2 (Nat.le_of_ble_eq_true rfl) rfl zU_X7 (Nat.le_of_ble_eq_true rfl) (Nat.le_of_ble_eq_true rfl) ⟨_, zw_249, Or.inl rfl⟩ rfl rfl dX7_bandFor_3 ?_
  refine z_istore_n (lv' := [(3, .int (gI S 804 a0)), (2, .int (-1)), (0, .ref a0), (1, .int l1)]) dX7_bandFor_6 rfl (Nat.le_of_ble_eq_true rfl) rfl ?_
  refine z_aload_n 2 dX7_bandFor_7 rfl rfl ?_
  refine z_getI (c := 8) (j := 2) (f := 802) hf1.1 hf1.2 (Nat.le_of_ble_eq_true rfl) rfl zU_X7 (Nat.le_of_ble_eq_true rfl) (Nat.le_of_ble_eq_true rfl) ⟨_, zw_245, Or.inl rfl⟩ rfl rfl dX7_bandFor_8 ?_
  refine z_istore (lv' := [(4, .int (gI S 802 a0)), (3, .int (gI S 804 a0)), (2, .int (-1)), (0, .ref a0), (1, .int l1)]) dX7_bandFor_11 (Nat.le_of_ble_eq_true rfl) rfl ?_
  obtain ⟨m13, h⟩ := h
  refine z_sub [3, 4, 2, 1, 0] rfl ?_
  refine w_X7_bandFor_L13 (fun l2 S h => ?_) m13 a0 l1 (-1) (gI S 804 a0) (gI S 802 a0) S h
  refine z_iload_n 0 dX7_bandFor_90 rfl rfl ?_
  exact z_ireturn ⟨rfl, _, rfl, h⟩ rfl (Nat.le_of_ble_eq_true rfl) (Nat.le_of_ble_eq_true rfl) dX7_bandFor_91
set_option maxRecDepth 20000 in
set_option maxHeartbeats 4000000 in
theorem w_X7_canRingToday {E : zE} {a0 : Nat} {a1 : Nat} {S : zS} {Q : Int32 → zS → Prop} {X : String → zS → Prop} (h : p_X7_canRingToday E a0 a1 S Q X) : zM E yX7_canRingToday cX7_canRingToday 3 (some .boolean) ({ frames := 5, cells := 0, slots := 0, locals := 111 } : Room) [.ref a0, .ref a1] S (qI Q) X := by
  unfold p_X7_canRingToday at h
  refine zM_of RX7 false (by decide) rfl (fun h => by cases h) (Nat.le_of_ble_eq_true rfl) ?_
  refine z_aload_n 0 dX7_canRingToday_0 rfl rfl ?_
  refine z_aload_n 0 dX7_canRingToday_1 rfl rfl ?_
  obtain ⟨hf1, h⟩ := h
  refine z_getI (c := 8) (j := 2) (f := 802) hf1.1 hf1.2 (Nat.le_of_ble_eq_true rfl) rfl zU_X7 (Nat.le_of_ble_eq_true rfl) (Nat.le_of_ble_eq_true rfl) ⟨_, zw_245, Or.inl rfl⟩ rfl rfl dX7_canRingToday_2 ?_
  refine z_callVI (ci := 8) (st := []) (w_X7_bandFor h) hf1.1 hf1.2 (Nat.le_of_ble_eq_true rfl) rfl zw_927 zw_924 zw_925 zw_926 zw_39 zy_X7_bandFor rfl rfl ⟨Nat.le_of_ble_eq_true rfl, Nat.le_of_ble_eq_true rfl⟩ ⟨(Nat.le_of_ble_eq_true rfl), (Nat.le_of_ble_eq_true rfl)⟩ (Nat.le_of_ble_eq_true rfl) dX7_canRingToday_5 (fun _ _ hx => hx.elim) (fun r3 S2 h => ?_)
  refine z_widen (k' := 0) (n' := 0) (Nat.le_refl _) (Nat.le_refl _) ?_
  refine z_istore_n (lv' := [(2, .int r3), (0, .ref a0), (1, .ref a1)]) dX7_canRingToday_8 rfl (Nat.le_of_ble_eq_true rfl) rfl ?_
  refine z_iload_n 0 dX7_canRingToday_9 rfl rfl ?_
  refine z_iconst (v := (-1)) dX7_canRingToday_10 rfl ?_
  refine z_icmp_eq 47 dX7_canRingToday_11 (by decide) (fun c27 => ?_) (fun c27 => ?_)
  · have h := h.1 c27
    refine z_iconst (v := 0) dX7_canRingToday_47 rfl ?_
    obtain ⟨hz4, h⟩ := h
    exact z_zreturn ⟨rfl, _, rfl, h⟩ rfl (zbn hz4) (Nat.le_of_ble_eq_true rfl) (Nat.le_of_ble_eq_true rfl) dX7_canRingToday_48
  · have h := h.2 c27
    refine z_aload_n 1 dX7_canRingToday_14 rfl rfl ?_
    obtain ⟨hf5, h⟩ := h
    refine z_getQ (c := 8) (j := 0) (f := 800) hf5.1 hf5.2 (Nat.le_of_ble_eq_true rfl) rfl zU_X7 (Nat.le_of_ble_eq_true rfl) (Nat.le_of_ble_eq_true rfl) ⟨_, zw_241, Or.inl rfl⟩ rfl rfl dX7_canRingToday_15 ?_
    refine z_iload_n 0 dX7_canRingToday_18 rfl rfl ?_
    obtain ⟨b6, hb7, h⟩ := h
    rw [show va_rf (gR S2 800 a0) = Value.ref b6 from by rw [hb7]; rfl]
    obtain ⟨hf8, h⟩ := h
    obtain ⟨j9, hj10, h⟩ := h
    refine z_iald (j := j9) hf8.1 hf8.2 hj10.1 hj10.2.1 hj10.2.2 dX7_canRingToday_19 ?_
    refine z_aload_n 2 dX7_canRingToday_20 rfl rfl ?_
    obtain ⟨hf11, h⟩ := h
    refine z_getI (c := 9) (j := 1) (f := 901) hf11.1 hf11.2 (Nat.le_of_ble_eq_true rfl) rfl zU_X9 (Nat.le_of_ble_eq_true rfl) (Nat.le_of_ble_eq_true rfl) ⟨_, zw_120, Or.inl rfl⟩ rfl rfl dX7_canRingToday_21 ?_
    refine z_icmp_lt 47 dX7_canRingToday_24 (by decide) (fun c26 => ?_) (fun c26 => ?_)
    · have h := h.1 c26
      refine z_iconst (v := 0) dX7_canRingToday_47 rfl ?_
      obtain ⟨hz12, h⟩ := h
      exact z_zreturn ⟨rfl, _, rfl, h⟩ rfl (zbn hz12) (Nat.le_of_ble_eq_true rfl) (Nat.le_of_ble_eq_true rfl) dX7_canRingToday_48
    · have h := h.2 c26
      refine z_aload_n 1 dX7_canRingToday_27 rfl rfl ?_
      refine z_getQ (c := 8) (j := 1) (f := 801) hf5.1 hf5.2 (Nat.le_of_ble_eq_true rfl) rfl zU_X7 (Nat.le_of_ble_eq_true rfl) (Nat.le_of_ble_eq_true rfl) ⟨_, zw_243, Or.inl rfl⟩ rfl rfl dX7_canRingToday_28 ?_
      refine z_aload_n 1 dX7_canRingToday_31 rfl rfl ?_
      refine z_getI (c := 8) (j := 2) (f := 802) hf5.1 hf5.2 (Nat.le_of_ble_eq_true rfl) rfl zU_X7 (Nat.le_of_ble_eq_true rfl) (Nat.le_of_ble_eq_true rfl) ⟨_, zw_245, Or.inl rfl⟩ rfl rfl dX7_canRingToday_32 ?_
      obtain ⟨b13, hb14, h⟩ := h
      rw [show va_rf (gR S2 801 a0) = Value.ref b13 from by rw [hb14]; rfl]
      obtain ⟨hf15, h⟩ := h
      obtain ⟨j16, hj17, h⟩ := h
      refine z_aald (j := j16) hf15.1 rfl hf15.2.1 hf15.2.2 hj17.1 hj17.2.1 hj17.2.2 dX7_canRingToday_35 ?_
      refine z_aload_n 2 dX7_canRingToday_36 rfl rfl ?_
      obtain ⟨b18, hb19, h⟩ := h
      rw [show va_rf (gQ S2 b13 j16) = Value.ref b18 from by rw [hb19]; rfl]
      obtain ⟨hf25, h⟩ := h
      refine z_callVI (ci := 4) (st := []) (w_X3_hasTouch h) hf25.1 hf25.2 (Nat.le_of_ble_eq_true rfl) rfl zw_906 zw_958 zw_904 zw_905 zw_40 zy_X3_hasTouch rfl rfl ⟨Nat.le_of_ble_eq_true rfl, Nat.le_of_ble_eq_true rfl⟩ ⟨(Nat.le_of_ble_eq_true rfl), (Nat.le_of_ble_eq_true rfl)⟩ (Nat.le_of_ble_eq_true rfl) dX7_canRingToday_37 (fun _ _ hx => hx.elim) (fun r21 S20 h => ?_)
      refine z_widen (k' := 0) (n' := 0) (Nat.le_refl _) (Nat.le_refl _) ?_
      refine z_if_eq 47 dX7_canRingToday_40 (by decide) (fun c24 => ?_) (fun c24 => ?_)
      · have h := h.1 c24
        refine z_iconst (v := 0) dX7_canRingToday_47 rfl ?_
        obtain ⟨hz22, h⟩ := h
        exact z_zreturn ⟨rfl, _, rfl, h⟩ rfl (zbn hz22) (Nat.le_of_ble_eq_true rfl) (Nat.le_of_ble_eq_true rfl) dX7_canRingToday_48
      · have h := h.2 c24
        refine z_iconst (v := 1) dX7_canRingToday_43 rfl ?_
        refine z_goto 48 dX7_canRingToday_44 (by decide) ?_
        obtain ⟨hz23, h⟩ := h
        exact z_zreturn ⟨rfl, _, rfl, h⟩ rfl (zbn hz23) (Nat.le_of_ble_eq_true rfl) (Nat.le_of_ble_eq_true rfl) dX7_canRingToday_48
set_option maxRecDepth 20000 in
set_option maxHeartbeats 4000000 in
theorem w_X7_keepBandOfToday {E : zE} {a0 : Nat} {S : zS} {Q : zS → Prop} {X : String → zS → Prop} (h : p_X7_keepBandOfToday E a0 S Q X) : zM E yX7_keepBandOfToday cX7_keepBandOfToday 1 none ({ frames := 5, cells := 0, slots := 0, locals := 111 } : Room) [.ref a0] S (qV Q) X := by
  unfold p_X7_keepBandOfToday at h
  refine zM_of RX7 false (by decide) rfl (fun h => by cases h) (Nat.le_of_ble_eq_true rfl) ?_
  refine z_aload_n 0 dX7_keepBandOfToday_0 rfl rfl ?_
  refine z_aload_n 0 dX7_keepBandOfToday_1 rfl rfl ?_
  refine z_aload_n 0 dX7_keepBandOfToday_2 rfl rfl ?_
  obtain ⟨hf1, h⟩ := h
  refine z_getI (c := 8) (j := 2) (f := 802) hf1.1 hf1.2 (Nat.le_of_ble_eq_true rfl) rfl zU_X7 (Nat.le_of_ble_eq_true rfl) (Nat.le_of_ble_eq_true rfl) ⟨_, zw_245, Or.inl rfl⟩ rfl rfl dX7_keepBandOfToday_3 ?_
  refine z_callVI (ci := 8) (st := [.ref a0]) (w_X7_bandFor h) hf1.1 hf1.2 (Nat.le_of_ble_eq_true rfl) rfl zw_927 zw_924 zw_925 zw_926 zw_39 zy_X7_bandFor rfl rfl ⟨Nat.le_of_ble_eq_true rfl, Nat.le_of_ble_eq_true rfl⟩ ⟨(Nat.le_of_ble_eq_true rfl), (Nat.le_of_ble_eq_true rfl)⟩ (Nat.le_of_ble_eq_true rfl) dX7_keepBandOfToday_6 (fun _ _ hx => hx.elim) (fun r3 S2 h => ?_)
  refine z_widen (k' := 0) (n' := 0) (Nat.le_refl _) (Nat.le_refl _) ?_
  obtain ⟨hf4, h⟩ := h
  have h := h _ rfl
  refine z_putV (c := 8) (j := 5) (ty0 := tyX7) (S' := sI S2 805 a0 r3) hf4.1 hf4.2 (Nat.le_of_ble_eq_true rfl) rfl zU_X7 tyX7_ok nmX7 (Nat.le_of_ble_eq_true rfl) (Nat.le_of_ble_eq_true rfl) ⟨_, zw_250, Or.inl rfl⟩ (.inl rfl) rfl rfl rfl (zUpI (v := r3) hf4.2 (Nat.le_of_ble_eq_true rfl) (Nat.le_of_ble_eq_true rfl) rfl rfl) dX7_keepBandOfToday_9 ?_
  obtain ⟨S5, hS6⟩ : ∃ z, z = sI S2 805 a0 r3 := ⟨_, rfl⟩
  rw [← hS6] at h ⊢
  have hf4 : a0 ∈ gL S5 ∧ gK S5 a0 = 8 := by rw [hS6]; exact hf4
  exact z_return ⟨rfl, rfl, h⟩ rfl (Nat.le_of_ble_eq_true rfl) (Nat.le_of_ble_eq_true rfl) dX7_keepBandOfToday_12
set_option maxRecDepth 20000 in
set_option maxHeartbeats 4000000 in
theorem w_X7_endDay {E : zE} {a0 : Nat} {S : zS} {Q : zS → Prop} {X : String → zS → Prop} (h : p_X7_endDay E a0 S Q X) : zM E yX7_endDay cX7_endDay 1 none ({ frames := 5, cells := 0, slots := 0, locals := 111 } : Room) [.ref a0] S (qV Q) X := by
  unfold p_X7_endDay at h
  refine zM_of RX7 false (by decide) rfl (fun h => by cases h) (Nat.le_of_ble_eq_true rfl) ?_
  refine z_aload_n 0 dX7_endDay_0 rfl rfl ?_
  refine z_aload_n 0 dX7_endDay_1 rfl rfl ?_
  refine z_aload_n 0 dX7_endDay_2 rfl rfl ?_
  obtain ⟨hf1, h⟩ := h
  refine z_getI (c := 8) (j := 2) (f := 802) hf1.1 hf1.2 (Nat.le_of_ble_eq_true rfl) rfl zU_X7 (Nat.le_of_ble_eq_true rfl) (Nat.le_of_ble_eq_true rfl) ⟨_, zw_245, Or.inl rfl⟩ rfl rfl dX7_endDay_3 ?_
  refine z_callVI (ci := 8) (st := [.ref a0]) (w_X7_bandFor h) hf1.1 hf1.2 (Nat.le_of_ble_eq_true rfl) rfl zw_927 zw_924 zw_925 zw_926 zw_39 zy_X7_bandFor rfl rfl ⟨Nat.le_of_ble_eq_true rfl, Nat.le_of_ble_eq_true rfl⟩ ⟨(Nat.le_of_ble_eq_true rfl), (Nat.le_of_ble_eq_true rfl)⟩ (Nat.le_of_ble_eq_true rfl) dX7_endDay_6 (fun _ _ hx => hx.elim) (fun r3 S2 h => ?_)
  refine z_widen (k' := 0) (n' := 0) (Nat.le_refl _) (Nat.le_refl _) ?_
  refine z_aload_n 0 dX7_endDay_9 rfl rfl ?_
  obtain ⟨hf4, h⟩ := h
  refine z_getI (c := 8) (j := 4) (f := 804) hf4.1 hf4.2 (Nat.le_of_ble_eq_true rfl) rfl zU_X7 (Nat.le_of_ble_eq_true rfl) (Nat.le_of_ble_eq_true rfl) ⟨_, zw_249, Or.inl rfl⟩ rfl rfl dX7_endDay_10 ?_
  refine z_callSI (st := [.ref a0]) (w_X7_turnBehind h) zw_939 zw_937 zw_938 zw_39 zy_X7_turnBehind rfl rfl ⟨Nat.le_of_ble_eq_true rfl, Nat.le_of_ble_eq_true rfl⟩ ⟨(Nat.le_of_ble_eq_true rfl), (Nat.le_of_ble_eq_true rfl)⟩ (Nat.le_of_ble_eq_true rfl) dX7_endDay_13 (fun _ _ hx => hx.elim) (fun r6 S5 h => ?_)
  refine z_widen (k' := 0) (n' := 0) (Nat.le_refl _) (Nat.le_refl _) ?_
  obtain ⟨hf7, h⟩ := h
  have h := h _ rfl
  refine z_putV (c := 8) (j := 4) (ty0 := tyX7) (S' := sI S5 804 a0 r6) hf7.1 hf7.2 (Nat.le_of_ble_eq_true rfl) rfl zU_X7 tyX7_ok nmX7 (Nat.le_of_ble_eq_true rfl) (Nat.le_of_ble_eq_true rfl) ⟨_, zw_249, Or.inl rfl⟩ (.inl rfl) rfl rfl rfl (zUpI (v := r6) hf7.2 (Nat.le_of_ble_eq_true rfl) (Nat.le_of_ble_eq_true rfl) rfl rfl) dX7_endDay_16 ?_
  obtain ⟨S8, hS9⟩ : ∃ z, z = sI S5 804 a0 r6 := ⟨_, rfl⟩
  rw [← hS9] at h ⊢
  have hf7 : a0 ∈ gL S8 ∧ gK S8 a0 = 8 := by rw [hS9]; exact hf7
  refine z_aload_n 0 dX7_endDay_19 rfl rfl ?_
  refine z_iconst (v := (-1)) dX7_endDay_20 rfl ?_
  have h := h _ rfl
  refine z_putV (c := 8) (j := 5) (ty0 := tyX7) (S' := sI S8 805 a0 (-1)) hf7.1 hf7.2 (Nat.le_of_ble_eq_true rfl) rfl zU_X7 tyX7_ok nmX7 (Nat.le_of_ble_eq_true rfl) (Nat.le_of_ble_eq_true rfl) ⟨_, zw_250, Or.inl rfl⟩ (.inl rfl) rfl rfl rfl (zUpI (v := (-1)) hf7.2 (Nat.le_of_ble_eq_true rfl) (Nat.le_of_ble_eq_true rfl) rfl rfl) dX7_endDay_21 ?_
  obtain ⟨S10, hS11⟩ : ∃ z, z = sI S8 805 a0 (-1) := ⟨_, rfl⟩
  rw [← hS11] at h ⊢
  have hf7 : a0 ∈ gL S10 ∧ gK S10 a0 = 8 := by rw [hS11]; exact hf7
  refine z_aload_n 0 dX7_endDay_24 rfl rfl ?_
  refine z_getQ (c := 8) (j := 1) (f := 801) hf7.1 hf7.2 (Nat.le_of_ble_eq_true rfl) rfl zU_X7 (Nat.le_of_ble_eq_true rfl) (Nat.le_of_ble_eq_true rfl) ⟨_, zw_243, Or.inl rfl⟩ rfl rfl dX7_endDay_25 ?_
  refine z_aload_n 0 dX7_endDay_28 rfl rfl ?_
  refine z_getI (c := 8) (j := 2) (f := 802) hf7.1 hf7.2 (Nat.le_of_ble_eq_true rfl) rfl zU_X7 (Nat.le_of_ble_eq_true rfl) (Nat.le_of_ble_eq_true rfl) ⟨_, zw_245, Or.inl rfl⟩ rfl rfl dX7_endDay_29 ?_
  obtain ⟨b12, hb13, h⟩ := h
  rw [show va_rf (gR S10 801 a0) = Value.ref b12 from by rw [hb13]; rfl]
  obtain ⟨hf14, h⟩ := h
  obtain ⟨j15, hj16, h⟩ := h
  refine z_aald (j := j15) hf14.1 rfl hf14.2.1 hf14.2.2 hj16.1 hj16.2.1 hj16.2.2 dX7_endDay_32 ?_
  obtain ⟨b17, hb18, h⟩ := h
  rw [show va_rf (gQ S10 b12 j15) = Value.ref b17 from by rw [hb18]; rfl]
  obtain ⟨hf19, h⟩ := h
  refine z_getQ (c := 4) (j := 0) (f := 400) hf19.1 hf19.2 (Nat.le_of_ble_eq_true rfl) rfl zU_X3 (Nat.le_of_ble_eq_true rfl) (Nat.le_of_ble_eq_true rfl) ⟨_, zw_236, Or.inl rfl⟩ rfl rfl dX7_endDay_33 ?_
  obtain ⟨b20, hb21, h⟩ := h
  rw [show va_rf (gR S10 400 b17) = Value.ref b20 from by rw [hb21]; rfl]
  obtain ⟨hf27, h⟩ := h
  refine z_callVV (ci := 0) (st := []) (w_Jx4a65c_clear_da8c8 h) hf27.1 hf27.2 (Nat.le_of_ble_eq_true rfl) rfl zw_751 zw_940 zw_749 zw_750 zw_33 zy_Jx4a65c_clear_da8c8 rfl rfl ⟨Nat.le_of_ble_eq_true rfl, Nat.le_of_ble_eq_true rfl⟩ ⟨(Nat.le_of_ble_eq_true rfl), (Nat.le_of_ble_eq_true rfl)⟩ (Nat.le_of_ble_eq_true rfl) dX7_endDay_36 (fun _ _ hx => hx.elim) (fun S22 h => ?_)
  refine z_widen (k' := 0) (n' := 0) (Nat.le_refl _) (Nat.le_refl _) ?_
  refine z_aload_n 0 dX7_endDay_39 rfl rfl ?_
  refine z_dup dX7_endDay_40 rfl ?_
  obtain ⟨hf24, h⟩ := h
  refine z_getI (c := 8) (j := 2) (f := 802) hf24.1 hf24.2 (Nat.le_of_ble_eq_true rfl) rfl zU_X7 (Nat.le_of_ble_eq_true rfl) (Nat.le_of_ble_eq_true rfl) ⟨_, zw_245, Or.inl rfl⟩ rfl rfl dX7_endDay_41 ?_
  refine z_iconst (v := 1) dX7_endDay_44 rfl ?_
  refine z_iadd dX7_endDay_45 ?_
  have h := h _ rfl
  refine z_putV (c := 8) (j := 2) (ty0 := tyX7) (S' := sI S22 802 a0 ((gI S22 802 a0) + 1)) hf24.1 hf24.2 (Nat.le_of_ble_eq_true rfl) rfl zU_X7 tyX7_ok nmX7 (Nat.le_of_ble_eq_true rfl) (Nat.le_of_ble_eq_true rfl) ⟨_, zw_245, Or.inl rfl⟩ (.inl rfl) rfl rfl rfl (zUpI (v := ((gI S22 802 a0) + 1)) hf24.2 (Nat.le_of_ble_eq_true rfl) (Nat.le_of_ble_eq_true rfl) rfl rfl) dX7_endDay_46 ?_
  obtain ⟨S25, hS26⟩ : ∃ z, z = sI S22 802 a0 ((gI S22 802 a0) + 1) := ⟨_, rfl⟩
  rw [← hS26] at h ⊢
  have hf24 : a0 ∈ gL S25 ∧ gK S25 a0 = 8 := by rw [hS26]; exact hf24
  exact z_return ⟨rfl, rfl, h⟩ rfl (Nat.le_of_ble_eq_true rfl) (Nat.le_of_ble_eq_true rfl) dX7_endDay_49
set_option maxRecDepth 20000 in
set_option maxHeartbeats 4000000 in
theorem w_X7_takeFromToday {E : zE} {a0 : Nat} {a1 : Nat} {S : zS} {Q : zS → Prop} {X : String → zS → Prop} (h : p_X7_takeFromToday E a0 a1 S Q X) : zM E yX7_takeFromToday cX7_takeFromToday 2 none ({ frames := 4, cells := 0, slots := 0, locals := 108 } : Room) [.ref a0, .ref a1] S (qV Q) X := by
  unfold p_X7_takeFromToday at h
  refine zM_of RX7 false (by decide) rfl (fun h => by cases h) (Nat.le_of_ble_eq_true rfl) ?_
  refine z_aload_n 0 dX7_takeFromToday_0 rfl rfl ?_
  obtain ⟨hf1, h⟩ := h
  refine z_getQ (c := 8) (j := 1) (f := 801) hf1.1 hf1.2 (Nat.le_of_ble_eq_true rfl) rfl zU_X7 (Nat.le_of_ble_eq_true rfl) (Nat.le_of_ble_eq_true rfl) ⟨_, zw_243, Or.inl rfl⟩ rfl rfl dX7_takeFromToday_1 ?_
  refine z_aload_n 0 dX7_takeFromToday_4 rfl rfl ?_
  refine z_getI (c := 8) (j := 2) (f := 802) hf1.1 hf1.2 (Nat.le_of_ble_eq_true rfl) rfl zU_X7 (Nat.le_of_ble_eq_true rfl) (Nat.le_of_ble_eq_true rfl) ⟨_, zw_245, Or.inl rfl⟩ rfl rfl dX7_takeFromToday_5 ?_
  obtain ⟨b2, hb3, h⟩ := h
  rw [show va_rf (gR S 801 a0) = Value.ref b2 from by rw [hb3]; rfl]
  obtain ⟨hf4, h⟩ := h
  obtain ⟨j5, hj6, h⟩ := h
  refine z_aald (j := j5) hf4.1 rfl hf4.2.1 hf4.2.2 hj6.1 hj6.2.1 hj6.2.2 dX7_takeFromToday_8 ?_
  refine z_aload_n 1 dX7_takeFromToday_9 rfl rfl ?_
  obtain ⟨b7, hb8, h⟩ := h
  rw [show va_rf (gQ S b2 j5) = Value.ref b7 from by rw [hb8]; rfl]
  obtain ⟨hf11, h⟩ := h
  refine z_callVV (ci := 4) (st := []) (w_X3_takeAway h) hf11.1 hf11.2 (Nat.le_of_ble_eq_true rfl) rfl zw_1057 zw_1054 zw_1055 zw_1056 zw_40 zy_X3_takeAway rfl rfl ⟨Nat.le_of_ble_eq_true rfl, Nat.le_of_ble_eq_true rfl⟩ ⟨(Nat.le_of_ble_eq_true rfl), (Nat.le_of_ble_eq_true rfl)⟩ (Nat.le_of_ble_eq_true rfl) dX7_takeFromToday_10 (fun _ _ hx => hx.elim) (fun S9 h => ?_)
  refine z_widen (k' := 0) (n' := 0) (Nat.le_refl _) (Nat.le_refl _) ?_
  exact z_return ⟨rfl, rfl, h⟩ rfl (Nat.le_of_ble_eq_true rfl) (Nat.le_of_ble_eq_true rfl) dX7_takeFromToday_13
set_option maxRecDepth 20000 in
set_option maxHeartbeats 4000000 in
theorem w_X7_dropUnfit_L7 {E : zE} {K32 : Nat → Int32 → zS → Prop} {Q : Int32 → zS → Prop} {X : String → zS → Prop} (hK32 : ∀ (a0 : Nat) (l2 : Int32) (S : zS), K32 a0 l2 S → zJ E (RX7, cX7_dropUnfit, 4, (some .int), false, [], zTr) ({ frames := 4, cells := 0, slots := 0, locals := 109 } : Room) (zq (qI Q)) (zx X) 32 [(0, .ref a0), (2, .int l2)] [] [] S 0 0) : ∀ (m7 : Nat) (a0 : Nat) (l1 : Int32) (l2 : Int32) (l3 : Int32) (S : zS), p_X7_dropUnfit_L7 E K32 Q X m7 a0 l1 l2 l3 S → zJ E (RX7, cX7_dropUnfit, 4, (some .int), false, [], zTr) ({ frames := 4, cells := 0, slots := 0, locals := 109 } : Room) (zq (qI Q)) (zx X) 7 [(0, .ref a0), (1, .int l1), (2, .int l2), (3, .int l3)] [] [] S 0 0 := by
  intro m7
  induction m7 with
  | zero => intro a0 l1 l2 l3 S h; exact (show False from h).elim
  | succ m7 ih =>
    intro a0 l1 l2 l3 S h
    unfold p_X7_dropUnfit_L7 at h
    refine z_iload_n 3 dX7_dropUnfit_7 rfl rfl ?_
    refine z_bipush (v := 60) dX7_dropUnfit_8 rfl ?_
    refine z_icmp_gt 32 dX7_dropUnfit_10 (by decide) (fun c13 => ?_) (fun c13 => ?_)
    · have h := h.1 c13
      refine z_sub [0, 2] rfl ?_
      exact hK32 a0 l2 S h
    · have h := h.2 c13
      refine z_iload_n 2 dX7_dropUnfit_13 rfl rfl ?_
      refine z_aload_n 0 dX7_dropUnfit_14 rfl rfl ?_
      obtain ⟨hf2, h⟩ := h
      refine z_getQ (c := 8) (j := 1) (f := 801) hf2.1 hf2.2 (Nat.le_of_ble_eq_true rfl) rfl zU_X7 (Nat.le_of_ble_eq_true rfl) (Nat.le_of_ble_eq_true rfl) ⟨_, zw_243, Or.inl rfl⟩ rfl rfl dX7_dropUnfit_15 ?_
      refine z_iload_n 3 dX7_dropUnfit_18 rfl rfl ?_
      obtain ⟨b3, hb4, h⟩ := h
      rw [show va_rf (gR S 801 a0) = Value.ref b3 from by rw [hb4]; rfl]
      obtain ⟨hf5, h⟩ := h
      obtain ⟨j6, hj7, h⟩ := h
      refine z_aald (j := j6) hf5.1 rfl hf5.2.1 hf5.2.2 hj7.1 hj7.2.1 hj7.2.2 dX7_dropUnfit_19 ?_
      refine z_iload_n 1 dX7_dropUnfit_20 rfl rfl ?_
      obtain ⟨b8, hb9, h⟩ := h
      rw [show va_rf (gQ S b3 j6) = Value.ref b8 from by rw [hb9]; rfl]
      obtain ⟨hf12, h⟩ := h
      refine z_callVI (ci := 4) (st := [.int l2]) (w_X3_dropUnfit h) hf12.1 hf12.2 (Nat.le_of_ble_eq_true rfl) rfl zw_682 zw_679 zw_680 zw_681 zw_40 zy_X3_dropUnfit rfl rfl ⟨Nat.le_of_ble_eq_true rfl, Nat.le_of_ble_eq_true rfl⟩ ⟨(Nat.le_of_ble_eq_true rfl), (Nat.le_of_ble_eq_true rfl)⟩ (Nat.le_of_ble_eq_true rfl) dX7_dropUnfit_21 (fun _ _ hx => hx.elim) (fun r11 S10 h => ?_)
      refine z_widen (k' := 0) (n' := 0) (Nat.le_refl _) (Nat.le_refl _) ?_
      refine z_iadd dX7_dropUnfit_24 ?_
      refine z_istore_n (lv' := [(2, .int (l2 + r11)), (0, .ref a0), (1, .int l1), (3, .int l3)]) dX7_dropUnfit_25 rfl (Nat.le_of_ble_eq_true rfl) rfl ?_
      refine z_iinc (v := (l3 + 1)) (lv' := [(3, .int (l3 + 1)), (2, .int (l2 + r11)), (0, .ref a0), (1, .int l1)]) 3 dX7_dropUnfit_26 rfl rfl (Nat.le_of_ble_eq_true rfl) rfl ?_
      refine z_goto 7 dX7_dropUnfit_29 (by decide) ?_
      refine z_sub [2, 3, 1, 0] rfl ?_
      exact ih a0 l1 (l2 + r11) (l3 + 1) S10 h
set_option maxRecDepth 20000 in
set_option maxHeartbeats 4000000 in
theorem w_X7_dropUnfit {E : zE} {a0 : Nat} {l1 : Int32} {S : zS} {Q : Int32 → zS → Prop} {X : String → zS → Prop} (h : p_X7_dropUnfit E a0 l1 S Q X) : zM E yX7_dropUnfit cX7_dropUnfit 4 (some .int) ({ frames := 4, cells := 0, slots := 0, locals := 109 } : Room) [.ref a0, .int l1] S (qI Q) X := by
  unfold p_X7_dropUnfit at h
  refine zM_of RX7 false (by decide) rfl (fun h => by cases h) (Nat.le_of_ble_eq_true rfl) ?_
  refine z_iconst (v := 0) dX7_dropUnfit_0 rfl ?_
  refine z_istore_n (lv' := [(2, .int 0), (0, .ref a0), (1, .int l1)]) dX7_dropUnfit_1 rfl (Nat.le_of_ble_eq_true rfl) rfl ?_
  refine z_aload_n 1 dX7_dropUnfit_2 rfl rfl ?_
  obtain ⟨hf1, h⟩ := h
  refine z_getI (c := 8) (j := 2) (f := 802) hf1.1 hf1.2 (Nat.le_of_ble_eq_true rfl) rfl zU_X7 (Nat.le_of_ble_eq_true rfl) (Nat.le_of_ble_eq_true rfl) ⟨_, zw_245, Or.inl rfl⟩ rfl rfl dX7_dropUnfit_3 ?_
  refine z_istore_n (lv' := [(3, .int (gI S 802 a0)), (2, .int 0), (0, .ref a0), (1, .int l1)]) dX7_dropUnfit_6 rfl (Nat.le_of_ble_eq_true rfl) rfl ?_
  obtain ⟨m7, h⟩ := h
  refine z_sub [2, 3, 1, 0] rfl ?_
  refine w_X7_dropUnfit_L7 (fun a0 l2 S h => ?_) m7 a0 l1 0 (gI S 802 a0) S h
  refine z_aload_n 0 dX7_dropUnfit_32 rfl rfl ?_
  refine z_dup dX7_dropUnfit_33 rfl ?_
  obtain ⟨hf14, h⟩ := h
  refine z_getI (c := 8) (j := 3) (f := 803) hf14.1 hf14.2 (Nat.le_of_ble_eq_true rfl) rfl zU_X7 (Nat.le_of_ble_eq_true rfl) (Nat.le_of_ble_eq_true rfl) ⟨_, zw_247, Or.inl rfl⟩ rfl rfl dX7_dropUnfit_34 ?_
  refine z_iload_n 1 dX7_dropUnfit_37 rfl rfl ?_
  refine z_iadd dX7_dropUnfit_38 ?_
  have h := h _ rfl
  refine z_putV (c := 8) (j := 3) (ty0 := tyX7) (S' := sI S 803 a0 ((gI S 803 a0) + l2)) hf14.1 hf14.2 (Nat.le_of_ble_eq_true rfl) rfl zU_X7 tyX7_ok nmX7 (Nat.le_of_ble_eq_true rfl) (Nat.le_of_ble_eq_true rfl) ⟨_, zw_247, Or.inl rfl⟩ (.inl rfl) rfl rfl rfl (zUpI (v := ((gI S 803 a0) + l2)) hf14.2 (Nat.le_of_ble_eq_true rfl) (Nat.le_of_ble_eq_true rfl) rfl rfl) dX7_dropUnfit_39 ?_
  obtain ⟨S15, hS16⟩ : ∃ z, z = sI S 803 a0 ((gI S 803 a0) + l2) := ⟨_, rfl⟩
  rw [← hS16] at h ⊢
  have hf14 : a0 ∈ gL S15 ∧ gK S15 a0 = 8 := by rw [hS16]; exact hf14
  refine z_iload_n 1 dX7_dropUnfit_42 rfl rfl ?_
  exact z_ireturn ⟨rfl, _, rfl, h⟩ rfl (Nat.le_of_ble_eq_true rfl) (Nat.le_of_ble_eq_true rfl) dX7_dropUnfit_43
set_option maxRecDepth 20000 in
set_option maxHeartbeats 4000000 in
theorem w_X9_leadCount {E : zE} {a0 : Nat} {S : zS} {Q : Int32 → zS → Prop} {X : String → zS → Prop} (h : p_X9_leadCount E a0 S Q X) : zM E yX9_leadCount cX9_leadCount 1 (some .int) ({ frames := 1, cells := 0, slots := 0, locals := 20 } : Room) [.ref a0] S (qI Q) X := by
  unfold p_X9_leadCount at h
  refine zM_of RX9 false (by decide) rfl (fun h => by cases h) (Nat.le_of_ble_eq_true rfl) ?_
  refine z_aload_n 0 dX9_leadCount_0 rfl rfl ?_
  obtain ⟨hf1, h⟩ := h
  refine z_getQ (c := 9) (j := 6) (f := 906) hf1.1 hf1.2 (Nat.le_of_ble_eq_true rfl) rfl zU_X9 (Nat.le_of_ble_eq_true rfl) (Nat.le_of_ble_eq_true rfl) ⟨_, zw_133, Or.inl rfl⟩ rfl rfl dX9_leadCount_1 ?_
  obtain ⟨b2, hb3, h⟩ := h
  rw [show va_rf (gR S 906 a0) = Value.ref b2 from by rw [hb3]; rfl]
  obtain ⟨hf6, h⟩ := h
  refine z_callVI (ci := 0) (st := []) (w_Jx4a65c_size_8abf5 h) hf6.1 hf6.2 (Nat.le_of_ble_eq_true rfl) rfl zw_423 zw_648 zw_421 zw_422 zw_33 zy_Jx4a65c_size_8abf5 rfl rfl ⟨Nat.le_of_ble_eq_true rfl, Nat.le_of_ble_eq_true rfl⟩ ⟨(Nat.le_of_ble_eq_true rfl), (Nat.le_of_ble_eq_true rfl)⟩ (Nat.le_of_ble_eq_true rfl) dX9_leadCount_4 (fun _ _ hx => hx.elim) (fun r5 S4 h => ?_)
  refine z_widen (k' := 0) (n' := 0) (Nat.le_refl _) (Nat.le_refl _) ?_
  exact z_ireturn ⟨rfl, _, rfl, h⟩ rfl (Nat.le_of_ble_eq_true rfl) (Nat.le_of_ble_eq_true rfl) dX9_leadCount_7
set_option maxRecDepth 20000 in
set_option maxHeartbeats 4000000 in
theorem w_X9_takesLead {E : zE} {a0 : Nat} {a1 : Nat} {S : zS} {Q : Int32 → zS → Prop} {X : String → zS → Prop} (h : p_X9_takesLead E a0 a1 S Q X) : zM E yX9_takesLead cX9_takesLead 2 (some .boolean) ({ frames := 1, cells := 0, slots := 0, locals := 20 } : Room) [.ref a0, .ref a1] S (qI Q) X := by
  unfold p_X9_takesLead at h
  refine zM_of RX9 false (by decide) rfl (fun h => by cases h) (Nat.le_of_ble_eq_true rfl) ?_
  refine z_aload_n 0 dX9_takesLead_0 rfl rfl ?_
  obtain ⟨hf1, h⟩ := h
  refine z_getQ (c := 9) (j := 6) (f := 906) hf1.1 hf1.2 (Nat.le_of_ble_eq_true rfl) rfl zU_X9 (Nat.le_of_ble_eq_true rfl) (Nat.le_of_ble_eq_true rfl) ⟨_, zw_133, Or.inl rfl⟩ rfl rfl dX9_takesLead_1 ?_
  obtain ⟨b2, hb3, h⟩ := h
  rw [show va_rf (gR S 906 a0) = Value.ref b2 from by rw [hb3]; rfl]
  obtain ⟨hf21, h⟩ := h
  refine z_callVI (ci := 0) (st := []) (w_Jx4a65c_isEmpty_aae02 h) hf21.1 hf21.2 (Nat.le_of_ble_eq_true rfl) rfl zw_717 zw_714 zw_715 zw_716 zw_33 zy_Jx4a65c_isEmpty_aae02 rfl rfl ⟨Nat.le_of_ble_eq_true rfl, Nat.le_of_ble_eq_true rfl⟩ ⟨(Nat.le_of_ble_eq_true rfl), (Nat.le_of_ble_eq_true rfl)⟩ (Nat.le_of_ble_eq_true rfl) dX9_takesLead_4 (fun _ _ hx => hx.elim) (fun r5 S4 h => ?_)
  refine z_widen (k' := 0) (n' := 0) (Nat.le_refl _) (Nat.le_refl _) ?_
  refine z_if_eq 12 dX9_takesLead_7 (by decide) (fun c20 => ?_) (fun c20 => ?_)
  · have h := h.1 c20
    refine z_aload_n 0 dX9_takesLead_12 rfl rfl ?_
    obtain ⟨hf6, h⟩ := h
    refine z_getQ (c := 9) (j := 6) (f := 906) hf6.1 hf6.2 (Nat.le_of_ble_eq_true rfl) rfl zU_X9 (Nat.le_of_ble_eq_true rfl) (Nat.le_of_ble_eq_true rfl) ⟨_, zw_133, Or.inl rfl⟩ rfl rfl dX9_takesLead_13 ?_
    obtain ⟨b7, hb8, h⟩ := h
    rw [show va_rf (gR S4 906 a0) = Value.ref b7 from by rw [hb8]; rfl]
    obtain ⟨hf18, h⟩ := h
    refine z_callVI (ci := 0) (st := []) (w_Jx4a65c_size_8abf5 h) hf18.1 hf18.2 (Nat.le_of_ble_eq_true rfl) rfl zw_423 zw_648 zw_421 zw_422 zw_33 zy_Jx4a65c_size_8abf5 rfl rfl ⟨Nat.le_of_ble_eq_true rfl, Nat.le_of_ble_eq_true rfl⟩ ⟨(Nat.le_of_ble_eq_true rfl), (Nat.le_of_ble_eq_true rfl)⟩ (Nat.le_of_ble_eq_true rfl) dX9_takesLead_16 (fun _ _ hx => hx.elim) (fun r10 S9 h => ?_)
    refine z_widen (k' := 0) (n' := 0) (Nat.le_refl _) (Nat.le_refl _) ?_
    refine z_bipush (v := 20) dX9_takesLead_19 rfl ?_
    refine z_icmp_ge 39 dX9_takesLead_21 (by decide) (fun c17 => ?_) (fun c17 => ?_)
    · have h := h.1 c17
      refine z_iconst (v := 0) dX9_takesLead_39 rfl ?_
      obtain ⟨hz11, h⟩ := h
      exact z_zreturn ⟨rfl, _, rfl, h⟩ rfl (zbn hz11) (Nat.le_of_ble_eq_true rfl) (Nat.le_of_ble_eq_true rfl) dX9_takesLead_40
    · have h := h.2 c17
      refine z_aload_n 1 dX9_takesLead_24 rfl rfl ?_
      obtain ⟨hf12, h⟩ := h
      refine z_getI (c := 5) (j := 1) (f := 501) hf12.1 hf12.2 (Nat.le_of_ble_eq_true rfl) rfl zU_X4 (Nat.le_of_ble_eq_true rfl) (Nat.le_of_ble_eq_true rfl) ⟨_, zw_480, Or.inl rfl⟩ rfl rfl dX9_takesLead_25 ?_
      refine z_aload_n 0 dX9_takesLead_28 rfl rfl ?_
      obtain ⟨hf13, h⟩ := h
      refine z_getI (c := 9) (j := 1) (f := 901) hf13.1 hf13.2 (Nat.le_of_ble_eq_true rfl) rfl zU_X9 (Nat.le_of_ble_eq_true rfl) (Nat.le_of_ble_eq_true rfl) ⟨_, zw_118, Or.inl rfl⟩ rfl rfl dX9_takesLead_29 ?_
      refine z_icmp_ne 39 dX9_takesLead_32 (by decide) (fun c16 => ?_) (fun c16 => ?_)
      · have h := h.1 c16
        refine z_iconst (v := 0) dX9_takesLead_39 rfl ?_
        obtain ⟨hz14, h⟩ := h
        exact z_zreturn ⟨rfl, _, rfl, h⟩ rfl (zbn hz14) (Nat.le_of_ble_eq_true rfl) (Nat.le_of_ble_eq_true rfl) dX9_takesLead_40
      · have h := h.2 c16
        refine z_iconst (v := 1) dX9_takesLead_35 rfl ?_
        refine z_goto 40 dX9_takesLead_36 (by decide) ?_
        obtain ⟨hz15, h⟩ := h
        exact z_zreturn ⟨rfl, _, rfl, h⟩ rfl (zbn hz15) (Nat.le_of_ble_eq_true rfl) (Nat.le_of_ble_eq_true rfl) dX9_takesLead_40
  · have h := h.2 c20
    refine z_iconst (v := 1) dX9_takesLead_10 rfl ?_
    obtain ⟨hz19, h⟩ := h
    exact z_zreturn ⟨rfl, _, rfl, h⟩ rfl (zbn hz19) (Nat.le_of_ble_eq_true rfl) (Nat.le_of_ble_eq_true rfl) dX9_takesLead_11
set_option maxRecDepth 20000 in
set_option maxHeartbeats 4000000 in
theorem w_X9_rowAnew_L42 {E : zE} {K89 : Nat → Int32 → Int32 → Int32 → Int32 → zS → Prop} {Q : Int32 → zS → Prop} {X : String → zS → Prop} (hK89 : ∀ (a0 : Nat) (l1 : Int32) (l2 : Int32) (l3 : Int32) (l4 : Int32) (S : zS), K89 a0 l1 l2 l3 l4 S → zJ E (RX9, cX9_rowAnew, 7, (some .int), false, [], zTr) ({ frames := 3, cells := 0, slots := 0, locals := 67 } : Room) (zq (qI Q)) (zx X) 89 [(0, .ref a0), (1, .int l1), (2, .int l2), (3, .int l3), (4, .int l4)] [] [] S 0 0) : ∀ (m42 : Nat) (a0 : Nat) (l1 : Int32) (l2 : Int32) (l3 : Int32) (l4 : Int32) (a5 : Nat) (l6 : Int32) (S : zS), p_X9_rowAnew_L42 E K89 Q X m42 a0 l1 l2 l3 l4 a5 l6 S → zJ E (RX9, cX9_rowAnew, 7, (some .int), false, [], zTr) ({ frames := 3, cells := 0, slots := 0, locals := 67 } : Room) (zq (qI Q)) (zx X) 42 [(0, .ref a0), (1, .int l1), (2, .int l2), (3, .int l3), (4, .int l4), (5, .ref a5), (6, .int l6)] [] [] S 0 0 := by
  intro m42
  induction m42 with
  | zero => intro a0 l1 l2 l3 l4 a5 l6 S h; exact (show False from h).elim
  | succ m42 ih =>
    intro a0 l1 l2 l3 l4 a5 l6 S h
    unfold p_X9_rowAnew_L42 at h
    refine z_iload 6 dX9_rowAnew_42 rfl ?_
    refine z_aload 5 dX9_rowAnew_44 rfl ?_
    obtain ⟨hf17, h⟩ := h
    refine z_getI (c := 5) (j := 2) (f := 502) hf17.1 hf17.2 (Nat.le_of_ble_eq_true rfl) rfl zU_X4 (Nat.le_of_ble_eq_true rfl) (Nat.le_of_ble_eq_true rfl) ⟨_, zw_484, Or.inl rfl⟩ rfl rfl dX9_rowAnew_46 ?_
    refine z_icmp_ge 89 dX9_rowAnew_49 (by decide) (fun c30 => ?_) (fun c30 => ?_)
    · have h := h.1 c30
      refine z_sub [0, 1, 2, 3, 4] rfl ?_
      exact hK89 a0 l1 l2 l3 l4 S h
    · have h := h.2 c30
      refine z_iload_n 3 dX9_rowAnew_52 rfl rfl ?_
      refine z_iload_n 1 dX9_rowAnew_53 rfl rfl ?_
      refine z_icmp_gt 89 dX9_rowAnew_54 (by decide) (fun c29 => ?_) (fun c29 => ?_)
      · have h := h.1 c29
        refine z_sub [0, 1, 2, 3, 4] rfl ?_
        exact hK89 a0 l1 l2 l3 l4 S h
      · have h := h.2 c29
        refine z_iload_n 2 dX9_rowAnew_57 rfl rfl ?_
        refine z_aload 5 dX9_rowAnew_58 rfl ?_
        refine z_aload_n 0 dX9_rowAnew_60 rfl rfl ?_
        obtain ⟨hf18, h⟩ := h
        refine z_getQ (c := 9) (j := 7) (f := 907) hf18.1 hf18.2 (Nat.le_of_ble_eq_true rfl) rfl zU_X9 (Nat.le_of_ble_eq_true rfl) (Nat.le_of_ble_eq_true rfl) ⟨_, zw_135, Or.inl rfl⟩ rfl rfl dX9_rowAnew_61 ?_
        refine z_iload 4 dX9_rowAnew_64 rfl ?_
        obtain ⟨b19, hb20, h⟩ := h
        rw [show va_rf (gR S 907 a0) = Value.ref b19 from by rw [hb20]; rfl]
        obtain ⟨hf21, h⟩ := h
        obtain ⟨j22, hj23, h⟩ := h
        refine z_iald (j := j22) hf21.1 hf21.2 hj23.1 hj23.2.1 hj23.2.2 dX9_rowAnew_66 ?_
        refine z_iload 6 dX9_rowAnew_67 rfl ?_
        refine z_callVI (ci := 5) (st := [.int l2]) (w_X4_changeOf h) hf17.1 hf17.2 (Nat.le_of_ble_eq_true rfl) rfl zw_635 zw_660 zw_633 zw_634 zw_52 zy_X4_changeOf rfl rfl ⟨Nat.le_of_ble_eq_true rfl, Nat.le_of_ble_eq_true rfl⟩ ⟨(Nat.le_of_ble_eq_true rfl), (Nat.le_of_ble_eq_true rfl)⟩ (Nat.le_of_ble_eq_true rfl) dX9_rowAnew_69 (fun _ _ hx => hx.elim) (fun r25 S24 h => ?_)
        refine z_widen (k' := 0) (n' := 0) (Nat.le_refl _) (Nat.le_refl _) ?_
        refine z_aload_n 0 dX9_rowAnew_72 rfl rfl ?_
        obtain ⟨hf26, h⟩ := h
        refine z_getI (c := 9) (j := 1) (f := 901) hf26.1 hf26.2 (Nat.le_of_ble_eq_true rfl) rfl zU_X9 (Nat.le_of_ble_eq_true rfl) (Nat.le_of_ble_eq_true rfl) ⟨_, zw_118, Or.inl rfl⟩ rfl rfl dX9_rowAnew_73 ?_
        refine z_callSI (st := []) (w_X8_afterChange h) zw_450 zw_661 zw_449 zw_48 zy_X8_afterChange rfl rfl ⟨Nat.le_of_ble_eq_true rfl, Nat.le_of_ble_eq_true rfl⟩ ⟨(Nat.le_of_ble_eq_true rfl), (Nat.le_of_ble_eq_true rfl)⟩ (Nat.le_of_ble_eq_true rfl) dX9_rowAnew_76 (fun _ _ hx => hx.elim) (fun r28 S27 h => ?_)
        refine z_widen (k' := 0) (n' := 0) (Nat.le_refl _) (Nat.le_refl _) ?_
        refine z_istore_n (lv' := [(2, .int r28), (0, .ref a0), (1, .int l1), (3, .int l3), (4, .int l4), (5, .ref a5), (6, .int l6)]) dX9_rowAnew_79 rfl (Nat.le_of_ble_eq_true rfl) rfl ?_
        refine z_iinc (v := (l3 + 1)) (lv' := [(3, .int (l3 + 1)), (2, .int r28), (0, .ref a0), (1, .int l1), (4, .int l4), (5, .ref a5), (6, .int l6)]) 3 dX9_rowAnew_80 rfl rfl (Nat.le_of_ble_eq_true rfl) rfl ?_
        refine z_iinc (v := (l6 + 1)) (lv' := [(6, .int (l6 + 1)), (3, .int (l3 + 1)), (2, .int r28), (0, .ref a0), (1, .int l1), (4, .int l4), (5, .ref a5)]) 6 dX9_rowAnew_83 rfl rfl (Nat.le_of_ble_eq_true rfl) rfl ?_
        refine z_goto 42 dX9_rowAnew_86 (by decide) ?_
        refine z_sub [3, 4, 2, 1, 5, 6, 0] rfl ?_
        exact ih a0 l1 r28 (l3 + 1) l4 a5 (l6 + 1) S27 h
set_option maxRecDepth 20000 in
set_option maxHeartbeats 4000000 in
theorem w_X9_rowAnew_L13 {E : zE} {K95 : Int32 → zS → Prop} {Q : Int32 → zS → Prop} {X : String → zS → Prop} (hK95 : ∀ (l2 : Int32) (S : zS), K95 l2 S → zJ E (RX9, cX9_rowAnew, 7, (some .int), false, [], zTr) ({ frames := 3, cells := 0, slots := 0, locals := 67 } : Room) (zq (qI Q)) (zx X) 95 [(2, .int l2)] [] [] S 0 0) : ∀ (m13 : Nat) (a0 : Nat) (l1 : Int32) (l2 : Int32) (l3 : Int32) (l4 : Int32) (S : zS), p_X9_rowAnew_L13 E K95 Q X m13 a0 l1 l2 l3 l4 S → zJ E (RX9, cX9_rowAnew, 7, (some .int), false, [], zTr) ({ frames := 3, cells := 0, slots := 0, locals := 67 } : Room) (zq (qI Q)) (zx X) 13 [(0, .ref a0), (1, .int l1), (2, .int l2), (3, .int l3), (4, .int l4)] [] [] S 0 0 := by
  intro m13
  induction m13 with
  | zero => intro a0 l1 l2 l3 l4 S h; exact (show False from h).elim
  | succ m13 ih =>
    intro a0 l1 l2 l3 l4 S h
    unfold p_X9_rowAnew_L13 at h
    refine z_iload 4 dX9_rowAnew_13 rfl ?_
    refine z_aload_n 0 dX9_rowAnew_15 rfl rfl ?_
    obtain ⟨hf4, h⟩ := h
    refine z_getQ (c := 9) (j := 6) (f := 906) hf4.1 hf4.2 (Nat.le_of_ble_eq_true rfl) rfl zU_X9 (Nat.le_of_ble_eq_true rfl) (Nat.le_of_ble_eq_true rfl) ⟨_, zw_133, Or.inl rfl⟩ rfl rfl dX9_rowAnew_16 ?_
    obtain ⟨b5, hb6, h⟩ := h
    rw [show va_rf (gR S 906 a0) = Value.ref b5 from by rw [hb6]; rfl]
    obtain ⟨hf33, h⟩ := h
    refine z_callVI (ci := 0) (st := [.int l4]) (w_Jx4a65c_size_8abf5 h) hf33.1 hf33.2 (Nat.le_of_ble_eq_true rfl) rfl zw_423 zw_648 zw_421 zw_422 zw_33 zy_Jx4a65c_size_8abf5 rfl rfl ⟨Nat.le_of_ble_eq_true rfl, Nat.le_of_ble_eq_true rfl⟩ ⟨(Nat.le_of_ble_eq_true rfl), (Nat.le_of_ble_eq_true rfl)⟩ (Nat.le_of_ble_eq_true rfl) dX9_rowAnew_19 (fun _ _ hx => hx.elim) (fun r8 S7 h => ?_)
    refine z_widen (k' := 0) (n' := 0) (Nat.le_refl _) (Nat.le_refl _) ?_
    refine z_icmp_ge 95 dX9_rowAnew_22 (by decide) (fun c32 => ?_) (fun c32 => ?_)
    · have h := h.1 c32
      refine z_sub [2] rfl ?_
      exact hK95 l2 S7 h
    · have h := h.2 c32
      refine z_aload_n 0 dX9_rowAnew_25 rfl rfl ?_
      obtain ⟨hf9, h⟩ := h
      refine z_getQ (c := 9) (j := 6) (f := 906) hf9.1 hf9.2 (Nat.le_of_ble_eq_true rfl) rfl zU_X9 (Nat.le_of_ble_eq_true rfl) (Nat.le_of_ble_eq_true rfl) ⟨_, zw_133, Or.inl rfl⟩ rfl rfl dX9_rowAnew_26 ?_
      refine z_iload 4 dX9_rowAnew_29 rfl ?_
      obtain ⟨b10, hb11, h⟩ := h
      rw [show va_rf (gR S7 906 a0) = Value.ref b10 from by rw [hb11]; rfl]
      obtain ⟨hf31, h⟩ := h
      refine z_callVR (ci := 0) (st := []) (w_Jx4a65c_get_915e3 h) hf31.1 hf31.2 (Nat.le_of_ble_eq_true rfl) rfl zw_607 zw_649 zw_605 zw_606 zw_33 zy_Jx4a65c_get_915e3 rfl rfl ⟨Nat.le_of_ble_eq_true rfl, Nat.le_of_ble_eq_true rfl⟩ ⟨(Nat.le_of_ble_eq_true rfl), (Nat.le_of_ble_eq_true rfl)⟩ (Nat.le_of_ble_eq_true rfl) dX9_rowAnew_31 (fun _ _ hx => hx.elim) (fun r13 S12 h => ?_)
      refine z_widen (k' := 0) (n' := 0) (Nat.le_refl _) (Nat.le_refl _) ?_
      obtain ⟨b14, hb15, h⟩ := h
      rw [show va_rf r13 = Value.ref b14 from by rw [hb15]; rfl]
      obtain ⟨hf16, h⟩ := h
      refine z_cast (c := 5) hf16.1 hf16.2 (Nat.le_of_ble_eq_true rfl) rfl zw_650 dX9_rowAnew_34 ?_
      refine z_astore (lv' := [(5, .ref b14), (0, .ref a0), (1, .int l1), (2, .int l2), (3, .int l3), (4, .int l4)]) dX9_rowAnew_37 (Nat.le_of_ble_eq_true rfl) rfl ?_
      refine z_iconst (v := 0) dX9_rowAnew_39 rfl ?_
      refine z_istore (lv' := [(6, .int 0), (5, .ref b14), (0, .ref a0), (1, .int l1), (2, .int l2), (3, .int l3), (4, .int l4)]) dX9_rowAnew_40 (Nat.le_of_ble_eq_true rfl) rfl ?_
      obtain ⟨m42, h⟩ := h
      refine z_sub [2, 3, 4, 5, 6, 1, 0] rfl ?_
      refine w_X9_rowAnew_L42 (fun a0 l1 l2 l3 l4 S h => ?_) m42 a0 l1 l2 l3 l4 b14 0 S12 h
      refine z_iinc (v := (l4 + 1)) (lv' := [(4, .int (l4 + 1)), (0, .ref a0), (1, .int l1), (2, .int l2), (3, .int l3)]) 4 dX9_rowAnew_89 rfl rfl (Nat.le_of_ble_eq_true rfl) rfl ?_
      refine z_goto 13 dX9_rowAnew_92 (by decide) ?_
      refine z_sub [1, 2, 3, 4, 0] rfl ?_
      exact ih a0 l1 l2 l3 (l4 + 1) S h
set_option maxRecDepth 20000 in
set_option maxHeartbeats 4000000 in
theorem w_X9_rowAnew {E : zE} {a0 : Nat} {l1 : Int32} {S : zS} {Q : Int32 → zS → Prop} {X : String → zS → Prop} (h : p_X9_rowAnew E a0 l1 S Q X) : zM E yX9_rowAnew cX9_rowAnew 7 (some .int) ({ frames := 3, cells := 0, slots := 0, locals := 67 } : Room) [.ref a0, .int l1] S (qI Q) X := by
  unfold p_X9_rowAnew at h
  refine zM_of RX9 false (by decide) rfl (fun h => by cases h) (Nat.le_of_ble_eq_true rfl) ?_
  refine z_aload_n 0 dX9_rowAnew_0 rfl rfl ?_
  obtain ⟨hf1, h⟩ := h
  refine z_getI (c := 9) (j := 1) (f := 901) hf1.1 hf1.2 (Nat.le_of_ble_eq_true rfl) rfl zU_X9 (Nat.le_of_ble_eq_true rfl) (Nat.le_of_ble_eq_true rfl) ⟨_, zw_118, Or.inl rfl⟩ rfl rfl dX9_rowAnew_1 ?_
  refine z_callSI (st := []) (w_X8_rounds h) zw_447 zw_659 zw_446 zw_48 zy_X8_rounds rfl rfl ⟨Nat.le_of_ble_eq_true rfl, Nat.le_of_ble_eq_true rfl⟩ ⟨(Nat.le_of_ble_eq_true rfl), (Nat.le_of_ble_eq_true rfl)⟩ (Nat.le_of_ble_eq_true rfl) dX9_rowAnew_4 (fun _ _ hx => hx.elim) (fun r3 S2 h => ?_)
  refine z_widen (k' := 0) (n' := 0) (Nat.le_refl _) (Nat.le_refl _) ?_
  refine z_istore_n (lv' := [(2, .int r3), (0, .ref a0), (1, .int l1)]) dX9_rowAnew_7 rfl (Nat.le_of_ble_eq_true rfl) rfl ?_
  refine z_iconst (v := 0) dX9_rowAnew_8 rfl ?_
  refine z_istore_n (lv' := [(3, .int 0), (2, .int r3), (0, .ref a0), (1, .int l1)]) dX9_rowAnew_9 rfl (Nat.le_of_ble_eq_true rfl) rfl ?_
  refine z_iconst (v := 0) dX9_rowAnew_10 rfl ?_
  refine z_istore (lv' := [(4, .int 0), (3, .int 0), (2, .int r3), (0, .ref a0), (1, .int l1)]) dX9_rowAnew_11 (Nat.le_of_ble_eq_true rfl) rfl ?_
  obtain ⟨m13, h⟩ := h
  refine z_sub [3, 4, 2, 1, 0] rfl ?_
  refine w_X9_rowAnew_L13 (fun l2 S h => ?_) m13 a0 l1 r3 0 0 S2 h
  refine z_iload_n 0 dX9_rowAnew_95 rfl rfl ?_
  exact z_ireturn ⟨rfl, _, rfl, h⟩ rfl (Nat.le_of_ble_eq_true rfl) (Nat.le_of_ble_eq_true rfl) dX9_rowAnew_96
