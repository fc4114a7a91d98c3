set_option maxRecDepth 20000 in
set_option maxHeartbeats 4000000 in
theorem w_X10_init {E : zE} {a0 : Nat} {S : zS} {Q : zS → Prop} {X : String → zS → Prop} (h : p_X10_init E a0 S Q X) : zM E yX10_init cX10_init 1 none ({ frames := 6, cells := 171, slots := 3375, locals := 113 } : Room) [.ref a0] S (qV Q) X := by
  unfold p_X10_init at h
  refine zM_of RX10 true (by decide) rfl (fun h => rfl) (Nat.le_of_ble_eq_true rfl) ?_
  refine z_aload_n 0 dX10_init_0 rfl rfl ?_
  refine z_objInit zw_62 (Nat.le_of_ble_eq_true rfl) (Nat.le_of_ble_eq_true rfl) dX10_init_1 ?_
  refine z_aload_n 0 dX10_init_4 rfl rfl ?_
  refine z_new (c := 0) (ty0 := tyJx4a65c) (Nat.le_of_ble_eq_true rfl) rfl zU_Jx4a65c tyJx4a65c_ok z0_Jx4a65c zw_65 zw_66 zw_33 (Nat.le_of_ble_eq_true rfl) (Nat.le_of_ble_eq_true rfl) dX10_init_5 (fun q1 hq2 => ?_)
  have h := h q1 hq2 _ rfl
  obtain ⟨S3, hS4⟩ : ∃ z, z = nO S q1 0 := ⟨_, rfl⟩
  rw [← hS4] at h ⊢
  refine z_widen (k' := 1) (n' := 3) (Nat.le_refl _) (Nat.le_refl _) ?_
  refine z_dup dX10_init_8 rfl ?_
  refine z_callIV (st := [.ref q1, .ref a0]) (w_Jx4a65c_init_da8c8 h) zw_69 zw_67 zw_68 zw_33 rfl zy_Jx4a65c_init_da8c8 rfl rfl ⟨Nat.le_of_ble_eq_true rfl, Nat.le_of_ble_eq_true rfl⟩ ⟨(Nat.le_of_ble_eq_true rfl), (Nat.le_of_ble_eq_true rfl)⟩ (Nat.le_of_ble_eq_true rfl) dX10_init_9 (fun _ _ hx => hx.elim) (fun S5 h => ?_)
  refine z_widen (k' := 1) (n' := 3) (Nat.le_refl _) (Nat.le_refl _) ?_
  obtain ⟨hf7, h⟩ := h
  have h := h _ rfl
  refine z_putV (c := 10) (j := 0) (ty0 := tyX10) (S' := sR S5 1000 a0 (some q1)) hf7.1 hf7.2 (Nat.le_of_ble_eq_true rfl) rfl zU_X10 tyX10_ok nmX10 (Nat.le_of_ble_eq_true rfl) (Nat.le_of_ble_eq_true rfl) ⟨_, zw_264, Or.inl rfl⟩ (.inr ⟨rfl, rfl⟩) (zrefn (ty := tyX10 0) (o := (some q1)) (by decide)) (zreff (ty := tyX10 0) (o := (some q1)) (by decide)) rfl (zUpR (v := (some q1)) hf7.2 (Nat.le_of_ble_eq_true rfl) (Nat.le_of_ble_eq_true rfl) rfl rfl) dX10_init_12 ?_
  obtain ⟨S8, hS9⟩ : ∃ z, z = sR S5 1000 a0 (some q1) := ⟨_, rfl⟩
  rw [← hS9] at h ⊢
  have hf7 : a0 ∈ gL S8 ∧ gK S8 a0 = 10 := by rw [hS9]; exact hf7
  refine z_aload_n 0 dX10_init_15 rfl rfl ?_
  refine z_bipush (v := 12) dX10_init_16 rfl ?_
  refine z_newa (c := 12) (N := 12) (.inl ⟨rfl, rfl⟩) zw_101 rfl (Nat.le_of_ble_eq_true rfl) (Nat.le_of_ble_eq_true rfl) (Nat.le_of_ble_eq_true rfl) dX10_init_18 (fun q10 hq11 => ?_)
  have h := h q10 hq11 _ rfl
  obtain ⟨S12, hS13⟩ : ∃ z, z = nA S8 q10 12 12 := ⟨_, rfl⟩
  rw [← hS13] at h ⊢
  refine z_widen (k' := 2) (n' := 15) (Nat.le_refl _) (Nat.le_refl _) ?_
  obtain ⟨hf16, h⟩ := h
  have h := h _ rfl
  refine z_putV (c := 10) (j := 1) (ty0 := tyX10) (S' := sR S12 1001 a0 (some q10)) hf16.1 hf16.2 (Nat.le_of_ble_eq_true rfl) rfl zU_X10 tyX10_ok nmX10 (Nat.le_of_ble_eq_true rfl) (Nat.le_of_ble_eq_true rfl) ⟨_, zw_265, Or.inl rfl⟩ (.inr ⟨rfl, rfl⟩) (zrefn (ty := tyX10 1) (o := (some q10)) (by decide)) (zreff (ty := tyX10 1) (o := (some q10)) (by decide)) rfl (zUpR (v := (some q10)) hf16.2 (Nat.le_of_ble_eq_true rfl) (Nat.le_of_ble_eq_true rfl) rfl rfl) dX10_init_20 ?_
  obtain ⟨S17, hS18⟩ : ∃ z, z = sR S12 1001 a0 (some q10) := ⟨_, rfl⟩
  rw [← hS18] at h ⊢
  have hf16 : a0 ∈ gL S17 ∧ gK S17 a0 = 10 := by rw [hS18]; exact hf16
  refine z_aload_n 0 dX10_init_23 rfl rfl ?_
  refine z_new (c := 0) (ty0 := tyJx4a65c) (Nat.le_of_ble_eq_true rfl) rfl zU_Jx4a65c tyJx4a65c_ok z0_Jx4a65c zw_65 zw_66 zw_33 (Nat.le_of_ble_eq_true rfl) (Nat.le_of_ble_eq_true rfl) dX10_init_24 (fun q19 hq20 => ?_)
  have h := h q19 hq20 _ rfl
  obtain ⟨S21, hS22⟩ : ∃ z, z = nO S17 q19 0 := ⟨_, rfl⟩
  rw [← hS22] at h ⊢
  refine z_widen (k' := 3) (n' := 18) (Nat.le_refl _) (Nat.le_refl _) ?_
  refine z_dup dX10_init_27 rfl ?_
  refine z_callIV (st := [.ref q19, .ref a0]) (w_Jx4a65c_init_da8c8 h) zw_69 zw_67 zw_68 zw_33 rfl zy_Jx4a65c_init_da8c8 rfl rfl ⟨Nat.le_of_ble_eq_true rfl, Nat.le_of_ble_eq_true rfl⟩ ⟨(Nat.le_of_ble_eq_true rfl), (Nat.le_of_ble_eq_true rfl)⟩ (Nat.le_of_ble_eq_true rfl) dX10_init_28 (fun _ _ hx => hx.elim) (fun S23 h => ?_)
  refine z_widen (k' := 3) (n' := 18) (Nat.le_refl _) (Nat.le_refl _) ?_
  obtain ⟨hf25, h⟩ := h
  have h := h _ rfl
  refine z_putV (c := 10) (j := 3) (ty0 := tyX10) (S' := sR S23 1003 a0 (some q19)) hf25.1 hf25.2 (Nat.le_of_ble_eq_true rfl) rfl zU_X10 tyX10_ok nmX10 (Nat.le_of_ble_eq_true rfl) (Nat.le_of_ble_eq_true rfl) ⟨_, zw_267, Or.inl rfl⟩ (.inr ⟨rfl, rfl⟩) (zrefn (ty := tyX10 3) (o := (some q19)) (by decide)) (zreff (ty := tyX10 3) (o := (some q19)) (by decide)) rfl (zUpR (v := (some q19)) hf25.2 (Nat.le_of_ble_eq_true rfl) (Nat.le_of_ble_eq_true rfl) rfl rfl) dX10_init_31 ?_
  obtain ⟨S26, hS27⟩ : ∃ z, z = sR S23 1003 a0 (some q19) := ⟨_, rfl⟩
  rw [← hS27] at h ⊢
  have hf25 : a0 ∈ gL S26 ∧ gK S26 a0 = 10 := by rw [hS27]; exact hf25
  refine z_aload_n 0 dX10_init_34 rfl rfl ?_
  refine z_new (c := 6) (ty0 := tyX5) (Nat.le_of_ble_eq_true rfl) rfl zU_X5 tyX5_ok z0_X5 zw_91 zw_92 zw_34 (Nat.le_of_ble_eq_true rfl) (Nat.le_of_ble_eq_true rfl) dX10_init_35 (fun q28 hq29 => ?_)
  have h := h q28 hq29 _ rfl
  obtain ⟨S30, hS31⟩ : ∃ z, z = nO S26 q28 6 := ⟨_, rfl⟩
  rw [← hS31] at h ⊢
  refine z_widen (k' := 4) (n' := 19) (Nat.le_refl _) (Nat.le_refl _) ?_
  refine z_dup dX10_init_38 rfl ?_
  refine z_callIV (st := [.ref q28, .ref a0]) (w_X5_init h) zw_95 zw_93 zw_94 zw_34 rfl zy_X5_init rfl rfl ⟨Nat.le_of_ble_eq_true rfl, Nat.le_of_ble_eq_true rfl⟩ ⟨(Nat.le_of_ble_eq_true rfl), (Nat.le_of_ble_eq_true rfl)⟩ (Nat.le_of_ble_eq_true rfl) dX10_init_39 (fun _ _ hx => hx.elim) (fun S32 h => ?_)
  refine z_widen (k' := 5) (n' := 739) (Nat.le_refl _) (Nat.le_refl _) ?_
  obtain ⟨hf34, h⟩ := h
  have h := h _ rfl
  refine z_putV (c := 10) (j := 4) (ty0 := tyX10) (S' := sR S32 1004 a0 (some q28)) hf34.1 hf34.2 (Nat.le_of_ble_eq_true rfl) rfl zU_X10 tyX10_ok nmX10 (Nat.le_of_ble_eq_true rfl) (Nat.le_of_ble_eq_true rfl) ⟨_, zw_268, Or.inl rfl⟩ (.inr ⟨rfl, rfl⟩) (zrefn (ty := tyX10 4) (o := (some q28)) (by decide)) (zreff (ty := tyX10 4) (o := (some q28)) (by decide)) rfl (zUpR (v := (some q28)) hf34.2 (Nat.le_of_ble_eq_true rfl) (Nat.le_of_ble_eq_true rfl) rfl rfl) dX10_init_42 ?_
  obtain ⟨S35, hS36⟩ : ∃ z, z = sR S32 1004 a0 (some q28) := ⟨_, rfl⟩
  rw [← hS36] at h ⊢
  have hf34 : a0 ∈ gL S35 ∧ gK S35 a0 = 10 := by rw [hS36]; exact hf34
  refine z_aload_n 0 dX10_init_45 rfl rfl ?_
  refine z_new (c := 3) (ty0 := tyX2) (Nat.le_of_ble_eq_true rfl) rfl zU_X2 tyX2_ok z0_X2 zw_102 zw_103 zw_35 (Nat.le_of_ble_eq_true rfl) (Nat.le_of_ble_eq_true rfl) dX10_init_46 (fun q37 hq38 => ?_)
  have h := h q37 hq38 _ rfl
  obtain ⟨S39, hS40⟩ : ∃ z, z = nO S35 q37 3 := ⟨_, rfl⟩
  rw [← hS40] at h ⊢
  refine z_widen (k' := 6) (n' := 741) (Nat.le_refl _) (Nat.le_refl _) ?_
  refine z_dup dX10_init_49 rfl ?_
  refine z_aload_n 0 dX10_init_50 rfl rfl ?_
  obtain ⟨hf41, h⟩ := h
  refine z_getQ (c := 10) (j := 4) (f := 1004) hf41.1 hf41.2 (Nat.le_of_ble_eq_true rfl) rfl zU_X10 (Nat.le_of_ble_eq_true rfl) (Nat.le_of_ble_eq_true rfl) ⟨_, zw_268, Or.inl rfl⟩ rfl rfl dX10_init_51 ?_
  obtain ⟨b42, hb43, h⟩ := h
  rw [show va_rf (gR S39 1004 a0) = Value.ref b42 from by rw [hb43]; rfl]
  refine z_callIV (st := [.ref q37, .ref a0]) (w_X2_init h) zw_106 zw_104 zw_105 zw_35 rfl zy_X2_init rfl rfl ⟨Nat.le_of_ble_eq_true rfl, Nat.le_of_ble_eq_true rfl⟩ ⟨(Nat.le_of_ble_eq_true rfl), (Nat.le_of_ble_eq_true rfl)⟩ (Nat.le_of_ble_eq_true rfl) dX10_init_54 (fun _ _ hx => hx.elim) (fun S44 h => ?_)
  refine z_widen (k' := 10) (n' := 1013) (Nat.le_refl _) (Nat.le_refl _) ?_
  obtain ⟨hf46, h⟩ := h
  have h := h _ rfl
  refine z_putV (c := 10) (j := 5) (ty0 := tyX10) (S' := sR S44 1005 a0 (some q37)) hf46.1 hf46.2 (Nat.le_of_ble_eq_true rfl) rfl zU_X10 tyX10_ok nmX10 (Nat.le_of_ble_eq_true rfl) (Nat.le_of_ble_eq_true rfl) ⟨_, zw_269, Or.inl rfl⟩ (.inr ⟨rfl, rfl⟩) (zrefn (ty := tyX10 5) (o := (some q37)) (by decide)) (zreff (ty := tyX10 5) (o := (some q37)) (by decide)) rfl (zUpR (v := (some q37)) hf46.2 (Nat.le_of_ble_eq_true rfl) (Nat.le_of_ble_eq_true rfl) rfl rfl) dX10_init_57 ?_
  obtain ⟨S47, hS48⟩ : ∃ z, z = sR S44 1005 a0 (some q37) := ⟨_, rfl⟩
  rw [← hS48] at h ⊢
  have hf46 : a0 ∈ gL S47 ∧ gK S47 a0 = 10 := by rw [hS48]; exact hf46
  refine z_aload_n 0 dX10_init_60 rfl rfl ?_
  refine z_new (c := 9) (ty0 := tyX9) (Nat.le_of_ble_eq_true rfl) rfl zU_X9 tyX9_ok z0_X9 zw_167 zw_109 zw_36 (Nat.le_of_ble_eq_true rfl) (Nat.le_of_ble_eq_true rfl) dX10_init_61 (fun q49 hq50 => ?_)
  have h := h q49 hq50 _ rfl
  obtain ⟨S51, hS52⟩ : ∃ z, z = nO S47 q49 9 := ⟨_, rfl⟩
  rw [← hS52] at h ⊢
  refine z_widen (k' := 11) (n' := 1022) (Nat.le_refl _) (Nat.le_refl _) ?_
  refine z_dup dX10_init_64 rfl ?_
  refine z_callIV (st := [.ref q49, .ref a0]) (w_X9_init h) zw_112 zw_168 zw_111 zw_36 rfl zy_X9_init rfl rfl ⟨Nat.le_of_ble_eq_true rfl, Nat.le_of_ble_eq_true rfl⟩ ⟨(Nat.le_of_ble_eq_true rfl), (Nat.le_of_ble_eq_true rfl)⟩ (Nat.le_of_ble_eq_true rfl) dX10_init_65 (fun _ _ hx => hx.elim) (fun S53 h => ?_)
  refine z_widen (k' := 14) (n' := 1285) (Nat.le_refl _) (Nat.le_refl _) ?_
  obtain ⟨hf55, h⟩ := h
  have h := h _ rfl
  refine z_putV (c := 10) (j := 6) (ty0 := tyX10) (S' := sR S53 1006 a0 (some q49)) hf55.1 hf55.2 (Nat.le_of_ble_eq_true rfl) rfl zU_X10 tyX10_ok nmX10 (Nat.le_of_ble_eq_true rfl) (Nat.le_of_ble_eq_true rfl) ⟨_, zw_270, Or.inl rfl⟩ (.inl rfl) (zrefn (ty := tyX10 6) (o := (some q49)) (by decide)) (zreff (ty := tyX10 6) (o := (some q49)) (by decide)) rfl (zUpR (v := (some q49)) hf55.2 (Nat.le_of_ble_eq_true rfl) (Nat.le_of_ble_eq_true rfl) rfl rfl) dX10_init_68 ?_
  obtain ⟨S56, hS57⟩ : ∃ z, z = sR S53 1006 a0 (some q49) := ⟨_, rfl⟩
  rw [← hS57] at h ⊢
  have hf55 : a0 ∈ gL S56 ∧ gK S56 a0 = 10 := by rw [hS57]; exact hf55
  refine z_aload_n 0 dX10_init_71 rfl rfl ?_
  refine z_new (c := 1) (ty0 := tyX0) (Nat.le_of_ble_eq_true rfl) rfl zU_X0 tyX0_ok z0_X0 zw_169 zw_170 zw_37 (Nat.le_of_ble_eq_true rfl) (Nat.le_of_ble_eq_true rfl) dX10_init_72 (fun q58 hq59 => ?_)
  have h := h q58 hq59 _ rfl
  obtain ⟨S60, hS61⟩ : ∃ z, z = nO S56 q58 1 := ⟨_, rfl⟩
  rw [← hS61] at h ⊢
  refine z_widen (k' := 15) (n' := 1286) (Nat.le_refl _) (Nat.le_refl _) ?_
  refine z_dup dX10_init_75 rfl ?_
  refine z_callIV (st := [.ref q58, .ref a0]) (w_X0_init h) zw_173 zw_171 zw_172 zw_37 rfl zy_X0_init rfl rfl ⟨Nat.le_of_ble_eq_true rfl, Nat.le_of_ble_eq_true rfl⟩ ⟨(Nat.le_of_ble_eq_true rfl), (Nat.le_of_ble_eq_true rfl)⟩ (Nat.le_of_ble_eq_true rfl) dX10_init_76 (fun _ _ hx => hx.elim) (fun S62 h => ?_)
  refine z_widen (k' := 44) (n' := 3056) (Nat.le_refl _) (Nat.le_refl _) ?_
  obtain ⟨hf64, h⟩ := h
  have h := h _ rfl
  refine z_putV (c := 10) (j := 7) (ty0 := tyX10) (S' := sR S62 1007 a0 (some q58)) hf64.1 hf64.2 (Nat.le_of_ble_eq_true rfl) rfl zU_X10 tyX10_ok nmX10 (Nat.le_of_ble_eq_true rfl) (Nat.le_of_ble_eq_true rfl) ⟨_, zw_271, Or.inl rfl⟩ (.inr ⟨rfl, rfl⟩) (zrefn (ty := tyX10 7) (o := (some q58)) (by decide)) (zreff (ty := tyX10 7) (o := (some q58)) (by decide)) rfl (zUpR (v := (some q58)) hf64.2 (Nat.le_of_ble_eq_true rfl) (Nat.le_of_ble_eq_true rfl) rfl rfl) dX10_init_79 ?_
  obtain ⟨S65, hS66⟩ : ∃ z, z = sR S62 1007 a0 (some q58) := ⟨_, rfl⟩
  rw [← hS66] at h ⊢
  have hf64 : a0 ∈ gL S65 ∧ gK S65 a0 = 10 := by rw [hS66]; exact hf64
  refine z_aload_n 0 dX10_init_82 rfl rfl ?_
  refine z_new (c := 8) (ty0 := tyX7) (Nat.le_of_ble_eq_true rfl) rfl zU_X7 tyX7_ok z0_X7 zw_220 zw_221 zw_39 (Nat.le_of_ble_eq_true rfl) (Nat.le_of_ble_eq_true rfl) dX10_init_83 (fun q67 hq68 => ?_)
  have h := h q67 hq68 _ rfl
  obtain ⟨S69, hS70⟩ : ∃ z, z = nO S65 q67 8 := ⟨_, rfl⟩
  rw [← hS70] at h ⊢
  refine z_widen (k' := 45) (n' := 3062) (Nat.le_refl _) (Nat.le_refl _) ?_
  refine z_dup dX10_init_86 rfl ?_
  refine z_callIV (st := [.ref q67, .ref a0]) (w_X7_init h) zw_224 zw_222 zw_223 zw_39 rfl zy_X7_init rfl rfl ⟨Nat.le_of_ble_eq_true rfl, Nat.le_of_ble_eq_true rfl⟩ ⟨(Nat.le_of_ble_eq_true rfl), (Nat.le_of_ble_eq_true rfl)⟩ (Nat.le_of_ble_eq_true rfl) dX10_init_87 (fun _ _ hx => hx.elim) (fun S71 h => ?_)
  refine z_widen (k' := 171) (n' := 3375) (Nat.le_refl _) (Nat.le_refl _) ?_
  obtain ⟨hf73, h⟩ := h
  have h := h _ rfl
  refine z_putV (c := 10) (j := 8) (ty0 := tyX10) (S' := sR S71 1008 a0 (some q67)) hf73.1 hf73.2 (Nat.le_of_ble_eq_true rfl) rfl zU_X10 tyX10_ok nmX10 (Nat.le_of_ble_eq_true rfl) (Nat.le_of_ble_eq_true rfl) ⟨_, zw_272, Or.inl rfl⟩ (.inr ⟨rfl, rfl⟩) (zrefn (ty := tyX10 8) (o := (some q67)) (by decide)) (zreff (ty := tyX10 8) (o := (some q67)) (by decide)) rfl (zUpR (v := (some q67)) hf73.2 (Nat.le_of_ble_eq_true rfl) (Nat.le_of_ble_eq_true rfl) rfl rfl) dX10_init_90 ?_
  obtain ⟨S74, hS75⟩ : ∃ z, z = sR S71 1008 a0 (some q67) := ⟨_, rfl⟩
  rw [← hS75] at h ⊢
  have hf73 : a0 ∈ gL S74 ∧ gK S74 a0 = 10 := by rw [hS75]; exact hf73
  refine z_aload_n 0 dX10_init_93 rfl rfl ?_
  refine z_sipush (v := 200) dX10_init_94 rfl ?_
  have h := h _ rfl
  refine z_putV (c := 10) (j := 10) (ty0 := tyX10) (S' := sI S74 1010 a0 200) hf73.1 hf73.2 (Nat.le_of_ble_eq_true rfl) rfl zU_X10 tyX10_ok nmX10 (Nat.le_of_ble_eq_true rfl) (Nat.le_of_ble_eq_true rfl) ⟨_, zw_274, Or.inl rfl⟩ (.inl rfl) rfl rfl rfl (zUpI (v := 200) hf73.2 (Nat.le_of_ble_eq_true rfl) (Nat.le_of_ble_eq_true rfl) rfl rfl) dX10_init_97 ?_
  obtain ⟨S76, hS77⟩ : ∃ z, z = sI S74 1010 a0 200 := ⟨_, rfl⟩
  rw [← hS77] at h ⊢
  have hf73 : a0 ∈ gL S76 ∧ gK S76 a0 = 10 := by rw [hS77]; exact hf73
  refine z_aload_n 0 dX10_init_100 rfl rfl ?_
  refine z_iconst (v := (-1)) dX10_init_101 rfl ?_
  have h := h _ rfl
  refine z_putV (c := 10) (j := 13) (ty0 := tyX10) (S' := sI S76 1013 a0 (-1)) hf73.1 hf73.2 (Nat.le_of_ble_eq_true rfl) rfl zU_X10 tyX10_ok nmX10 (Nat.le_of_ble_eq_true rfl) (Nat.le_of_ble_eq_true rfl) ⟨_, zw_277, Or.inl rfl⟩ (.inl rfl) rfl rfl rfl (zUpI (v := (-1)) hf73.2 (Nat.le_of_ble_eq_true rfl) (Nat.le_of_ble_eq_true rfl) rfl rfl) dX10_init_102 ?_
  obtain ⟨S78, hS79⟩ : ∃ z, z = sI S76 1013 a0 (-1) := ⟨_, rfl⟩
  rw [← hS79] at h ⊢
  have hf73 : a0 ∈ gL S78 ∧ gK S78 a0 = 10 := by rw [hS79]; exact hf73
  exact z_return ⟨rfl, rfl, h⟩ rfl (Nat.le_of_ble_eq_true rfl) (Nat.le_of_ble_eq_true rfl) dX10_init_105
set_option maxRecDepth 20000 in
set_option maxHeartbeats 4000000 in
theorem w_X10_requireRange {E : zE} {l0 : Int32} {l1 : Int32} {l2 : Int32} {S : zS} {Q : zS → Prop} {X : String → zS → Prop} (h : p_X10_requireRange E l0 l1 l2 S Q X) : zM E yX10_requireRange cX10_requireRange 3 none ({ frames := 6, cells := 1, slots := 6, locals := 82 } : Room) [.int l0, .int l1, .int l2] S (qV Q) X := by
  unfold p_X10_requireRange at h
  refine zM_of RX10 false (by decide) rfl (fun h => by cases h) (Nat.le_of_ble_eq_true rfl) ?_
  refine z_iload_n 0 dX10_requireRange_0 rfl rfl ?_
  refine z_iload_n 1 dX10_requireRange_1 rfl rfl ?_
  refine z_icmp_lt 10 dX10_requireRange_2 (by decide) (fun c2 => ?_) (fun c2 => ?_)
  · have h := h.1 c2
    exact z_throwW (cls := "java/lang/IllegalArgumentException") (text := "out of range") zw_329 zw_47 zat_117 (by decide +kernel) rfl dX10_requireRange_10 dX10_requireRange_13 dX10_requireRange_14 dX10_requireRange_17 dX10_requireRange_20 rfl (Nat.le_of_ble_eq_true rfl) (Nat.le_of_ble_eq_true rfl) (Nat.le_of_ble_eq_true rfl) (Nat.le_of_ble_eq_true rfl) ⟨rfl, h⟩
  · have h := h.2 c2
    refine z_iload_n 0 dX10_requireRange_5 rfl rfl ?_
    refine z_iload_n 2 dX10_requireRange_6 rfl rfl ?_
    refine z_icmp_le 21 dX10_requireRange_7 (by decide) (fun c1 => ?_) (fun c1 => ?_)
    · have h := h.1 c1
      exact z_return ⟨rfl, rfl, h⟩ rfl (Nat.le_of_ble_eq_true rfl) (Nat.le_of_ble_eq_true rfl) dX10_requireRange_21
    · have h := h.2 c1
      exact z_throwW (cls := "java/lang/IllegalArgumentException") (text := "out of range") zw_329 zw_47 zat_117 (by decide +kernel) rfl dX10_requireRange_10 dX10_requireRange_13 dX10_requireRange_14 dX10_requireRange_17 dX10_requireRange_20 rfl (Nat.le_of_ble_eq_true rfl) (Nat.le_of_ble_eq_true rfl) (Nat.le_of_ble_eq_true rfl) (Nat.le_of_ble_eq_true rfl) ⟨rfl, h⟩
set_option maxRecDepth 20000 in
set_option maxHeartbeats 4000000 in
theorem w_X10_change {E : zE} {a0 : Nat} {l1 : Int32} {S : zS} {Q : Int32 → zS → Prop} {X : String → zS → Prop} (h : p_X10_change E a0 l1 S Q X) : zM E yX10_change cX10_change 2 (some .int) ({ frames := 7, cells := 2, slots := 12, locals := 104 } : Room) [.ref a0, .int l1] S (qI Q) X := by
  unfold p_X10_change at h
  refine zM_of RX10 false (by decide) rfl (fun h => by cases h) (Nat.le_of_ble_eq_true rfl) ?_
  refine z_iload_n 1 dX10_change_0 rfl rfl ?_
  refine z_iconst (v := 0) dX10_change_1 rfl ?_
  refine z_bipush (v := 63) dX10_change_2 rfl ?_
  refine z_callSV (st := []) (w_X10_requireRange h) zw_328 zw_326 zw_327 zw_30 zy_X10_requireRange rfl rfl ⟨Nat.le_of_ble_eq_true rfl, Nat.le_of_ble_eq_true rfl⟩ ⟨(Nat.le_of_ble_eq_true rfl), (Nat.le_of_ble_eq_true rfl)⟩ (Nat.le_of_ble_eq_true rfl) dX10_change_4 (fun ex S1 hx => zx_out rfl ⟨rfl, hx⟩ (Nat.le_of_ble_eq_true rfl) (Nat.le_of_ble_eq_true rfl)) (fun S1 h => ?_)
  refine z_widen (k' := 1) (n' := 6) (Nat.le_refl _) (Nat.le_refl _) ?_
  refine z_aload_n 0 dX10_change_7 rfl rfl ?_
  obtain ⟨hf3, h⟩ := h
  refine z_getI (c := 10) (j := 2) (f := 1002) hf3.1 hf3.2 (Nat.le_of_ble_eq_true rfl) rfl zU_X10 (Nat.le_of_ble_eq_true rfl) (Nat.le_of_ble_eq_true rfl) ⟨_, zw_266, Or.inl rfl⟩ rfl rfl dX10_change_8 ?_
  refine z_bipush (v := 12) dX10_change_11 rfl ?_
  refine z_icmp_lt 26 dX10_change_13 (by decide) (fun c14 => ?_) (fun c14 => ?_)
  · have h := h.1 c14
    refine z_aload_n 0 dX10_change_26 rfl rfl ?_
    refine z_getQ (c := 10) (j := 1) (f := 1001) hf3.1 hf3.2 (Nat.le_of_ble_eq_true rfl) rfl zU_X10 (Nat.le_of_ble_eq_true rfl) (Nat.le_of_ble_eq_true rfl) ⟨_, zw_265, Or.inl rfl⟩ rfl rfl dX10_change_27 ?_
    refine z_aload_n 0 dX10_change_30 rfl rfl ?_
    refine z_getI (c := 10) (j := 2) (f := 1002) hf3.1 hf3.2 (Nat.le_of_ble_eq_true rfl) rfl zU_X10 (Nat.le_of_ble_eq_true rfl) (Nat.le_of_ble_eq_true rfl) ⟨_, zw_266, Or.inl rfl⟩ rfl rfl dX10_change_31 ?_
    refine z_iload_n 1 dX10_change_34 rfl rfl ?_
    obtain ⟨b4, hb5, h⟩ := h
    rw [show va_rf (gR S1 1001 a0) = Value.ref b4 from by rw [hb5]; rfl]
    obtain ⟨hf6, h⟩ := h
    obtain ⟨j7, hj8, h⟩ := h
    have h := h _ rfl
    refine z_iast (j := j7) hf6.1 hf6.2 hj8.1 hj8.2.1 hj8.2.2 dX10_change_35 ?_
    obtain ⟨S9, hS10⟩ : ∃ z, z = sA S1 b4 j7 l1 := ⟨_, rfl⟩
    rw [← hS10] at h ⊢
    have hf3 : a0 ∈ gL S9 ∧ gK S9 a0 = 10 := by rw [hS10]; exact hf3
    have hf6 : b4 ∈ gL S9 ∧ gK S9 b4 = 12 := by rw [hS10]; exact hf6
    refine z_aload_n 0 dX10_change_36 rfl rfl ?_
    refine z_dup dX10_change_37 rfl ?_
    refine z_getI (c := 10) (j := 2) (f := 1002) hf3.1 hf3.2 (Nat.le_of_ble_eq_true rfl) rfl zU_X10 (Nat.le_of_ble_eq_true rfl) (Nat.le_of_ble_eq_true rfl) ⟨_, zw_266, Or.inl rfl⟩ rfl rfl dX10_change_38 ?_
    refine z_iconst (v := 1) dX10_change_41 rfl ?_
    refine z_iadd dX10_change_42 ?_
    have h := h _ rfl
    refine z_putV (c := 10) (j := 2) (ty0 := tyX10) (S' := sI S9 1002 a0 ((gI S9 1002 a0) + 1)) hf3.1 hf3.2 (Nat.le_of_ble_eq_true rfl) rfl zU_X10 tyX10_ok nmX10 (Nat.le_of_ble_eq_true rfl) (Nat.le_of_ble_eq_true rfl) ⟨_, zw_266, Or.inl rfl⟩ (.inl rfl) rfl rfl rfl (zUpI (v := ((gI S9 1002 a0) + 1)) hf3.2 (Nat.le_of_ble_eq_true rfl) (Nat.le_of_ble_eq_true rfl) rfl rfl) dX10_change_43 ?_
    obtain ⟨S11, hS12⟩ : ∃ z, z = sI S9 1002 a0 ((gI S9 1002 a0) + 1) := ⟨_, rfl⟩
    rw [← hS12] at h ⊢
    have hf3 : a0 ∈ gL S11 ∧ gK S11 a0 = 10 := by rw [hS12]; exact hf3
    have hf6 : b4 ∈ gL S11 ∧ gK S11 b4 = 12 := by rw [hS12]; exact hf6
    refine z_aload_n 0 dX10_change_46 rfl rfl ?_
    refine z_getI (c := 10) (j := 2) (f := 1002) hf3.1 hf3.2 (Nat.le_of_ble_eq_true rfl) rfl zU_X10 (Nat.le_of_ble_eq_true rfl) (Nat.le_of_ble_eq_true rfl) ⟨_, zw_266, Or.inl rfl⟩ rfl rfl dX10_change_47 ?_
    exact z_ireturn ⟨rfl, _, rfl, h⟩ rfl (Nat.le_of_ble_eq_true rfl) (Nat.le_of_ble_eq_true rfl) dX10_change_50
  · have h := h.2 c14
    exact z_throw (cls := "java/lang/IllegalStateException") (text := "the draft of a lead is full") zw_397 zw_51 zat_78 (by decide +kernel) rfl dX10_change_16 dX10_change_19 dX10_change_20 dX10_change_22 dX10_change_25 rfl (Nat.le_of_ble_eq_true rfl) (Nat.le_of_ble_eq_true rfl) (Nat.le_of_ble_eq_true rfl) (Nat.le_of_ble_eq_true rfl) ⟨rfl, h⟩
set_option maxRecDepth 20000 in
set_option maxHeartbeats 4000000 in
theorem w_X10_dropChanges {E : zE} {a0 : Nat} {S : zS} {Q : Int32 → zS → Prop} {X : String → zS → Prop} (h : p_X10_dropChanges E a0 S Q X) : zM E yX10_dropChanges cX10_dropChanges 2 (some .int) ({ frames := 0, cells := 0, slots := 0, locals := 0 } : Room) [.ref a0] S (qI Q) X := by
  unfold p_X10_dropChanges at h
  refine zM_of RX10 false (by decide) rfl (fun h => by cases h) (Nat.le_of_ble_eq_true rfl) ?_
  refine z_aload_n 0 dX10_dropChanges_0 rfl rfl ?_
  obtain ⟨hf1, h⟩ := h
  refine z_getI (c := 10) (j := 2) (f := 1002) hf1.1 hf1.2 (Nat.le_of_ble_eq_true rfl) rfl zU_X10 (Nat.le_of_ble_eq_true rfl) (Nat.le_of_ble_eq_true rfl) ⟨_, zw_266, Or.inl rfl⟩ rfl rfl dX10_dropChanges_1 ?_
  refine z_istore_n (lv' := [(1, .int (gI S 1002 a0)), (0, .ref a0)]) dX10_dropChanges_4 rfl (Nat.le_of_ble_eq_true rfl) rfl ?_
  refine z_aload_n 1 dX10_dropChanges_5 rfl rfl ?_
  refine z_iconst (v := 0) dX10_dropChanges_6 rfl ?_
  have h := h _ rfl
  refine z_putV (c := 10) (j := 2) (ty0 := tyX10) (S' := sI S 1002 a0 0) hf1.1 hf1.2 (Nat.le_of_ble_eq_true rfl) rfl zU_X10 tyX10_ok nmX10 (Nat.le_of_ble_eq_true rfl) (Nat.le_of_ble_eq_true rfl) ⟨_, zw_266, Or.inl rfl⟩ (.inl rfl) rfl rfl rfl (zUpI (v := 0) hf1.2 (Nat.le_of_ble_eq_true rfl) (Nat.le_of_ble_eq_true rfl) rfl rfl) dX10_dropChanges_7 ?_
  obtain ⟨S2, hS3⟩ : ∃ z, z = sI S 1002 a0 0 := ⟨_, rfl⟩
  rw [← hS3] at h ⊢
  have hf1 : a0 ∈ gL S2 ∧ gK S2 a0 = 10 := by rw [hS3]; exact hf1
  refine z_iload_n 0 dX10_dropChanges_10 rfl rfl ?_
  exact z_ireturn ⟨rfl, _, rfl, h⟩ rfl (Nat.le_of_ble_eq_true rfl) (Nat.le_of_ble_eq_true rfl) dX10_dropChanges_11
set_option maxRecDepth 20000 in
set_option maxHeartbeats 4000000 in
theorem w_X10_isDraftOf_L2 {E : zE} {K23 : zS → Prop} {K31 : zS → Prop} {Q : Int32 → zS → Prop} {X : String → zS → Prop} (hK23 : ∀  (S : zS), K23  S → zJ E (RX10, cX10_isDraftOf, 3, (some .boolean), false, [], zTr) ({ frames := 2, cells := 0, slots := 0, locals := 45 } : Room) (zq (qI Q)) (zx X) 23 [] [] [] S 0 0) (hK31 : ∀  (S : zS), K31  S → zJ E (RX10, cX10_isDraftOf, 3, (some .boolean), false, [], zTr) ({ frames := 2, cells := 0, slots := 0, locals := 45 } : Room) (zq (qI Q)) (zx X) 31 [] [] [] S 0 0) : ∀ (m2 : Nat) (a0 : Nat) (l1 : Int32) (l2 : Int32) (S : zS), p_X10_isDraftOf_L2 E K23 K31 Q X m2 a0 l1 l2 S → zJ E (RX10, cX10_isDraftOf, 3, (some .boolean), false, [], zTr) ({ frames := 2, cells := 0, slots := 0, locals := 45 } : Room) (zq (qI Q)) (zx X) 2 [(0, .ref a0), (1, .int l1), (2, .int l2)] [] [] S 0 0 := by
  intro m2
  induction m2 with
  | zero => intro a0 l1 l2 S h; exact (show False from h).elim
  | succ m2 ih =>
    intro a0 l1 l2 S h
    unfold p_X10_isDraftOf_L2 at h
    refine z_iload_n 2 dX10_isDraftOf_2 rfl rfl ?_
    refine z_aload_n 0 dX10_isDraftOf_3 rfl rfl ?_
    obtain ⟨hf1, h⟩ := h
    refine z_getI (c := 10) (j := 2) (f := 1002) hf1.1 hf1.2 (Nat.le_of_ble_eq_true rfl) rfl zU_X10 (Nat.le_of_ble_eq_true rfl) (Nat.le_of_ble_eq_true rfl) ⟨_, zw_266, Or.inl rfl⟩ rfl rfl dX10_isDraftOf_4 ?_
    refine z_icmp_ge 31 dX10_isDraftOf_7 (by decide) (fun c10 => ?_) (fun c10 => ?_)
    · have h := h.1 c10
      refine z_sub [] rfl ?_
      exact hK31 S h
    · have h := h.2 c10
      refine z_aload_n 0 dX10_isDraftOf_10 rfl rfl ?_
      refine z_getQ (c := 10) (j := 1) (f := 1001) hf1.1 hf1.2 (Nat.le_of_ble_eq_true rfl) rfl zU_X10 (Nat.le_of_ble_eq_true rfl) (Nat.le_of_ble_eq_true rfl) ⟨_, zw_265, Or.inl rfl⟩ rfl rfl dX10_isDraftOf_11 ?_
      refine z_iload_n 2 dX10_isDraftOf_14 rfl rfl ?_
      obtain ⟨b2, hb3, h⟩ := h
      rw [show va_rf (gR S 1001 a0) = Value.ref b2 from by rw [hb3]; rfl]
      obtain ⟨hf4, h⟩ := h
      obtain ⟨j5, hj6, h⟩ := h
      refine z_iald (j := j5) hf4.1 hf4.2 hj6.1 hj6.2.1 hj6.2.2 dX10_isDraftOf_15 ?_
      refine z_iload_n 1 dX10_isDraftOf_16 rfl rfl ?_
      refine z_callSI (st := []) (w_X8_isChange h) zw_430 zw_428 zw_429 zw_48 zy_X8_isChange rfl rfl ⟨Nat.le_of_ble_eq_true rfl, Nat.le_of_ble_eq_true rfl⟩ ⟨(Nat.le_of_ble_eq_true rfl), (Nat.le_of_ble_eq_true rfl)⟩ (Nat.le_of_ble_eq_true rfl) dX10_isDraftOf_17 (fun _ _ hx => hx.elim) (fun r8 S7 h => ?_)
      refine z_widen (k' := 0) (n' := 0) (Nat.le_refl _) (Nat.le_refl _) ?_
      refine z_if_ne 25 dX10_isDraftOf_20 (by decide) (fun c9 => ?_) (fun c9 => ?_)
      · have h := h.1 c9
        refine z_iinc (v := (l2 + 1)) (lv' := [(2, .int (l2 + 1)), (0, .ref a0), (1, .int l1)]) 2 dX10_isDraftOf_25 rfl rfl (Nat.le_of_ble_eq_true rfl) rfl ?_
        refine z_goto 2 dX10_isDraftOf_28 (by decide) ?_
        refine z_sub [1, 2, 0] rfl ?_
        exact ih a0 l1 (l2 + 1) S7 h
      · have h := h.2 c9
        refine z_sub [] rfl ?_
        exact hK23 S7 h
set_option maxRecDepth 20000 in
set_option maxHeartbeats 4000000 in
theorem w_X10_isDraftOf {E : zE} {a0 : Nat} {l1 : Int32} {S : zS} {Q : Int32 → zS → Prop} {X : String → zS → Prop} (h : p_X10_isDraftOf E a0 l1 S Q X) : zM E yX10_isDraftOf cX10_isDraftOf 3 (some .boolean) ({ frames := 2, cells := 0, slots := 0, locals := 45 } : Room) [.ref a0, .int l1] S (qI Q) X := by
  unfold p_X10_isDraftOf at h
  refine zM_of RX10 false (by decide) rfl (fun h => by cases h) (Nat.le_of_ble_eq_true rfl) ?_
  refine z_iconst (v := 0) dX10_isDraftOf_0 rfl ?_
  refine z_istore_n (lv' := [(2, .int 0), (0, .ref a0), (1, .int l1)]) dX10_isDraftOf_1 rfl (Nat.le_of_ble_eq_true rfl) rfl ?_
  obtain ⟨m2, h⟩ := h
  refine z_sub [1, 2, 0] rfl ?_
  refine w_X10_isDraftOf_L2 (fun S h => ?_) (fun S h => ?_) m2 a0 l1 0 S h
  · refine z_iconst (v := 0) dX10_isDraftOf_23 rfl ?_
    obtain ⟨hz11, h⟩ := h
    exact z_zreturn ⟨rfl, _, rfl, h⟩ rfl (zbn hz11) (Nat.le_of_ble_eq_true rfl) (Nat.le_of_ble_eq_true rfl) dX10_isDraftOf_24
  · refine z_iconst (v := 1) dX10_isDraftOf_31 rfl ?_
    obtain ⟨hz12, h⟩ := h
    exact z_zreturn ⟨rfl, _, rfl, h⟩ rfl (zbn hz12) (Nat.le_of_ble_eq_true rfl) (Nat.le_of_ble_eq_true rfl) dX10_isDraftOf_32
set_option maxRecDepth 20000 in
set_option maxHeartbeats 4000000 in
theorem w_X10_method {E : zE} {a0 : Nat} {l1 : Int32} {S : zS} {Q : Int32 → zS → Prop} {X : String → zS → Prop} (h : p_X10_method E a0 l1 S Q X) : zM E yX10_method cX10_method 3 (some .int) ({ frames := 7, cells := 7, slots := 194, locals := 171 } : Room) [.ref a0, .int l1] S (qI Q) X := by
  unfold p_X10_method at h
  refine zM_of RX10 false (by decide) rfl (fun h => by cases h) (Nat.le_of_ble_eq_true rfl) ?_
  refine z_iload_n 1 dX10_method_0 rfl rfl ?_
  refine z_iconst (v := 4) dX10_method_1 rfl ?_
  refine z_bipush (v := 6) dX10_method_2 rfl ?_
  refine z_callSV (st := []) (w_X10_requireRange h) zw_328 zw_326 zw_327 zw_30 zy_X10_requireRange rfl rfl ⟨Nat.le_of_ble_eq_true rfl, Nat.le_of_ble_eq_true rfl⟩ ⟨(Nat.le_of_ble_eq_true rfl), (Nat.le_of_ble_eq_true rfl)⟩ (Nat.le_of_ble_eq_true rfl) dX10_method_4 (fun ex S1 hx => zx_out rfl ⟨rfl, hx⟩ (Nat.le_of_ble_eq_true rfl) (Nat.le_of_ble_eq_true rfl)) (fun S1 h => ?_)
  refine z_widen (k' := 1) (n' := 6) (Nat.le_refl _) (Nat.le_refl _) ?_
  refine z_aload_n 0 dX10_method_7 rfl rfl ?_
  obtain ⟨hf3, h⟩ := h
  refine z_getI (c := 10) (j := 2) (f := 1002) hf3.1 hf3.2 (Nat.le_of_ble_eq_true rfl) rfl zU_X10 (Nat.le_of_ble_eq_true rfl) (Nat.le_of_ble_eq_true rfl) ⟨_, zw_266, Or.inl rfl⟩ rfl rfl dX10_method_8 ?_
  refine z_if_eq 34 dX10_method_11 (by decide) (fun c38 => ?_) (fun c38 => ?_)
  · have h := h.1 c38
    exact z_throw (cls := "java/lang/IllegalStateException") (text := "no method can be made of the draft") zw_397 zw_51 zat_78 (by decide +kernel) rfl dX10_method_34 dX10_method_37 dX10_method_38 dX10_method_40 dX10_method_43 rfl (Nat.le_of_ble_eq_true rfl) (Nat.le_of_ble_eq_true rfl) (Nat.le_of_ble_eq_true rfl) (Nat.le_of_ble_eq_true rfl) ⟨rfl, h⟩
  · have h := h.2 c38
    refine z_aload_n 0 dX10_method_14 rfl rfl ?_
    refine z_getQ (c := 10) (j := 0) (f := 1000) hf3.1 hf3.2 (Nat.le_of_ble_eq_true rfl) rfl zU_X10 (Nat.le_of_ble_eq_true rfl) (Nat.le_of_ble_eq_true rfl) ⟨_, zw_264, Or.inl rfl⟩ rfl rfl dX10_method_15 ?_
    obtain ⟨b4, hb5, h⟩ := h
    rw [show va_rf (gR S1 1000 a0) = Value.ref b4 from by rw [hb5]; rfl]
    obtain ⟨hf37, h⟩ := h
    refine z_callVI (ci := 0) (st := []) (w_Jx4a65c_size_8abf5 h) hf37.1 hf37.2 (Nat.le_of_ble_eq_true rfl) rfl zw_423 zw_420 zw_421 zw_422 zw_33 zy_Jx4a65c_size_8abf5 rfl rfl ⟨Nat.le_of_ble_eq_true rfl, Nat.le_of_ble_eq_true rfl⟩ ⟨(Nat.le_of_ble_eq_true rfl), (Nat.le_of_ble_eq_true rfl)⟩ (Nat.le_of_ble_eq_true rfl) dX10_method_18 (fun _ _ hx => hx.elim) (fun r7 S6 h => ?_)
    refine z_widen (k' := 1) (n' := 6) (Nat.le_refl _) (Nat.le_refl _) ?_
    refine z_bipush (v := 8) dX10_method_21 rfl ?_
    refine z_icmp_ge 34 dX10_method_23 (by decide) (fun c36 => ?_) (fun c36 => ?_)
    · have h := h.1 c36
      exact z_throw (cls := "java/lang/IllegalStateException") (text := "no method can be made of the draft") zw_397 zw_51 zat_78 (by decide +kernel) rfl dX10_method_34 dX10_method_37 dX10_method_38 dX10_method_40 dX10_method_43 rfl (Nat.le_of_ble_eq_true rfl) (Nat.le_of_ble_eq_true rfl) (Nat.le_of_ble_eq_true rfl) (Nat.le_of_ble_eq_true rfl) ⟨rfl, h⟩
    · have h := h.2 c36
      refine z_aload_n 0 dX10_method_26 rfl rfl ?_
      refine z_iload_n 1 dX10_method_27 rfl rfl ?_
      obtain ⟨hf35, h⟩ := h
      refine z_callVI (ci := 10) (st := []) (w_X10_isDraftOf h) hf35.1 hf35.2 (Nat.le_of_ble_eq_true rfl) rfl zw_427 zw_424 zw_426 zw_1 zw_30 zy_X10_isDraftOf rfl rfl ⟨Nat.le_of_ble_eq_true rfl, Nat.le_of_ble_eq_true rfl⟩ ⟨(Nat.le_of_ble_eq_true rfl), (Nat.le_of_ble_eq_true rfl)⟩ (Nat.le_of_ble_eq_true rfl) dX10_method_28 (fun _ _ hx => hx.elim) (fun r9 S8 h => ?_)
      refine z_widen (k' := 1) (n' := 6) (Nat.le_refl _) (Nat.le_refl _) ?_
      refine z_if_ne 44 dX10_method_31 (by decide) (fun c34 => ?_) (fun c34 => ?_)
      · have h := h.1 c34
        refine z_aload_n 0 dX10_method_44 rfl rfl ?_
        obtain ⟨hf10, h⟩ := h
        refine z_getQ (c := 10) (j := 0) (f := 1000) hf10.1 hf10.2 (Nat.le_of_ble_eq_true rfl) rfl zU_X10 (Nat.le_of_ble_eq_true rfl) (Nat.le_of_ble_eq_true rfl) ⟨_, zw_264, Or.inl rfl⟩ rfl rfl dX10_method_45 ?_
        obtain ⟨b11, hb12, h⟩ := h
        rw [show va_rf (gR S8 1000 a0) = Value.ref b11 from by rw [hb12]; rfl]
        obtain ⟨hf33, h⟩ := h
        refine z_callVI (ci := 0) (st := []) (w_Jx4a65c_size_8abf5 h) hf33.1 hf33.2 (Nat.le_of_ble_eq_true rfl) rfl zw_423 zw_420 zw_421 zw_422 zw_33 zy_Jx4a65c_size_8abf5 rfl rfl ⟨Nat.le_of_ble_eq_true rfl, Nat.le_of_ble_eq_true rfl⟩ ⟨(Nat.le_of_ble_eq_true rfl), (Nat.le_of_ble_eq_true rfl)⟩ (Nat.le_of_ble_eq_true rfl) dX10_method_48 (fun _ _ hx => hx.elim) (fun r14 S13 h => ?_)
        refine z_widen (k' := 1) (n' := 6) (Nat.le_refl _) (Nat.le_refl _) ?_
        refine z_istore_n (lv' := [(2, .int r14), (0, .ref a0), (1, .int l1)]) dX10_method_51 rfl (Nat.le_of_ble_eq_true rfl) rfl ?_
        refine z_aload_n 1 dX10_method_52 rfl rfl ?_
        obtain ⟨hf15, h⟩ := h
        refine z_getQ (c := 10) (j := 0) (f := 1000) hf15.1 hf15.2 (Nat.le_of_ble_eq_true rfl) rfl zU_X10 (Nat.le_of_ble_eq_true rfl) (Nat.le_of_ble_eq_true rfl) ⟨_, zw_264, Or.inl rfl⟩ rfl rfl dX10_method_53 ?_
        refine z_new (c := 5) (ty0 := tyX4) (Nat.le_of_ble_eq_true rfl) rfl zU_X4 tyX4_ok z0_X4 zw_435 zw_436 zw_52 (Nat.le_of_ble_eq_true rfl) (Nat.le_of_ble_eq_true rfl) dX10_method_56 (fun q16 hq17 => ?_)
        have h := h q16 hq17 _ rfl
        obtain ⟨S18, hS19⟩ : ∃ z, z = nO S13 q16 5 := ⟨_, rfl⟩
        rw [← hS19] at h ⊢
        refine z_widen (k' := 2) (n' := 13) (Nat.le_refl _) (Nat.le_refl _) ?_
        refine z_dup dX10_method_59 rfl ?_
        refine z_iload_n 0 dX10_method_60 rfl rfl ?_
        refine z_iload_n 2 dX10_method_61 rfl rfl ?_
        refine z_aload_n 1 dX10_method_62 rfl rfl ?_
        obtain ⟨hf20, h⟩ := h
        refine z_getQ (c := 10) (j := 1) (f := 1001) hf20.1 hf20.2 (Nat.le_of_ble_eq_true rfl) rfl zU_X10 (Nat.le_of_ble_eq_true rfl) (Nat.le_of_ble_eq_true rfl) ⟨_, zw_265, Or.inl rfl⟩ rfl rfl dX10_method_63 ?_
        refine z_aload_n 1 dX10_method_66 rfl rfl ?_
        refine z_getI (c := 10) (j := 2) (f := 1002) hf20.1 hf20.2 (Nat.le_of_ble_eq_true rfl) rfl zU_X10 (Nat.le_of_ble_eq_true rfl) (Nat.le_of_ble_eq_true rfl) ⟨_, zw_266, Or.inl rfl⟩ rfl rfl dX10_method_67 ?_
        obtain ⟨b21, hb22, h⟩ := h
        rw [show va_rf (gR S18 1001 a0) = Value.ref b21 from by rw [hb22]; rfl]
        refine z_callIV (st := [.ref q16, va_rf (gR S13 1000 a0)]) (w_X4_init h) zw_439 zw_437 zw_438 zw_52 rfl zy_X4_init rfl rfl ⟨Nat.le_of_ble_eq_true rfl, Nat.le_of_ble_eq_true rfl⟩ ⟨(Nat.le_of_ble_eq_true rfl), (Nat.le_of_ble_eq_true rfl)⟩ (by generalize (gR S13 1000 a0) = z9; cases z9 <;> exact (Nat.le_of_ble_eq_true rfl)) dX10_method_70 (fun _ _ hx => hx.elim) (fun S23 h => ?_)
        refine z_widen (k' := 6) (n' := 172) (Nat.le_refl _) (Nat.le_refl _) ?_
        obtain ⟨b25, hb26, h⟩ := h
        rw [show va_rf (gR S13 1000 a0) = Value.ref b25 from by rw [hb26]; rfl]
        obtain ⟨hf32, h⟩ := h
        refine z_callVI (ci := 0) (st := []) (w_Jx4a65c_add_9ea2d h) hf32.1 hf32.2 (Nat.le_of_ble_eq_true rfl) rfl zw_508 zw_505 zw_506 zw_507 zw_33 zy_Jx4a65c_add_9ea2d rfl rfl ⟨Nat.le_of_ble_eq_true rfl, Nat.le_of_ble_eq_true rfl⟩ ⟨(Nat.le_of_ble_eq_true rfl), (Nat.le_of_ble_eq_true rfl)⟩ (Nat.le_of_ble_eq_true rfl) dX10_method_73 (fun _ _ hx => hx.elim) (fun r28 S27 h => ?_)
        refine z_widen (k' := 7) (n' := 194) (Nat.le_refl _) (Nat.le_refl _) ?_
        refine z_pop dX10_method_76 rfl ?_
        refine z_aload_n 1 dX10_method_77 rfl rfl ?_
        refine z_iconst (v := 0) dX10_method_78 rfl ?_
        obtain ⟨hf29, h⟩ := h
        have h := h _ rfl
        refine z_putV (c := 10) (j := 2) (ty0 := tyX10) (S' := sI S27 1002 a0 0) hf29.1 hf29.2 (Nat.le_of_ble_eq_true rfl) rfl zU_X10 tyX10_ok nmX10 (Nat.le_of_ble_eq_true rfl) (Nat.le_of_ble_eq_true rfl) ⟨_, zw_266, Or.inl rfl⟩ (.inl rfl) rfl rfl rfl (zUpI (v := 0) hf29.2 (Nat.le_of_ble_eq_true rfl) (Nat.le_of_ble_eq_true rfl) rfl rfl) dX10_method_79 ?_
        obtain ⟨S30, hS31⟩ : ∃ z, z = sI S27 1002 a0 0 := ⟨_, rfl⟩
        rw [← hS31] at h ⊢
        have hf29 : a0 ∈ gL S30 ∧ gK S30 a0 = 10 := by rw [hS31]; exact hf29
        refine z_iload_n 0 dX10_method_82 rfl rfl ?_
        exact z_ireturn ⟨rfl, _, rfl, h⟩ rfl (Nat.le_of_ble_eq_true rfl) (Nat.le_of_ble_eq_true rfl) dX10_method_83
      · have h := h.2 c34
        exact z_throw (cls := "java/lang/IllegalStateException") (text := "no method can be made of the draft") zw_397 zw_51 zat_78 (by decide +kernel) rfl dX10_method_34 dX10_method_37 dX10_method_38 dX10_method_40 dX10_method_43 rfl (Nat.le_of_ble_eq_true rfl) (Nat.le_of_ble_eq_true rfl) (Nat.le_of_ble_eq_true rfl) (Nat.le_of_ble_eq_true rfl) ⟨rfl, h⟩
set_option maxRecDepth 20000 in
set_option maxHeartbeats 4000000 in
theorem w_X10_requireIndex {E : zE} {l0 : Int32} {l1 : Int32} {S : zS} {Q : zS → Prop} {X : String → zS → Prop} (h : p_X10_requireIndex E l0 l1 S Q X) : zM E yX10_requireIndex cX10_requireIndex 2 none ({ frames := 6, cells := 1, slots := 6, locals := 82 } : Room) [.int l0, .int l1] S (qV Q) X := by
  unfold p_X10_requireIndex at h
  refine zM_of RX10 false (by decide) rfl (fun h => by cases h) (Nat.le_of_ble_eq_true rfl) ?_
  refine z_iload_n 0 dX10_requireIndex_0 rfl rfl ?_
  refine z_if_lt 9 dX10_requireIndex_1 (by decide) (fun c2 => ?_) (fun c2 => ?_)
  · have h := h.1 c2
    exact z_throwW (cls := "java/lang/IndexOutOfBoundsException") (text := "there is no such one") zw_588 zw_44 zat_146 (by decide +kernel) rfl dX10_requireIndex_9 dX10_requireIndex_12 dX10_requireIndex_13 dX10_requireIndex_16 dX10_requireIndex_19 rfl (Nat.le_of_ble_eq_true rfl) (Nat.le_of_ble_eq_true rfl) (Nat.le_of_ble_eq_true rfl) (Nat.le_of_ble_eq_true rfl) ⟨rfl, h⟩
  · have h := h.2 c2
    refine z_iload_n 0 dX10_requireIndex_4 rfl rfl ?_
    refine z_iload_n 1 dX10_requireIndex_5 rfl rfl ?_
    refine z_icmp_lt 20 dX10_requireIndex_6 (by decide) (fun c1 => ?_) (fun c1 => ?_)
    · have h := h.1 c1
      exact z_return ⟨rfl, rfl, h⟩ rfl (Nat.le_of_ble_eq_true rfl) (Nat.le_of_ble_eq_true rfl) dX10_requireIndex_20
    · have h := h.2 c1
      exact z_throwW (cls := "java/lang/IndexOutOfBoundsException") (text := "there is no such one") zw_588 zw_44 zat_146 (by decide +kernel) rfl dX10_requireIndex_9 dX10_requireIndex_12 dX10_requireIndex_13 dX10_requireIndex_16 dX10_requireIndex_19 rfl (Nat.le_of_ble_eq_true rfl) (Nat.le_of_ble_eq_true rfl) (Nat.le_of_ble_eq_true rfl) (Nat.le_of_ble_eq_true rfl) ⟨rfl, h⟩
set_option maxRecDepth 20000 in
set_option maxHeartbeats 4000000 in
theorem w_X10_methodAt {E : zE} {a0 : Nat} {l1 : Int32} {S : zS} {Q : Option Nat → zS → Prop} {X : String → zS → Prop} (h : p_X10_methodAt E a0 l1 S Q X) : zM E yX10_methodAt cX10_methodAt 2 (some (.object "GrandsireLoft$Method")) ({ frames := 7, cells := 1, slots := 6, locals := 103 } : Room) [.ref a0, .int l1] S (qR Q) X := by
  unfold p_X10_methodAt at h
  refine zM_of RX10 false (by decide) rfl (fun h => by cases h) (Nat.le_of_ble_eq_true rfl) ?_
  refine z_iload_n 1 dX10_methodAt_0 rfl rfl ?_
  refine z_aload_n 0 dX10_methodAt_1 rfl rfl ?_
  obtain ⟨hf1, h⟩ := h
  refine z_getQ (c := 10) (j := 0) (f := 1000) hf1.1 hf1.2 (Nat.le_of_ble_eq_true rfl) rfl zU_X10 (Nat.le_of_ble_eq_true rfl) (Nat.le_of_ble_eq_true rfl) ⟨_, zw_264, Or.inl rfl⟩ rfl rfl dX10_methodAt_2 ?_
  obtain ⟨b2, hb3, h⟩ := h
  rw [show va_rf (gR S 1000 a0) = Value.ref b2 from by rw [hb3]; rfl]
  obtain ⟨hf17, h⟩ := h
  refine z_callVI (ci := 0) (st := [.int l1]) (w_Jx4a65c_size_8abf5 h) hf17.1 hf17.2 (Nat.le_of_ble_eq_true rfl) rfl zw_423 zw_420 zw_421 zw_422 zw_33 zy_Jx4a65c_size_8abf5 rfl rfl ⟨Nat.le_of_ble_eq_true rfl, Nat.le_of_ble_eq_true rfl⟩ ⟨(Nat.le_of_ble_eq_true rfl), (Nat.le_of_ble_eq_true rfl)⟩ (Nat.le_of_ble_eq_true rfl) dX10_methodAt_5 (fun _ _ hx => hx.elim) (fun r5 S4 h => ?_)
  refine z_widen (k' := 0) (n' := 0) (Nat.le_refl _) (Nat.le_refl _) ?_
  refine z_callSV (st := []) (w_X10_requireIndex h) zw_587 zw_585 zw_586 zw_30 zy_X10_requireIndex rfl rfl ⟨Nat.le_of_ble_eq_true rfl, Nat.le_of_ble_eq_true rfl⟩ ⟨(Nat.le_of_ble_eq_true rfl), (Nat.le_of_ble_eq_true rfl)⟩ (Nat.le_of_ble_eq_true rfl) dX10_methodAt_8 (fun ex S6 hx => zx_out rfl ⟨rfl, hx⟩ (Nat.le_of_ble_eq_true rfl) (Nat.le_of_ble_eq_true rfl)) (fun S6 h => ?_)
  refine z_widen (k' := 1) (n' := 6) (Nat.le_refl _) (Nat.le_refl _) ?_
  refine z_aload_n 0 dX10_methodAt_11 rfl rfl ?_
  obtain ⟨hf8, h⟩ := h
  refine z_getQ (c := 10) (j := 0) (f := 1000) hf8.1 hf8.2 (Nat.le_of_ble_eq_true rfl) rfl zU_X10 (Nat.le_of_ble_eq_true rfl) (Nat.le_of_ble_eq_true rfl) ⟨_, zw_264, Or.inl rfl⟩ rfl rfl dX10_methodAt_12 ?_
  refine z_iload_n 1 dX10_methodAt_15 rfl rfl ?_
  obtain ⟨b9, hb10, h⟩ := h
  rw [show va_rf (gR S6 1000 a0) = Value.ref b9 from by rw [hb10]; rfl]
  obtain ⟨hf16, h⟩ := h
  refine z_callVR (ci := 0) (st := []) (w_Jx4a65c_get_915e3 h) hf16.1 hf16.2 (Nat.le_of_ble_eq_true rfl) rfl zw_607 zw_604 zw_605 zw_606 zw_33 zy_Jx4a65c_get_915e3 rfl rfl ⟨Nat.le_of_ble_eq_true rfl, Nat.le_of_ble_eq_true rfl⟩ ⟨(Nat.le_of_ble_eq_true rfl), (Nat.le_of_ble_eq_true rfl)⟩ (Nat.le_of_ble_eq_true rfl) dX10_methodAt_16 (fun _ _ hx => hx.elim) (fun r12 S11 h => ?_)
  refine z_widen (k' := 1) (n' := 6) (Nat.le_refl _) (Nat.le_refl _) ?_
  obtain ⟨b13, hb14, h⟩ := h
  rw [show va_rf r12 = Value.ref b13 from by rw [hb14]; rfl]
  obtain ⟨hf15, h⟩ := h
  refine z_cast (c := 5) hf15.1 hf15.2 (Nat.le_of_ble_eq_true rfl) rfl zw_435 dX10_methodAt_19 ?_
  exact z_areturn (v := va_rf (some b13)) ⟨rfl, _, rfl, h⟩ rfl (.inl ⟨_, rfl⟩) (va_rf_or _) (Nat.le_of_ble_eq_true rfl) (Nat.le_of_ble_eq_true rfl) dX10_methodAt_22
set_option maxRecDepth 20000 in
set_option maxHeartbeats 4000000 in
theorem w_X10_requireSilence {E : zE} {a0 : Nat} {S : zS} {Q : zS → Prop} {X : String → zS → Prop} (h : p_X10_requireSilence E a0 S Q X) : zM E yX10_requireSilence cX10_requireSilence 1 none ({ frames := 6, cells := 1, slots := 6, locals := 82 } : Room) [.ref a0] S (qV Q) X := by
  unfold p_X10_requireSilence at h
  refine zM_of RX10 false (by decide) rfl (fun h => by cases h) (Nat.le_of_ble_eq_true rfl) ?_
  refine z_aload_n 0 dX10_requireSilence_0 rfl rfl ?_
  obtain ⟨hf1, h⟩ := h
  refine z_getQ (c := 10) (j := 9) (f := 1009) hf1.1 hf1.2 (Nat.le_of_ble_eq_true rfl) rfl zU_X10 (Nat.le_of_ble_eq_true rfl) (Nat.le_of_ble_eq_true rfl) ⟨_, zw_273, Or.inl rfl⟩ rfl rfl dX10_requireSilence_1 ?_
  rcases zor (gR S 1009 a0) with hb3 | ⟨b2, hb3⟩
  · have h := h.1 hb3
    rw [show va_rf (gR S 1009 a0) = Value.null from by rw [hb3]; rfl]
    refine z_ifnullN 18 dX10_requireSilence_4 (by decide) ?_
    exact z_return ⟨rfl, rfl, h⟩ rfl (Nat.le_of_ble_eq_true rfl) (Nat.le_of_ble_eq_true rfl) dX10_requireSilence_18
  · have h := h.2 b2 hb3
    rw [show va_rf (gR S 1009 a0) = Value.ref b2 from by rw [hb3]; rfl]
    refine z_ifnull dX10_requireSilence_4 ?_
    exact z_throwW (cls := "java/lang/IllegalStateException") (text := "a ringing is on") zw_397 zw_51 zat_78 (by decide +kernel) rfl dX10_requireSilence_7 dX10_requireSilence_10 dX10_requireSilence_11 dX10_requireSilence_14 dX10_requireSilence_17 rfl (Nat.le_of_ble_eq_true rfl) (Nat.le_of_ble_eq_true rfl) (Nat.le_of_ble_eq_true rfl) (Nat.le_of_ble_eq_true rfl) ⟨rfl, h⟩
set_option maxRecDepth 20000 in
set_option maxHeartbeats 4000000 in
theorem w_X10_rewriteTouches_L2 {E : zE} {K38 : zS → Prop} {Q : zS → Prop} {X : String → zS → Prop} (hK38 : ∀  (S : zS), K38  S → zJ E (RX10, cX10_rewriteTouches, 2, none, false, [], zTr) ({ frames := 5, cells := 0, slots := 0, locals := 120 } : Room) (zq (qV Q)) (zx X) 38 [] [] [] S 0 0) : ∀ (m2 : Nat) (a0 : Nat) (l1 : Int32) (S : zS), p_X10_rewriteTouches_L2 E K38 Q X m2 a0 l1 S → zJ E (RX10, cX10_rewriteTouches, 2, none, false, [], zTr) ({ frames := 5, cells := 0, slots := 0, locals := 120 } : Room) (zq (qV Q)) (zx X) 2 [(0, .ref a0), (1, .int l1)] [] [] S 0 0 := by
  intro m2
  induction m2 with
  | zero => intro a0 l1 S h; exact (show False from h).elim
  | succ m2 ih =>
    intro a0 l1 S h
    unfold p_X10_rewriteTouches_L2 at h
    refine z_iload_n 1 dX10_rewriteTouches_2 rfl rfl ?_
    refine z_aload_n 0 dX10_rewriteTouches_3 rfl rfl ?_
    obtain ⟨hf1, h⟩ := h
    refine z_getQ (c := 10) (j := 3) (f := 1003) hf1.1 hf1.2 (Nat.le_of_ble_eq_true rfl) rfl zU_X10 (Nat.le_of_ble_eq_true rfl) (Nat.le_of_ble_eq_true rfl) ⟨_, zw_267, Or.inl rfl⟩ rfl rfl dX10_rewriteTouches_4 ?_
    obtain ⟨b2, hb3, h⟩ := h
    rw [show va_rf (gR S 1003 a0) = Value.ref b2 from by rw [hb3]; rfl]
    obtain ⟨hf21, h⟩ := h
    refine z_callVI (ci := 0) (st := [.int l1]) (w_Jx4a65c_size_8abf5 h) hf21.1 hf21.2 (Nat.le_of_ble_eq_true rfl) rfl zw_423 zw_420 zw_421 zw_422 zw_33 zy_Jx4a65c_size_8abf5 rfl rfl ⟨Nat.le_of_ble_eq_true rfl, Nat.le_of_ble_eq_true rfl⟩ ⟨(Nat.le_of_ble_eq_true rfl), (Nat.le_of_ble_eq_true rfl)⟩ (Nat.le_of_ble_eq_true rfl) dX10_rewriteTouches_7 (fun _ _ hx => hx.elim) (fun r5 S4 h => ?_)
    refine z_widen (k' := 0) (n' := 0) (Nat.le_refl _) (Nat.le_refl _) ?_
    refine z_icmp_ge 38 dX10_rewriteTouches_10 (by decide) (fun c20 => ?_) (fun c20 => ?_)
    · have h := h.1 c20
      refine z_sub [] rfl ?_
      exact hK38 S4 h
    · have h := h.2 c20
      refine z_aload_n 0 dX10_rewriteTouches_13 rfl rfl ?_
      obtain ⟨hf6, h⟩ := h
      refine z_getQ (c := 10) (j := 3) (f := 1003) hf6.1 hf6.2 (Nat.le_of_ble_eq_true rfl) rfl zU_X10 (Nat.le_of_ble_eq_true rfl) (Nat.le_of_ble_eq_true rfl) ⟨_, zw_267, Or.inl rfl⟩ rfl rfl dX10_rewriteTouches_14 ?_
      refine z_iload_n 1 dX10_rewriteTouches_17 rfl rfl ?_
      obtain ⟨b7, hb8, h⟩ := h
      rw [show va_rf (gR S4 1003 a0) = Value.ref b7 from by rw [hb8]; rfl]
      obtain ⟨hf19, h⟩ := h
      refine z_callVR (ci := 0) (st := []) (w_Jx4a65c_get_915e3 h) hf19.1 hf19.2 (Nat.le_of_ble_eq_true rfl) rfl zw_607 zw_604 zw_605 zw_606 zw_33 zy_Jx4a65c_get_915e3 rfl rfl ⟨Nat.le_of_ble_eq_true rfl, Nat.le_of_ble_eq_true rfl⟩ ⟨(Nat.le_of_ble_eq_true rfl), (Nat.le_of_ble_eq_true rfl)⟩ (Nat.le_of_ble_eq_true rfl) dX10_rewriteTouches_18 (fun _ _ hx => hx.elim) (fun r10 S9 h => ?_)
      refine z_widen (k' := 0) (n' := 0) (Nat.le_refl _) (Nat.le_refl _) ?_
      obtain ⟨b11, hb12, h⟩ := h
      rw [show va_rf r10 = Value.ref b11 from by rw [hb12]; rfl]
      obtain ⟨hf13, h⟩ := h
      refine z_cast (c := 9) hf13.1 hf13.2 (Nat.le_of_ble_eq_true rfl) rfl zw_167 dX10_rewriteTouches_21 ?_
      refine z_iconst (v := 0) dX10_rewriteTouches_24 rfl ?_
      refine z_aload_n 0 dX10_rewriteTouches_25 rfl rfl ?_
      obtain ⟨hf14, h⟩ := h
      refine z_getQ (c := 10) (j := 4) (f := 1004) hf14.1 hf14.2 (Nat.le_of_ble_eq_true rfl) rfl zU_X10 (Nat.le_of_ble_eq_true rfl) (Nat.le_of_ble_eq_true rfl) ⟨_, zw_268, Or.inl rfl⟩ rfl rfl dX10_rewriteTouches_26 ?_
      obtain ⟨b15, hb16, h⟩ := h
      rw [show va_rf (gR S9 1004 a0) = Value.ref b15 from by rw [hb16]; rfl]
      refine z_callVV (ci := 9) (st := []) (w_X9_writeFrom h) hf13.1 hf13.2 (Nat.le_of_ble_eq_true rfl) rfl zw_647 zw_644 zw_645 zw_646 zw_36 zy_X9_writeFrom rfl rfl ⟨Nat.le_of_ble_eq_true rfl, Nat.le_of_ble_eq_true rfl⟩ ⟨(Nat.le_of_ble_eq_true rfl), (Nat.le_of_ble_eq_true rfl)⟩ (Nat.le_of_ble_eq_true rfl) dX10_rewriteTouches_29 (fun _ _ hx => hx.elim) (fun S17 h => ?_)
      refine z_widen (k' := 0) (n' := 0) (Nat.le_refl _) (Nat.le_refl _) ?_
      refine z_iinc (v := (l1 + 1)) (lv' := [(1, .int (l1 + 1)), (0, .ref a0)]) 1 dX10_rewriteTouches_32 rfl rfl (Nat.le_of_ble_eq_true rfl) rfl ?_
      refine z_goto 2 dX10_rewriteTouches_35 (by decide) ?_
      refine z_sub [1, 0] rfl ?_
      exact ih a0 (l1 + 1) S17 h
set_option maxRecDepth 20000 in
set_option maxHeartbeats 4000000 in
theorem w_X10_rewriteTouches {E : zE} {a0 : Nat} {S : zS} {Q : zS → Prop} {X : String → zS → Prop} (h : p_X10_rewriteTouches E a0 S Q X) : zM E yX10_rewriteTouches cX10_rewriteTouches 2 none ({ frames := 5, cells := 0, slots := 0, locals := 120 } : Room) [.ref a0] S (qV Q) X := by
  unfold p_X10_rewriteTouches at h
  refine zM_of RX10 false (by decide) rfl (fun h => by cases h) (Nat.le_of_ble_eq_true rfl) ?_
  refine z_iconst (v := 0) dX10_rewriteTouches_0 rfl ?_
  refine z_istore_n (lv' := [(1, .int 0), (0, .ref a0)]) dX10_rewriteTouches_1 rfl (Nat.le_of_ble_eq_true rfl) rfl ?_
  obtain ⟨m2, h⟩ := h
  refine z_sub [1, 0] rfl ?_
  refine w_X10_rewriteTouches_L2 (fun S h => ?_) m2 a0 0 S h
  exact z_return ⟨rfl, rfl, h⟩ rfl (Nat.le_of_ble_eq_true rfl) (Nat.le_of_ble_eq_true rfl) dX10_rewriteTouches_38
set_option maxRecDepth 20000 in
set_option maxHeartbeats 4000000 in
theorem w_X10_setCall {E : zE} {a0 : Nat} {l1 : Int32} {l2 : Int32} {l3 : Int32} {S : zS} {Q : Int32 → zS → Prop} {X : String → zS → Prop} (h : p_X10_setCall E a0 l1 l2 l3 S Q X) : zM E yX10_setCall cX10_setCall 6 (some .int) ({ frames := 8, cells := 3, slots := 18, locals := 141 } : Room) [.ref a0, .int l1, .int l2, .int l3] S (qI Q) X := by
  unfold p_X10_setCall at h
  refine zM_of RX10 false (by decide) rfl (fun h => by cases h) (Nat.le_of_ble_eq_true rfl) ?_
  refine z_aload_n 0 dX10_setCall_0 rfl rfl ?_
  refine z_iload_n 1 dX10_setCall_1 rfl rfl ?_
  obtain ⟨hf34, h⟩ := h
  refine z_callVR (ci := 10) (st := []) (w_X10_methodAt h) hf34.1 hf34.2 (Nat.le_of_ble_eq_true rfl) rfl zw_584 zw_581 zw_583 zw_7 zw_30 zy_X10_methodAt rfl rfl ⟨Nat.le_of_ble_eq_true rfl, Nat.le_of_ble_eq_true rfl⟩ ⟨(Nat.le_of_ble_eq_true rfl), (Nat.le_of_ble_eq_true rfl)⟩ (Nat.le_of_ble_eq_true rfl) dX10_setCall_2 (fun ex S1 hx => zx_out rfl ⟨rfl, hx⟩ (Nat.le_of_ble_eq_true rfl) (Nat.le_of_ble_eq_true rfl)) (fun r2 S1 h => ?_)
  refine z_widen (k' := 1) (n' := 6) (Nat.le_refl _) (Nat.le_refl _) ?_
  refine z_astoreQ (lv' := [(4, va_rf r2), (0, .ref a0), (1, .int l1), (2, .int l2), (3, .int l3)]) dX10_setCall_5 (Nat.le_of_ble_eq_true rfl) rfl ?_
  refine z_iload_n 3 dX10_setCall_7 rfl rfl ?_
  refine z_iconst (v := 1) dX10_setCall_8 rfl ?_
  refine z_iconst (v := 2) dX10_setCall_9 rfl ?_
  refine z_callSV (st := []) (w_X10_requireRange h) zw_328 zw_326 zw_327 zw_30 zy_X10_requireRange rfl rfl ⟨Nat.le_of_ble_eq_true rfl, Nat.le_of_ble_eq_true rfl⟩ ⟨(Nat.le_of_ble_eq_true rfl), (Nat.le_of_ble_eq_true rfl)⟩ (Nat.le_of_ble_eq_true rfl) dX10_setCall_10 (fun ex S3 hx => zx_out rfl ⟨rfl, hx⟩ (Nat.le_of_ble_eq_true rfl) (Nat.le_of_ble_eq_true rfl)) (fun S3 h => ?_)
  refine z_widen (k' := 2) (n' := 12) (Nat.le_refl _) (Nat.le_refl _) ?_
  refine z_iload_n 4 dX10_setCall_13 rfl rfl ?_
  refine z_aloadQ 0 dX10_setCall_14 rfl ?_
  obtain ⟨b5, hb6, h⟩ := h
  rw [show va_rf r2 = Value.ref b5 from by rw [hb6]; rfl]
  obtain ⟨hf7, h⟩ := h
  refine z_getI (c := 5) (j := 1) (f := 501) hf7.1 hf7.2 (Nat.le_of_ble_eq_true rfl) rfl zU_X4 (Nat.le_of_ble_eq_true rfl) (Nat.le_of_ble_eq_true rfl) ⟨_, zw_481, Or.inl rfl⟩ rfl rfl dX10_setCall_16 ?_
  refine z_callSI (st := []) (w_X8_isChange h) zw_430 zw_428 zw_429 zw_48 zy_X8_isChange rfl rfl ⟨Nat.le_of_ble_eq_true rfl, Nat.le_of_ble_eq_true rfl⟩ ⟨(Nat.le_of_ble_eq_true rfl), (Nat.le_of_ble_eq_true rfl)⟩ (Nat.le_of_ble_eq_true rfl) dX10_setCall_19 (fun _ _ hx => hx.elim) (fun r9 S8 h => ?_)
  refine z_widen (k' := 2) (n' := 12) (Nat.le_refl _) (Nat.le_refl _) ?_
  refine z_if_ne 35 dX10_setCall_22 (by decide) (fun c33 => ?_) (fun c33 => ?_)
  · have h := h.1 c33
    refine z_aload_n 1 dX10_setCall_35 rfl rfl ?_
    obtain ⟨hf32, h⟩ := h
    refine z_callVV (ci := 10) (st := []) (w_X10_requireSilence h) hf32.1 hf32.2 (Nat.le_of_ble_eq_true rfl) rfl zw_630 zw_627 zw_629 zw_8 zw_30 zy_X10_requireSilence rfl rfl ⟨Nat.le_of_ble_eq_true rfl, Nat.le_of_ble_eq_true rfl⟩ ⟨(Nat.le_of_ble_eq_true rfl), (Nat.le_of_ble_eq_true rfl)⟩ (Nat.le_of_ble_eq_true rfl) dX10_setCall_36 (fun ex S10 hx => zx_out rfl ⟨rfl, hx⟩ (Nat.le_of_ble_eq_true rfl) (Nat.le_of_ble_eq_true rfl)) (fun S10 h => ?_)
    refine z_widen (k' := 3) (n' := 18) (Nat.le_refl _) (Nat.le_refl _) ?_
    refine z_aload 0 dX10_setCall_39 rfl ?_
    refine z_iload_n 3 dX10_setCall_41 rfl rfl ?_
    refine z_aload 0 dX10_setCall_42 rfl ?_
    obtain ⟨hf12, h⟩ := h
    refine z_getI (c := 5) (j := 2) (f := 502) hf12.1 hf12.2 (Nat.le_of_ble_eq_true rfl) rfl zU_X4 (Nat.le_of_ble_eq_true rfl) (Nat.le_of_ble_eq_true rfl) ⟨_, zw_483, Or.inl rfl⟩ rfl rfl dX10_setCall_44 ?_
    refine z_iconst (v := 1) dX10_setCall_47 rfl ?_
    refine z_isub dX10_setCall_48 ?_
    refine z_callVI (ci := 5) (st := []) (w_X4_changeOf h) hf12.1 hf12.2 (Nat.le_of_ble_eq_true rfl) rfl zw_635 zw_632 zw_633 zw_634 zw_52 zy_X4_changeOf rfl rfl ⟨Nat.le_of_ble_eq_true rfl, Nat.le_of_ble_eq_true rfl⟩ ⟨(Nat.le_of_ble_eq_true rfl), (Nat.le_of_ble_eq_true rfl)⟩ (Nat.le_of_ble_eq_true rfl) dX10_setCall_49 (fun _ _ hx => hx.elim) (fun r14 S13 h => ?_)
    refine z_widen (k' := 3) (n' := 18) (Nat.le_refl _) (Nat.le_refl _) ?_
    refine z_istore (lv' := [(5, .int r14), (4, .ref b5), (0, .ref a0), (1, .int l1), (2, .int l2), (3, .int l3)]) dX10_setCall_52 (Nat.le_of_ble_eq_true rfl) rfl ?_
    refine z_aload 1 dX10_setCall_54 rfl ?_
    refine z_iload_n 4 dX10_setCall_56 rfl rfl ?_
    refine z_iload_n 5 dX10_setCall_57 rfl rfl ?_
    obtain ⟨hf31, h⟩ := h
    refine z_callVV (ci := 5) (st := []) (w_X4_setLastChange h) hf31.1 hf31.2 (Nat.le_of_ble_eq_true rfl) rfl zw_639 zw_636 zw_637 zw_638 zw_52 zy_X4_setLastChange rfl rfl ⟨Nat.le_of_ble_eq_true rfl, Nat.le_of_ble_eq_true rfl⟩ ⟨(Nat.le_of_ble_eq_true rfl), (Nat.le_of_ble_eq_true rfl)⟩ (Nat.le_of_ble_eq_true rfl) dX10_setCall_58 (fun _ _ hx => hx.elim) (fun S15 h => ?_)
    refine z_widen (k' := 3) (n' := 18) (Nat.le_refl _) (Nat.le_refl _) ?_
    refine z_aload_n 2 dX10_setCall_61 rfl rfl ?_
    obtain ⟨hf30, h⟩ := h
    refine z_callVV (ci := 10) (st := []) (w_X10_rewriteTouches h) hf30.1 hf30.2 (Nat.le_of_ble_eq_true rfl) rfl zw_643 zw_640 zw_642 zw_9 zw_30 zy_X10_rewriteTouches rfl rfl ⟨Nat.le_of_ble_eq_true rfl, Nat.le_of_ble_eq_true rfl⟩ ⟨(Nat.le_of_ble_eq_true rfl), (Nat.le_of_ble_eq_true rfl)⟩ (Nat.le_of_ble_eq_true rfl) dX10_setCall_62 (fun _ _ hx => hx.elim) (fun S17 h => ?_)
    refine z_widen (k' := 3) (n' := 18) (Nat.le_refl _) (Nat.le_refl _) ?_
    refine z_aload_n 2 dX10_setCall_65 rfl rfl ?_
    obtain ⟨hf19, h⟩ := h
    refine z_getQ (c := 10) (j := 8) (f := 1008) hf19.1 hf19.2 (Nat.le_of_ble_eq_true rfl) rfl zU_X10 (Nat.le_of_ble_eq_true rfl) (Nat.le_of_ble_eq_true rfl) ⟨_, zw_272, Or.inl rfl⟩ rfl rfl dX10_setCall_66 ?_
    refine z_aload_n 2 dX10_setCall_69 rfl rfl ?_
    refine z_getQ (c := 10) (j := 7) (f := 1007) hf19.1 hf19.2 (Nat.le_of_ble_eq_true rfl) rfl zU_X10 (Nat.le_of_ble_eq_true rfl) (Nat.le_of_ble_eq_true rfl) ⟨_, zw_271, Or.inl rfl⟩ rfl rfl dX10_setCall_70 ?_
    obtain ⟨b20, hb21, h⟩ := h
    rw [show va_rf (gR S17 1007 a0) = Value.ref b20 from by rw [hb21]; rfl]
    obtain ⟨hf29, h⟩ := h
    refine z_callVI (ci := 1) (st := [va_rf (gR S17 1008 a0)]) (w_X0_bellsOut h) hf29.1 hf29.2 (Nat.le_of_ble_eq_true rfl) rfl zw_670 zw_667 zw_668 zw_669 zw_37 zy_X0_bellsOut rfl rfl ⟨Nat.le_of_ble_eq_true rfl, Nat.le_of_ble_eq_true rfl⟩ ⟨(Nat.le_of_ble_eq_true rfl), (Nat.le_of_ble_eq_true rfl)⟩ (by generalize (gR S17 1008 a0) = z9; cases z9 <;> exact (Nat.le_of_ble_eq_true rfl)) dX10_setCall_73 (fun _ _ hx => hx.elim) (fun r23 S22 h => ?_)
    refine z_widen (k' := 3) (n' := 18) (Nat.le_refl _) (Nat.le_refl _) ?_
    obtain ⟨b24, hb25, h⟩ := h
    rw [show va_rf (gR S17 1008 a0) = Value.ref b24 from by rw [hb25]; rfl]
    obtain ⟨hf28, h⟩ := h
    refine z_callVI (ci := 8) (st := []) (w_X7_dropUnfit h) hf28.1 hf28.2 (Nat.le_of_ble_eq_true rfl) rfl zw_678 zw_675 zw_676 zw_677 zw_39 zy_X7_dropUnfit rfl rfl ⟨Nat.le_of_ble_eq_true rfl, Nat.le_of_ble_eq_true rfl⟩ ⟨(Nat.le_of_ble_eq_true rfl), (Nat.le_of_ble_eq_true rfl)⟩ (Nat.le_of_ble_eq_true rfl) dX10_setCall_76 (fun _ _ hx => hx.elim) (fun r27 S26 h => ?_)
    refine z_widen (k' := 3) (n' := 18) (Nat.le_refl _) (Nat.le_refl _) ?_
    refine z_pop dX10_setCall_79 rfl ?_
    refine z_iload 0 dX10_setCall_80 rfl ?_
    exact z_ireturn ⟨rfl, _, rfl, h⟩ rfl (Nat.le_of_ble_eq_true rfl) (Nat.le_of_ble_eq_true rfl) dX10_setCall_82
  · have h := h.2 c33
    exact z_throw (cls := "java/lang/IllegalArgumentException") (text := "no change of the stage") zw_329 zw_47 zat_117 (by decide +kernel) rfl dX10_setCall_25 dX10_setCall_28 dX10_setCall_29 dX10_setCall_31 dX10_setCall_34 rfl (Nat.le_of_ble_eq_true rfl) (Nat.le_of_ble_eq_true rfl) (Nat.le_of_ble_eq_true rfl) (Nat.le_of_ble_eq_true rfl) ⟨rfl, h⟩
set_option maxRecDepth 20000 in
set_option maxHeartbeats 4000000 in
theorem w_X10_stage {E : zE} {a0 : Nat} {l1 : Int32} {S : zS} {Q : Int32 → zS → Prop} {X : String → zS → Prop} (h : p_X10_stage E a0 l1 S Q X) : zM E yX10_stage cX10_stage 2 (some .int) ({ frames := 8, cells := 1, slots := 6, locals := 124 } : Room) [.ref a0, .int l1] S (qI Q) X := by
  unfold p_X10_stage at h
  refine zM_of RX10 false (by decide) rfl (fun h => by cases h) (Nat.le_of_ble_eq_true rfl) ?_
  refine z_aload_n 0 dX10_stage_0 rfl rfl ?_
  refine z_iload_n 1 dX10_stage_1 rfl rfl ?_
  obtain ⟨hf6, h⟩ := h
  refine z_callVR (ci := 10) (st := []) (w_X10_methodAt h) hf6.1 hf6.2 (Nat.le_of_ble_eq_true rfl) rfl zw_584 zw_581 zw_583 zw_7 zw_30 zy_X10_methodAt rfl rfl ⟨Nat.le_of_ble_eq_true rfl, Nat.le_of_ble_eq_true rfl⟩ ⟨(Nat.le_of_ble_eq_true rfl), (Nat.le_of_ble_eq_true rfl)⟩ (Nat.le_of_ble_eq_true rfl) dX10_stage_2 (fun ex S1 hx => zx_out rfl ⟨rfl, hx⟩ (Nat.le_of_ble_eq_true rfl) (Nat.le_of_ble_eq_true rfl)) (fun r2 S1 h => ?_)
  refine z_widen (k' := 1) (n' := 6) (Nat.le_refl _) (Nat.le_refl _) ?_
  obtain ⟨b3, hb4, h⟩ := h
  rw [show va_rf r2 = Value.ref b3 from by rw [hb4]; rfl]
  obtain ⟨hf5, h⟩ := h
  refine z_getI (c := 5) (j := 1) (f := 501) hf5.1 hf5.2 (Nat.le_of_ble_eq_true rfl) rfl zU_X4 (Nat.le_of_ble_eq_true rfl) (Nat.le_of_ble_eq_true rfl) ⟨_, zw_481, Or.inl rfl⟩ rfl rfl dX10_stage_5 ?_
  exact z_ireturn ⟨rfl, _, rfl, h⟩ rfl (Nat.le_of_ble_eq_true rfl) (Nat.le_of_ble_eq_true rfl) dX10_stage_8
set_option maxRecDepth 20000 in
set_option maxHeartbeats 4000000 in
theorem w_X10_changeAt {E : zE} {a0 : Nat} {l1 : Int32} {l2 : Int32} {l3 : Int32} {S : zS} {Q : Int32 → zS → Prop} {X : String → zS → Prop} (h : p_X10_changeAt E a0 l1 l2 l3 S Q X) : zM E yX10_changeAt cX10_changeAt 5 (some .int) ({ frames := 8, cells := 2, slots := 12, locals := 124 } : Room) [.ref a0, .int l1, .int l2, .int l3] S (qI Q) X := by
  unfold p_X10_changeAt at h
  refine zM_of RX10 false (by decide) rfl (fun h => by cases h) (Nat.le_of_ble_eq_true rfl) ?_
  refine z_aload_n 0 dX10_changeAt_0 rfl rfl ?_
  refine z_iload_n 1 dX10_changeAt_1 rfl rfl ?_
  obtain ⟨hf11, h⟩ := h
  refine z_callVR (ci := 10) (st := []) (w_X10_methodAt h) hf11.1 hf11.2 (Nat.le_of_ble_eq_true rfl) rfl zw_584 zw_581 zw_583 zw_7 zw_30 zy_X10_methodAt rfl rfl ⟨Nat.le_of_ble_eq_true rfl, Nat.le_of_ble_eq_true rfl⟩ ⟨(Nat.le_of_ble_eq_true rfl), (Nat.le_of_ble_eq_true rfl)⟩ (Nat.le_of_ble_eq_true rfl) dX10_changeAt_2 (fun ex S1 hx => zx_out rfl ⟨rfl, hx⟩ (Nat.le_of_ble_eq_true rfl) (Nat.le_of_ble_eq_true rfl)) (fun r2 S1 h => ?_)
  refine z_widen (k' := 1) (n' := 6) (Nat.le_refl _) (Nat.le_refl _) ?_
  refine z_astoreQ (lv' := [(4, va_rf r2), (0, .ref a0), (1, .int l1), (2, .int l2), (3, .int l3)]) dX10_changeAt_5 (Nat.le_of_ble_eq_true rfl) rfl ?_
  refine z_iload_n 4 dX10_changeAt_7 rfl rfl ?_
  refine z_if_ge 21 dX10_changeAt_8 (by decide) (fun c10 => ?_) (fun c10 => ?_)
  · have h := h.1 c10
    refine z_iload_n 3 dX10_changeAt_21 rfl rfl ?_
    refine z_iconst (v := 0) dX10_changeAt_22 rfl ?_
    refine z_iconst (v := 2) dX10_changeAt_23 rfl ?_
    refine z_callSV (st := []) (w_X10_requireRange h) zw_328 zw_326 zw_327 zw_30 zy_X10_requireRange rfl rfl ⟨Nat.le_of_ble_eq_true rfl, Nat.le_of_ble_eq_true rfl⟩ ⟨(Nat.le_of_ble_eq_true rfl), (Nat.le_of_ble_eq_true rfl)⟩ (Nat.le_of_ble_eq_true rfl) dX10_changeAt_24 (fun ex S3 hx => zx_out rfl ⟨rfl, hx⟩ (Nat.le_of_ble_eq_true rfl) (Nat.le_of_ble_eq_true rfl)) (fun S3 h => ?_)
    refine z_widen (k' := 2) (n' := 12) (Nat.le_refl _) (Nat.le_refl _) ?_
    refine z_aloadQ 0 dX10_changeAt_27 rfl ?_
    refine z_iload_n 3 dX10_changeAt_29 rfl rfl ?_
    refine z_iload_n 4 dX10_changeAt_30 rfl rfl ?_
    obtain ⟨b5, hb6, h⟩ := h
    rw [show va_rf r2 = Value.ref b5 from by rw [hb6]; rfl]
    obtain ⟨hf9, h⟩ := h
    refine z_callVI (ci := 5) (st := []) (w_X4_changeOf h) hf9.1 hf9.2 (Nat.le_of_ble_eq_true rfl) rfl zw_635 zw_632 zw_633 zw_634 zw_52 zy_X4_changeOf rfl rfl ⟨Nat.le_of_ble_eq_true rfl, Nat.le_of_ble_eq_true rfl⟩ ⟨(Nat.le_of_ble_eq_true rfl), (Nat.le_of_ble_eq_true rfl)⟩ (Nat.le_of_ble_eq_true rfl) dX10_changeAt_31 (fun _ _ hx => hx.elim) (fun r8 S7 h => ?_)
    refine z_widen (k' := 2) (n' := 12) (Nat.le_refl _) (Nat.le_refl _) ?_
    exact z_ireturn ⟨rfl, _, rfl, h⟩ rfl (Nat.le_of_ble_eq_true rfl) (Nat.le_of_ble_eq_true rfl) dX10_changeAt_34
  · have h := h.2 c10
    exact z_throw (cls := "java/lang/IndexOutOfBoundsException") (text := "there is no such place") zw_588 zw_44 zat_146 (by decide +kernel) rfl dX10_changeAt_11 dX10_changeAt_14 dX10_changeAt_15 dX10_changeAt_17 dX10_changeAt_20 rfl (Nat.le_of_ble_eq_true rfl) (Nat.le_of_ble_eq_true rfl) (Nat.le_of_ble_eq_true rfl) (Nat.le_of_ble_eq_true rfl) ⟨rfl, h⟩
set_option maxRecDepth 20000 in
set_option maxHeartbeats 4000000 in
theorem w_X10_head {E : zE} {a0 : Nat} {l1 : Int32} {l2 : Int32} {S : zS} {Q : Int32 → zS → Prop} {X : String → zS → Prop} (h : p_X10_head E a0 l1 l2 S Q X) : zM E yX10_head cX10_head 4 (some .int) ({ frames := 8, cells := 2, slots := 12, locals := 124 } : Room) [.ref a0, .int l1, .int l2] S (qI Q) X := by
  unfold p_X10_head at h
  refine zM_of RX10 false (by decide) rfl (fun h => by cases h) (Nat.le_of_ble_eq_true rfl) ?_
  refine z_aload_n 0 dX10_head_0 rfl rfl ?_
  refine z_iload_n 1 dX10_head_1 rfl rfl ?_
  obtain ⟨hf16, h⟩ := h
  refine z_callVR (ci := 10) (st := []) (w_X10_methodAt h) hf16.1 hf16.2 (Nat.le_of_ble_eq_true rfl) rfl zw_584 zw_581 zw_583 zw_7 zw_30 zy_X10_methodAt rfl rfl ⟨Nat.le_of_ble_eq_true rfl, Nat.le_of_ble_eq_true rfl⟩ ⟨(Nat.le_of_ble_eq_true rfl), (Nat.le_of_ble_eq_true rfl)⟩ (Nat.le_of_ble_eq_true rfl) dX10_head_2 (fun ex S1 hx => zx_out rfl ⟨rfl, hx⟩ (Nat.le_of_ble_eq_true rfl) (Nat.le_of_ble_eq_true rfl)) (fun r2 S1 h => ?_)
  refine z_widen (k' := 1) (n' := 6) (Nat.le_refl _) (Nat.le_refl _) ?_
  refine z_astore_nQ (lv' := [(3, va_rf r2), (0, .ref a0), (1, .int l1), (2, .int l2)]) dX10_head_5 rfl (Nat.le_of_ble_eq_true rfl) rfl ?_
  refine z_iload_n 3 dX10_head_6 rfl rfl ?_
  refine z_iconst (v := 0) dX10_head_7 rfl ?_
  refine z_iconst (v := 2) dX10_head_8 rfl ?_
  refine z_callSV (st := []) (w_X10_requireRange h) zw_328 zw_326 zw_327 zw_30 zy_X10_requireRange rfl rfl ⟨Nat.le_of_ble_eq_true rfl, Nat.le_of_ble_eq_true rfl⟩ ⟨(Nat.le_of_ble_eq_true rfl), (Nat.le_of_ble_eq_true rfl)⟩ (Nat.le_of_ble_eq_true rfl) dX10_head_9 (fun ex S3 hx => zx_out rfl ⟨rfl, hx⟩ (Nat.le_of_ble_eq_true rfl) (Nat.le_of_ble_eq_true rfl)) (fun S3 h => ?_)
  refine z_widen (k' := 2) (n' := 12) (Nat.le_refl _) (Nat.le_refl _) ?_
  refine z_aload_nQ 0 dX10_head_12 rfl rfl ?_
  refine z_aload_nQ 0 dX10_head_13 rfl rfl ?_
  obtain ⟨b5, hb6, h⟩ := h
  rw [show va_rf r2 = Value.ref b5 from by rw [hb6]; rfl]
  obtain ⟨hf7, h⟩ := h
  refine z_getI (c := 5) (j := 1) (f := 501) hf7.1 hf7.2 (Nat.le_of_ble_eq_true rfl) rfl zU_X4 (Nat.le_of_ble_eq_true rfl) (Nat.le_of_ble_eq_true rfl) ⟨_, zw_481, Or.inl rfl⟩ rfl rfl dX10_head_14 ?_
  refine z_callSI (st := [.ref b5]) (w_X8_rounds h) zw_447 zw_1167 zw_446 zw_48 zy_X8_rounds rfl rfl ⟨Nat.le_of_ble_eq_true rfl, Nat.le_of_ble_eq_true rfl⟩ ⟨(Nat.le_of_ble_eq_true rfl), (Nat.le_of_ble_eq_true rfl)⟩ (Nat.le_of_ble_eq_true rfl) dX10_head_17 (fun _ _ hx => hx.elim) (fun r9 S8 h => ?_)
  refine z_widen (k' := 2) (n' := 12) (Nat.le_refl _) (Nat.le_refl _) ?_
  refine z_iload_n 3 dX10_head_20 rfl rfl ?_
  obtain ⟨hf15, h⟩ := h
  refine z_callVI (ci := 5) (st := []) (w_X4_lastRow h) hf15.1 hf15.2 (Nat.le_of_ble_eq_true rfl) rfl zw_1171 zw_1168 zw_1169 zw_1170 zw_52 zy_X4_lastRow rfl rfl ⟨Nat.le_of_ble_eq_true rfl, Nat.le_of_ble_eq_true rfl⟩ ⟨(Nat.le_of_ble_eq_true rfl), (Nat.le_of_ble_eq_true rfl)⟩ (Nat.le_of_ble_eq_true rfl) dX10_head_21 (fun _ _ hx => hx.elim) (fun r11 S10 h => ?_)
  refine z_widen (k' := 2) (n' := 12) (Nat.le_refl _) (Nat.le_refl _) ?_
  refine z_aload_n 0 dX10_head_24 rfl rfl ?_
  obtain ⟨hf12, h⟩ := h
  refine z_getI (c := 5) (j := 1) (f := 501) hf12.1 hf12.2 (Nat.le_of_ble_eq_true rfl) rfl zU_X4 (Nat.le_of_ble_eq_true rfl) (Nat.le_of_ble_eq_true rfl) ⟨_, zw_481, Or.inl rfl⟩ rfl rfl dX10_head_25 ?_
  refine z_callSI (st := []) (w_X8_number h) zw_462 zw_1173 zw_461 zw_48 zy_X8_number rfl rfl ⟨Nat.le_of_ble_eq_true rfl, Nat.le_of_ble_eq_true rfl⟩ ⟨(Nat.le_of_ble_eq_true rfl), (Nat.le_of_ble_eq_true rfl)⟩ (Nat.le_of_ble_eq_true rfl) dX10_head_28 (fun _ _ hx => hx.elim) (fun r14 S13 h => ?_)
  refine z_widen (k' := 2) (n' := 12) (Nat.le_refl _) (Nat.le_refl _) ?_
  exact z_ireturn ⟨rfl, _, rfl, h⟩ rfl (Nat.le_of_ble_eq_true rfl) (Nat.le_of_ble_eq_true rfl) dX10_head_31
set_option maxRecDepth 20000 in
set_option maxHeartbeats 4000000 in
theorem w_X10_course {E : zE} {a0 : Nat} {l1 : Int32} {S : zS} {Q : Int32 → zS → Prop} {X : String → zS → Prop} (h : p_X10_course E a0 l1 S Q X) : zM E yX10_course cX10_course 2 (some .int) ({ frames := 8, cells := 1, slots := 6, locals := 124 } : Room) [.ref a0, .int l1] S (qI Q) X := by
  unfold p_X10_course at h
  refine zM_of RX10 false (by decide) rfl (fun h => by cases h) (Nat.le_of_ble_eq_true rfl) ?_
  refine z_aload_n 0 dX10_course_0 rfl rfl ?_
  refine z_iload_n 1 dX10_course_1 rfl rfl ?_
  obtain ⟨hf8, h⟩ := h
  refine z_callVR (ci := 10) (st := []) (w_X10_methodAt h) hf8.1 hf8.2 (Nat.le_of_ble_eq_true rfl) rfl zw_584 zw_581 zw_583 zw_7 zw_30 zy_X10_methodAt rfl rfl ⟨Nat.le_of_ble_eq_true rfl, Nat.le_of_ble_eq_true rfl⟩ ⟨(Nat.le_of_ble_eq_true rfl), (Nat.le_of_ble_eq_true rfl)⟩ (Nat.le_of_ble_eq_true rfl) dX10_course_2 (fun ex S1 hx => zx_out rfl ⟨rfl, hx⟩ (Nat.le_of_ble_eq_true rfl) (Nat.le_of_ble_eq_true rfl)) (fun r2 S1 h => ?_)
  refine z_widen (k' := 1) (n' := 6) (Nat.le_refl _) (Nat.le_refl _) ?_
  obtain ⟨b3, hb4, h⟩ := h
  rw [show va_rf r2 = Value.ref b3 from by rw [hb4]; rfl]
  obtain ⟨hf7, h⟩ := h
  refine z_callVI (ci := 5) (st := []) (w_X4_leadsToRounds h) hf7.1 hf7.2 (Nat.le_of_ble_eq_true rfl) rfl zw_1187 zw_1184 zw_1185 zw_1186 zw_52 zy_X4_leadsToRounds rfl rfl ⟨Nat.le_of_ble_eq_true rfl, Nat.le_of_ble_eq_true rfl⟩ ⟨(Nat.le_of_ble_eq_true rfl), (Nat.le_of_ble_eq_true rfl)⟩ (Nat.le_of_ble_eq_true rfl) dX10_course_5 (fun _ _ hx => hx.elim) (fun r6 S5 h => ?_)
  refine z_widen (k' := 1) (n' := 6) (Nat.le_refl _) (Nat.le_refl _) ?_
  exact z_ireturn ⟨rfl, _, rfl, h⟩ rfl (Nat.le_of_ble_eq_true rfl) (Nat.le_of_ble_eq_true rfl) dX10_course_8
set_option maxRecDepth 20000 in
set_option maxHeartbeats 4000000 in
theorem w_X10_isFalse {E : zE} {a0 : Nat} {l1 : Int32} {l2 : Int32} {S : zS} {Q : Int32 → zS → Prop} {X : String → zS → Prop} (h : p_X10_isFalse E a0 l1 l2 S Q X) : zM E yX10_isFalse cX10_isFalse 4 (some .boolean) ({ frames := 8, cells := 2, slots := 12, locals := 124 } : Room) [.ref a0, .int l1, .int l2] S (qI Q) X := by
  unfold p_X10_isFalse at h
  refine zM_of RX10 false (by decide) rfl (fun h => by cases h) (Nat.le_of_ble_eq_true rfl) ?_
  refine z_aload_n 0 dX10_isFalse_0 rfl rfl ?_
  refine z_iload_n 1 dX10_isFalse_1 rfl rfl ?_
  obtain ⟨hf14, h⟩ := h
  refine z_callVR (ci := 10) (st := []) (w_X10_methodAt h) hf14.1 hf14.2 (Nat.le_of_ble_eq_true rfl) rfl zw_584 zw_581 zw_583 zw_7 zw_30 zy_X10_methodAt rfl rfl ⟨Nat.le_of_ble_eq_true rfl, Nat.le_of_ble_eq_true rfl⟩ ⟨(Nat.le_of_ble_eq_true rfl), (Nat.le_of_ble_eq_true rfl)⟩ (Nat.le_of_ble_eq_true rfl) dX10_isFalse_2 (fun ex S1 hx => zx_out rfl ⟨rfl, hx⟩ (Nat.le_of_ble_eq_true rfl) (Nat.le_of_ble_eq_true rfl)) (fun r2 S1 h => ?_)
  refine z_widen (k' := 1) (n' := 6) (Nat.le_refl _) (Nat.le_refl _) ?_
  refine z_astore_nQ (lv' := [(3, va_rf r2), (0, .ref a0), (1, .int l1), (2, .int l2)]) dX10_isFalse_5 rfl (Nat.le_of_ble_eq_true rfl) rfl ?_
  refine z_iload_n 3 dX10_isFalse_6 rfl rfl ?_
  refine z_aload_nQ 0 dX10_isFalse_7 rfl rfl ?_
  obtain ⟨b3, hb4, h⟩ := h
  rw [show va_rf r2 = Value.ref b3 from by rw [hb4]; rfl]
  obtain ⟨hf5, h⟩ := h
  refine z_getI (c := 5) (j := 1) (f := 501) hf5.1 hf5.2 (Nat.le_of_ble_eq_true rfl) rfl zU_X4 (Nat.le_of_ble_eq_true rfl) (Nat.le_of_ble_eq_true rfl) ⟨_, zw_481, Or.inl rfl⟩ rfl rfl dX10_isFalse_8 ?_
  refine z_callSI (st := [.int l2]) (w_X8_count h) zw_1198 zw_1196 zw_1197 zw_48 zy_X8_count rfl rfl ⟨Nat.le_of_ble_eq_true rfl, Nat.le_of_ble_eq_true rfl⟩ ⟨(Nat.le_of_ble_eq_true rfl), (Nat.le_of_ble_eq_true rfl)⟩ (Nat.le_of_ble_eq_true rfl) dX10_isFalse_11 (fun _ _ hx => hx.elim) (fun r7 S6 h => ?_)
  refine z_widen (k' := 1) (n' := 6) (Nat.le_refl _) (Nat.le_refl _) ?_
  refine z_callSV (st := []) (w_X10_requireIndex h) zw_587 zw_585 zw_586 zw_30 zy_X10_requireIndex rfl rfl ⟨Nat.le_of_ble_eq_true rfl, Nat.le_of_ble_eq_true rfl⟩ ⟨(Nat.le_of_ble_eq_true rfl), (Nat.le_of_ble_eq_true rfl)⟩ (Nat.le_of_ble_eq_true rfl) dX10_isFalse_14 (fun ex S8 hx => zx_out rfl ⟨rfl, hx⟩ (Nat.le_of_ble_eq_true rfl) (Nat.le_of_ble_eq_true rfl)) (fun S8 h => ?_)
  refine z_widen (k' := 2) (n' := 12) (Nat.le_refl _) (Nat.le_refl _) ?_
  refine z_aload_n 0 dX10_isFalse_17 rfl rfl ?_
  refine z_iload_n 3 dX10_isFalse_18 rfl rfl ?_
  obtain ⟨hf13, h⟩ := h
  refine z_callVI (ci := 5) (st := []) (w_X4_hasFalse h) hf13.1 hf13.2 (Nat.le_of_ble_eq_true rfl) rfl zw_476 zw_1199 zw_474 zw_475 zw_52 zy_X4_hasFalse rfl rfl ⟨Nat.le_of_ble_eq_true rfl, Nat.le_of_ble_eq_true rfl⟩ ⟨(Nat.le_of_ble_eq_true rfl), (Nat.le_of_ble_eq_true rfl)⟩ (Nat.le_of_ble_eq_true rfl) dX10_isFalse_19 (fun _ _ hx => hx.elim) (fun r11 S10 h => ?_)
  refine z_widen (k' := 2) (n' := 12) (Nat.le_refl _) (Nat.le_refl _) ?_
  obtain ⟨hz12, h⟩ := h
  exact z_zreturn ⟨rfl, _, rfl, h⟩ rfl (zbn hz12) (Nat.le_of_ble_eq_true rfl) (Nat.le_of_ble_eq_true rfl) dX10_isFalse_22
set_option maxRecDepth 20000 in
set_option maxHeartbeats 4000000 in
theorem w_X10_falseRows {E : zE} {a0 : Nat} {l1 : Int32} {S : zS} {Q : Int32 → zS → Prop} {X : String → zS → Prop} (h : p_X10_falseRows E a0 l1 S Q X) : zM E yX10_falseRows cX10_falseRows 2 (some .int) ({ frames := 8, cells := 1, slots := 6, locals := 124 } : Room) [.ref a0, .int l1] S (qI Q) X := by
  unfold p_X10_falseRows at h
  refine zM_of RX10 false (by decide) rfl (fun h => by cases h) (Nat.le_of_ble_eq_true rfl) ?_
  refine z_aload_n 0 dX10_falseRows_0 rfl rfl ?_
  refine z_iload_n 1 dX10_falseRows_1 rfl rfl ?_
  obtain ⟨hf6, h⟩ := h
  refine z_callVR (ci := 10) (st := []) (w_X10_methodAt h) hf6.1 hf6.2 (Nat.le_of_ble_eq_true rfl) rfl zw_584 zw_581 zw_583 zw_7 zw_30 zy_X10_methodAt rfl rfl ⟨Nat.le_of_ble_eq_true rfl, Nat.le_of_ble_eq_true rfl⟩ ⟨(Nat.le_of_ble_eq_true rfl), (Nat.le_of_ble_eq_true rfl)⟩ (Nat.le_of_ble_eq_true rfl) dX10_falseRows_2 (fun ex S1 hx => zx_out rfl ⟨rfl, hx⟩ (Nat.le_of_ble_eq_true rfl) (Nat.le_of_ble_eq_true rfl)) (fun r2 S1 h => ?_)
  refine z_widen (k' := 1) (n' := 6) (Nat.le_refl _) (Nat.le_refl _) ?_
  obtain ⟨b3, hb4, h⟩ := h
  rw [show va_rf r2 = Value.ref b3 from by rw [hb4]; rfl]
  obtain ⟨hf5, h⟩ := h
  refine z_getI (c := 5) (j := 3) (f := 503) hf5.1 hf5.2 (Nat.le_of_ble_eq_true rfl) rfl zU_X4 (Nat.le_of_ble_eq_true rfl) (Nat.le_of_ble_eq_true rfl) ⟨_, zw_486, Or.inl rfl⟩ rfl rfl dX10_falseRows_5 ?_
  exact z_ireturn ⟨rfl, _, rfl, h⟩ rfl (Nat.le_of_ble_eq_true rfl) (Nat.le_of_ble_eq_true rfl) dX10_falseRows_8
set_option maxRecDepth 20000 in
set_option maxHeartbeats 4000000 in
theorem w_X10_lead {E : zE} {a0 : Nat} {l1 : Int32} {l2 : Int32} {S : zS} {Q : Int32 → zS → Prop} {X : String → zS → Prop} (h : p_X10_lead E a0 l1 l2 S Q X) : zM E yX10_lead cX10_lead 4 (some .int) ({ frames := 8, cells := 3, slots := 34, locals := 193 } : Room) [.ref a0, .int l1, .int l2] S (qI Q) X := by
  unfold p_X10_lead at h
  refine zM_of RX10 false (by decide) rfl (fun h => by cases h) (Nat.le_of_ble_eq_true rfl) ?_
  refine z_aload_n 0 dX10_lead_0 rfl rfl ?_
  refine z_iload_n 1 dX10_lead_1 rfl rfl ?_
  obtain ⟨hf26, h⟩ := h
  refine z_callVR (ci := 10) (st := []) (w_X10_methodAt h) hf26.1 hf26.2 (Nat.le_of_ble_eq_true rfl) rfl zw_584 zw_581 zw_583 zw_7 zw_30 zy_X10_methodAt rfl rfl ⟨Nat.le_of_ble_eq_true rfl, Nat.le_of_ble_eq_true rfl⟩ ⟨(Nat.le_of_ble_eq_true rfl), (Nat.le_of_ble_eq_true rfl)⟩ (Nat.le_of_ble_eq_true rfl) dX10_lead_2 (fun ex S1 hx => zx_out rfl ⟨rfl, hx⟩ (Nat.le_of_ble_eq_true rfl) (Nat.le_of_ble_eq_true rfl)) (fun r2 S1 h => ?_)
  refine z_widen (k' := 1) (n' := 6) (Nat.le_refl _) (Nat.le_refl _) ?_
  refine z_astore_nQ (lv' := [(3, va_rf r2), (0, .ref a0), (1, .int l1), (2, .int l2)]) dX10_lead_5 rfl (Nat.le_of_ble_eq_true rfl) rfl ?_
  refine z_iload_n 3 dX10_lead_6 rfl rfl ?_
  refine z_iconst (v := 0) dX10_lead_7 rfl ?_
  refine z_iconst (v := 2) dX10_lead_8 rfl ?_
  refine z_callSV (st := []) (w_X10_requireRange h) zw_328 zw_326 zw_327 zw_30 zy_X10_requireRange rfl rfl ⟨Nat.le_of_ble_eq_true rfl, Nat.le_of_ble_eq_true rfl⟩ ⟨(Nat.le_of_ble_eq_true rfl), (Nat.le_of_ble_eq_true rfl)⟩ (Nat.le_of_ble_eq_true rfl) dX10_lead_9 (fun ex S3 hx => zx_out rfl ⟨rfl, hx⟩ (Nat.le_of_ble_eq_true rfl) (Nat.le_of_ble_eq_true rfl)) (fun S3 h => ?_)
  refine z_widen (k' := 2) (n' := 12) (Nat.le_refl _) (Nat.le_refl _) ?_
  refine z_aload_n 1 dX10_lead_12 rfl rfl ?_
  obtain ⟨hf5, h⟩ := h
  refine z_getQ (c := 10) (j := 6) (f := 1006) hf5.1 hf5.2 (Nat.le_of_ble_eq_true rfl) rfl zU_X10 (Nat.le_of_ble_eq_true rfl) (Nat.le_of_ble_eq_true rfl) ⟨_, zw_270, Or.inl rfl⟩ rfl rfl dX10_lead_13 ?_
  refine z_aload_nQ 0 dX10_lead_16 rfl rfl ?_
  obtain ⟨b6, hb7, h⟩ := h
  rw [show va_rf (gR S3 1006 a0) = Value.ref b6 from by rw [hb7]; rfl]
  obtain ⟨b8, hb9, h⟩ := h
  rw [show va_rf r2 = Value.ref b8 from by rw [hb9]; rfl]
  obtain ⟨hf25, h⟩ := h
  refine z_callVI (ci := 9) (st := []) (w_X9_takesLead h) hf25.1 hf25.2 (Nat.le_of_ble_eq_true rfl) rfl zw_713 zw_710 zw_711 zw_712 zw_36 zy_X9_takesLead rfl rfl ⟨Nat.le_of_ble_eq_true rfl, Nat.le_of_ble_eq_true rfl⟩ ⟨(Nat.le_of_ble_eq_true rfl), (Nat.le_of_ble_eq_true rfl)⟩ (Nat.le_of_ble_eq_true rfl) dX10_lead_17 (fun _ _ hx => hx.elim) (fun r11 S10 h => ?_)
  refine z_widen (k' := 2) (n' := 12) (Nat.le_refl _) (Nat.le_refl _) ?_
  refine z_if_ne 33 dX10_lead_20 (by decide) (fun c24 => ?_) (fun c24 => ?_)
  · have h := h.1 c24
    refine z_aload_n 1 dX10_lead_33 rfl rfl ?_
    obtain ⟨hf12, h⟩ := h
    refine z_getQ (c := 10) (j := 6) (f := 1006) hf12.1 hf12.2 (Nat.le_of_ble_eq_true rfl) rfl zU_X10 (Nat.le_of_ble_eq_true rfl) (Nat.le_of_ble_eq_true rfl) ⟨_, zw_270, Or.inl rfl⟩ rfl rfl dX10_lead_34 ?_
    refine z_aload_n 0 dX10_lead_37 rfl rfl ?_
    refine z_iload_n 3 dX10_lead_38 rfl rfl ?_
    obtain ⟨b13, hb14, h⟩ := h
    rw [show va_rf (gR S10 1006 a0) = Value.ref b13 from by rw [hb14]; rfl]
    obtain ⟨hf23, h⟩ := h
    refine z_callVV (ci := 9) (st := []) (w_X9_addLead h) hf23.1 hf23.2 (Nat.le_of_ble_eq_true rfl) rfl zw_722 zw_719 zw_720 zw_721 zw_36 zy_X9_addLead rfl rfl ⟨Nat.le_of_ble_eq_true rfl, Nat.le_of_ble_eq_true rfl⟩ ⟨(Nat.le_of_ble_eq_true rfl), (Nat.le_of_ble_eq_true rfl)⟩ (Nat.le_of_ble_eq_true rfl) dX10_lead_39 (fun _ _ hx => hx.elim) (fun S15 h => ?_)
    refine z_widen (k' := 3) (n' := 34) (Nat.le_refl _) (Nat.le_refl _) ?_
    refine z_aload_n 1 dX10_lead_42 rfl rfl ?_
    obtain ⟨hf17, h⟩ := h
    refine z_getQ (c := 10) (j := 6) (f := 1006) hf17.1 hf17.2 (Nat.le_of_ble_eq_true rfl) rfl zU_X10 (Nat.le_of_ble_eq_true rfl) (Nat.le_of_ble_eq_true rfl) ⟨_, zw_270, Or.inl rfl⟩ rfl rfl dX10_lead_43 ?_
    obtain ⟨b18, hb19, h⟩ := h
    rw [show va_rf (gR S15 1006 a0) = Value.ref b18 from by rw [hb19]; rfl]
    obtain ⟨hf22, h⟩ := h
    refine z_callVI (ci := 9) (st := []) (w_X9_leadCount h) hf22.1 hf22.2 (Nat.le_of_ble_eq_true rfl) rfl zw_727 zw_724 zw_725 zw_726 zw_36 zy_X9_leadCount rfl rfl ⟨Nat.le_of_ble_eq_true rfl, Nat.le_of_ble_eq_true rfl⟩ ⟨(Nat.le_of_ble_eq_true rfl), (Nat.le_of_ble_eq_true rfl)⟩ (Nat.le_of_ble_eq_true rfl) dX10_lead_46 (fun _ _ hx => hx.elim) (fun r21 S20 h => ?_)
    refine z_widen (k' := 3) (n' := 34) (Nat.le_refl _) (Nat.le_refl _) ?_
    exact z_ireturn ⟨rfl, _, rfl, h⟩ rfl (Nat.le_of_ble_eq_true rfl) (Nat.le_of_ble_eq_true rfl) dX10_lead_49
  · have h := h.2 c24
    exact z_throw (cls := "java/lang/IllegalStateException") (text := "the draft of a touch does not take this lead") zw_397 zw_51 zat_78 (by decide +kernel) rfl dX10_lead_23 dX10_lead_26 dX10_lead_27 dX10_lead_29 dX10_lead_32 rfl (Nat.le_of_ble_eq_true rfl) (Nat.le_of_ble_eq_true rfl) (Nat.le_of_ble_eq_true rfl) (Nat.le_of_ble_eq_true rfl) ⟨rfl, h⟩
set_option maxRecDepth 20000 in
set_option maxHeartbeats 4000000 in
theorem w_X10_dropLeads {E : zE} {a0 : Nat} {S : zS} {Q : Int32 → zS → Prop} {X : String → zS → Prop} (h : p_X10_dropLeads E a0 S Q X) : zM E yX10_dropLeads cX10_dropLeads 2 (some .int) ({ frames := 2, cells := 0, slots := 0, locals := 43 } : Room) [.ref a0] S (qI Q) X := by
  unfold p_X10_dropLeads at h
  refine zM_of RX10 false (by decide) rfl (fun h => by cases h) (Nat.le_of_ble_eq_true rfl) ?_
  refine z_aload_n 0 dX10_dropLeads_0 rfl rfl ?_
  obtain ⟨hf1, h⟩ := h
  refine z_getQ (c := 10) (j := 6) (f := 1006) hf1.1 hf1.2 (Nat.le_of_ble_eq_true rfl) rfl zU_X10 (Nat.le_of_ble_eq_true rfl) (Nat.le_of_ble_eq_true rfl) ⟨_, zw_270, Or.inl rfl⟩ rfl rfl dX10_dropLeads_1 ?_
  obtain ⟨b2, hb3, h⟩ := h
  rw [show va_rf (gR S 1006 a0) = Value.ref b2 from by rw [hb3]; rfl]
  obtain ⟨hf12, h⟩ := h
  refine z_callVI (ci := 9) (st := []) (w_X9_leadCount h) hf12.1 hf12.2 (Nat.le_of_ble_eq_true rfl) rfl zw_727 zw_724 zw_725 zw_726 zw_36 zy_X9_leadCount rfl rfl ⟨Nat.le_of_ble_eq_true rfl, Nat.le_of_ble_eq_true rfl⟩ ⟨(Nat.le_of_ble_eq_true rfl), (Nat.le_of_ble_eq_true rfl)⟩ (Nat.le_of_ble_eq_true rfl) dX10_dropLeads_4 (fun _ _ hx => hx.elim) (fun r5 S4 h => ?_)
  refine z_widen (k' := 0) (n' := 0) (Nat.le_refl _) (Nat.le_refl _) ?_
  refine z_istore_n (lv' := [(1, .int r5), (0, .ref a0)]) dX10_dropLeads_7 rfl (Nat.le_of_ble_eq_true rfl) rfl ?_
  refine z_aload_n 1 dX10_dropLeads_8 rfl rfl ?_
  obtain ⟨hf6, h⟩ := h
  refine z_getQ (c := 10) (j := 6) (f := 1006) hf6.1 hf6.2 (Nat.le_of_ble_eq_true rfl) rfl zU_X10 (Nat.le_of_ble_eq_true rfl) (Nat.le_of_ble_eq_true rfl) ⟨_, zw_270, Or.inl rfl⟩ rfl rfl dX10_dropLeads_9 ?_
  obtain ⟨b7, hb8, h⟩ := h
  rw [show va_rf (gR S4 1006 a0) = Value.ref b7 from by rw [hb8]; rfl]
  obtain ⟨hf11, h⟩ := h
  refine z_callVV (ci := 9) (st := []) (w_X9_clear h) hf11.1 hf11.2 (Nat.le_of_ble_eq_true rfl) rfl zw_747 zw_837 zw_745 zw_746 zw_36 zy_X9_clear rfl rfl ⟨Nat.le_of_ble_eq_true rfl, Nat.le_of_ble_eq_true rfl⟩ ⟨(Nat.le_of_ble_eq_true rfl), (Nat.le_of_ble_eq_true rfl)⟩ (Nat.le_of_ble_eq_true rfl) dX10_dropLeads_12 (fun _ _ hx => hx.elim) (fun S9 h => ?_)
  refine z_widen (k' := 0) (n' := 0) (Nat.le_refl _) (Nat.le_refl _) ?_
  refine z_iload_n 0 dX10_dropLeads_15 rfl rfl ?_
  exact z_ireturn ⟨rfl, _, rfl, h⟩ rfl (Nat.le_of_ble_eq_true rfl) (Nat.le_of_ble_eq_true rfl) dX10_dropLeads_16
set_option maxRecDepth 20000 in
set_option maxHeartbeats 4000000 in
theorem w_X10_requireRoomForTouch {E : zE} {a0 : Nat} {S : zS} {Q : zS → Prop} {X : String → zS → Prop} (h : p_X10_requireRoomForTouch E a0 S Q X) : zM E yX10_requireRoomForTouch cX10_requireRoomForTouch 1 none ({ frames := 6, cells := 1, slots := 6, locals := 82 } : Room) [.ref a0] S (qV Q) X := by
  unfold p_X10_requireRoomForTouch at h
  refine zM_of RX10 false (by decide) rfl (fun h => by cases h) (Nat.le_of_ble_eq_true rfl) ?_
  refine z_aload_n 0 dX10_requireRoomForTouch_0 rfl rfl ?_
  obtain ⟨hf1, h⟩ := h
  refine z_getQ (c := 10) (j := 3) (f := 1003) hf1.1 hf1.2 (Nat.le_of_ble_eq_true rfl) rfl zU_X10 (Nat.le_of_ble_eq_true rfl) (Nat.le_of_ble_eq_true rfl) ⟨_, zw_267, Or.inl rfl⟩ rfl rfl dX10_requireRoomForTouch_1 ?_
  obtain ⟨b2, hb3, h⟩ := h
  rw [show va_rf (gR S 1003 a0) = Value.ref b2 from by rw [hb3]; rfl]
  obtain ⟨hf7, h⟩ := h
  refine z_callVI (ci := 0) (st := []) (w_Jx4a65c_size_8abf5 h) hf7.1 hf7.2 (Nat.le_of_ble_eq_true rfl) rfl zw_423 zw_420 zw_421 zw_422 zw_33 zy_Jx4a65c_size_8abf5 rfl rfl ⟨Nat.le_of_ble_eq_true rfl, Nat.le_of_ble_eq_true rfl⟩ ⟨(Nat.le_of_ble_eq_true rfl), (Nat.le_of_ble_eq_true rfl)⟩ (Nat.le_of_ble_eq_true rfl) dX10_requireRoomForTouch_4 (fun _ _ hx => hx.elim) (fun r5 S4 h => ?_)
  refine z_widen (k' := 0) (n' := 0) (Nat.le_refl _) (Nat.le_refl _) ?_
  refine z_bipush (v := 12) dX10_requireRoomForTouch_7 rfl ?_
  refine z_icmp_lt 23 dX10_requireRoomForTouch_9 (by decide) (fun c6 => ?_) (fun c6 => ?_)
  · have h := h.1 c6
    exact z_return ⟨rfl, rfl, h⟩ rfl (Nat.le_of_ble_eq_true rfl) (Nat.le_of_ble_eq_true rfl) dX10_requireRoomForTouch_23
  · have h := h.2 c6
    exact z_throwW (cls := "java/lang/IllegalStateException") (text := "there are as many touches as can be") zw_397 zw_51 zat_78 (by decide +kernel) rfl dX10_requireRoomForTouch_12 dX10_requireRoomForTouch_15 dX10_requireRoomForTouch_16 dX10_requireRoomForTouch_19 dX10_requireRoomForTouch_22 rfl (Nat.le_of_ble_eq_true rfl) (Nat.le_of_ble_eq_true rfl) (Nat.le_of_ble_eq_true rfl) (Nat.le_of_ble_eq_true rfl) ⟨rfl, h⟩
set_option maxRecDepth 20000 in
set_option maxHeartbeats 4000000 in
theorem w_X10_keepTouch {E : zE} {a0 : Nat} {a1 : Nat} {S : zS} {Q : Int32 → zS → Prop} {X : String → zS → Prop} (h : p_X10_keepTouch E a0 a1 S Q X) : zM E yX10_keepTouch cX10_keepTouch 2 (some .int) ({ frames := 7, cells := 1, slots := 22, locals := 171 } : Room) [.ref a0, .ref a1] S (qI Q) X := by
  unfold p_X10_keepTouch at h
  refine zM_of RX10 false (by decide) rfl (fun h => by cases h) (Nat.le_of_ble_eq_true rfl) ?_
  refine z_aload_n 1 dX10_keepTouch_0 rfl rfl ?_
  refine z_aload_n 0 dX10_keepTouch_1 rfl rfl ?_
  obtain ⟨hf1, h⟩ := h
  refine z_getQ (c := 10) (j := 3) (f := 1003) hf1.1 hf1.2 (Nat.le_of_ble_eq_true rfl) rfl zU_X10 (Nat.le_of_ble_eq_true rfl) (Nat.le_of_ble_eq_true rfl) ⟨_, zw_267, Or.inl rfl⟩ rfl rfl dX10_keepTouch_2 ?_
  obtain ⟨b2, hb3, h⟩ := h
  rw [show va_rf (gR S 1003 a0) = Value.ref b2 from by rw [hb3]; rfl]
  obtain ⟨hf16, h⟩ := h
  refine z_callVI (ci := 0) (st := [.ref a1]) (w_Jx4a65c_size_8abf5 h) hf16.1 hf16.2 (Nat.le_of_ble_eq_true rfl) rfl zw_423 zw_420 zw_421 zw_422 zw_33 zy_Jx4a65c_size_8abf5 rfl rfl ⟨Nat.le_of_ble_eq_true rfl, Nat.le_of_ble_eq_true rfl⟩ ⟨(Nat.le_of_ble_eq_true rfl), (Nat.le_of_ble_eq_true rfl)⟩ (Nat.le_of_ble_eq_true rfl) dX10_keepTouch_5 (fun _ _ hx => hx.elim) (fun r5 S4 h => ?_)
  refine z_widen (k' := 0) (n' := 0) (Nat.le_refl _) (Nat.le_refl _) ?_
  obtain ⟨hf6, h⟩ := h
  have h := h _ rfl
  refine z_putV (c := 9) (j := 0) (ty0 := tyX9) (S' := sI S4 900 a1 r5) hf6.1 hf6.2 (Nat.le_of_ble_eq_true rfl) rfl zU_X9 tyX9_ok nmX9 (Nat.le_of_ble_eq_true rfl) (Nat.le_of_ble_eq_true rfl) ⟨_, zw_117, Or.inl rfl⟩ (.inl rfl) rfl rfl rfl (zUpI (v := r5) hf6.2 (Nat.le_of_ble_eq_true rfl) (Nat.le_of_ble_eq_true rfl) rfl rfl) dX10_keepTouch_8 ?_
  obtain ⟨S7, hS8⟩ : ∃ z, z = sI S4 900 a1 r5 := ⟨_, rfl⟩
  rw [← hS8] at h ⊢
  have hf6 : a1 ∈ gL S7 ∧ gK S7 a1 = 9 := by rw [hS8]; exact hf6
  refine z_aload_n 0 dX10_keepTouch_11 rfl rfl ?_
  obtain ⟨hf9, h⟩ := h
  refine z_getQ (c := 10) (j := 3) (f := 1003) hf9.1 hf9.2 (Nat.le_of_ble_eq_true rfl) rfl zU_X10 (Nat.le_of_ble_eq_true rfl) (Nat.le_of_ble_eq_true rfl) ⟨_, zw_267, Or.inl rfl⟩ rfl rfl dX10_keepTouch_12 ?_
  refine z_aload_n 1 dX10_keepTouch_15 rfl rfl ?_
  obtain ⟨b10, hb11, h⟩ := h
  rw [show va_rf (gR S7 1003 a0) = Value.ref b10 from by rw [hb11]; rfl]
  obtain ⟨hf15, h⟩ := h
  refine z_callVI (ci := 0) (st := []) (w_Jx4a65c_add_9ea2d h) hf15.1 hf15.2 (Nat.le_of_ble_eq_true rfl) rfl zw_508 zw_505 zw_506 zw_507 zw_33 zy_Jx4a65c_add_9ea2d rfl rfl ⟨Nat.le_of_ble_eq_true rfl, Nat.le_of_ble_eq_true rfl⟩ ⟨(Nat.le_of_ble_eq_true rfl), (Nat.le_of_ble_eq_true rfl)⟩ (Nat.le_of_ble_eq_true rfl) dX10_keepTouch_16 (fun _ _ hx => hx.elim) (fun r13 S12 h => ?_)
  refine z_widen (k' := 1) (n' := 22) (Nat.le_refl _) (Nat.le_refl _) ?_
  refine z_pop dX10_keepTouch_19 rfl ?_
  refine z_aload_n 1 dX10_keepTouch_20 rfl rfl ?_
  obtain ⟨hf14, h⟩ := h
  refine z_getI (c := 9) (j := 0) (f := 900) hf14.1 hf14.2 (Nat.le_of_ble_eq_true rfl) rfl zU_X9 (Nat.le_of_ble_eq_true rfl) (Nat.le_of_ble_eq_true rfl) ⟨_, zw_117, Or.inl rfl⟩ rfl rfl dX10_keepTouch_21 ?_
  exact z_ireturn ⟨rfl, _, rfl, h⟩ rfl (Nat.le_of_ble_eq_true rfl) (Nat.le_of_ble_eq_true rfl) dX10_keepTouch_24
set_option maxRecDepth 20000 in
set_option maxHeartbeats 4000000 in
theorem w_X10_touch {E : zE} {a0 : Nat} {S : zS} {Q : Int32 → zS → Prop} {X : String → zS → Prop} (h : p_X10_touch E a0 S Q X) : zM E yX10_touch cX10_touch 2 (some .int) ({ frames := 8, cells := 6, slots := 300, locals := 192 } : Room) [.ref a0] S (qI Q) X := by
  unfold p_X10_touch at h
  refine zM_of RX10 false (by decide) rfl (fun h => by cases h) (Nat.le_of_ble_eq_true rfl) ?_
  refine z_aload_n 0 dX10_touch_0 rfl rfl ?_
  obtain ⟨hf1, h⟩ := h
  refine z_getQ (c := 10) (j := 6) (f := 1006) hf1.1 hf1.2 (Nat.le_of_ble_eq_true rfl) rfl zU_X10 (Nat.le_of_ble_eq_true rfl) (Nat.le_of_ble_eq_true rfl) ⟨_, zw_270, Or.inl rfl⟩ rfl rfl dX10_touch_1 ?_
  obtain ⟨b2, hb3, h⟩ := h
  rw [show va_rf (gR S 1006 a0) = Value.ref b2 from by rw [hb3]; rfl]
  obtain ⟨hf32, h⟩ := h
  refine z_callVI (ci := 9) (st := []) (w_X9_leadCount h) hf32.1 hf32.2 (Nat.le_of_ble_eq_true rfl) rfl zw_727 zw_724 zw_725 zw_726 zw_36 zy_X9_leadCount rfl rfl ⟨Nat.le_of_ble_eq_true rfl, Nat.le_of_ble_eq_true rfl⟩ ⟨(Nat.le_of_ble_eq_true rfl), (Nat.le_of_ble_eq_true rfl)⟩ (Nat.le_of_ble_eq_true rfl) dX10_touch_4 (fun _ _ hx => hx.elim) (fun r5 S4 h => ?_)
  refine z_widen (k' := 0) (n' := 0) (Nat.le_refl _) (Nat.le_refl _) ?_
  refine z_if_ne 20 dX10_touch_7 (by decide) (fun c31 => ?_) (fun c31 => ?_)
  · have h := h.1 c31
    refine z_aload_n 0 dX10_touch_20 rfl rfl ?_
    obtain ⟨hf30, h⟩ := h
    refine z_callVV (ci := 10) (st := []) (w_X10_requireRoomForTouch h) hf30.1 hf30.2 (Nat.le_of_ble_eq_true rfl) rfl zw_738 zw_735 zw_737 zw_13 zw_30 zy_X10_requireRoomForTouch rfl rfl ⟨Nat.le_of_ble_eq_true rfl, Nat.le_of_ble_eq_true rfl⟩ ⟨(Nat.le_of_ble_eq_true rfl), (Nat.le_of_ble_eq_true rfl)⟩ (Nat.le_of_ble_eq_true rfl) dX10_touch_21 (fun ex S6 hx => zx_out rfl ⟨rfl, hx⟩ (Nat.le_of_ble_eq_true rfl) (Nat.le_of_ble_eq_true rfl)) (fun S6 h => ?_)
    refine z_widen (k' := 1) (n' := 6) (Nat.le_refl _) (Nat.le_refl _) ?_
    refine z_aload_n 0 dX10_touch_24 rfl rfl ?_
    obtain ⟨hf8, h⟩ := h
    refine z_getQ (c := 10) (j := 6) (f := 1006) hf8.1 hf8.2 (Nat.le_of_ble_eq_true rfl) rfl zU_X10 (Nat.le_of_ble_eq_true rfl) (Nat.le_of_ble_eq_true rfl) ⟨_, zw_270, Or.inl rfl⟩ rfl rfl dX10_touch_25 ?_
    refine z_iconst (v := 0) dX10_touch_28 rfl ?_
    refine z_aload_n 0 dX10_touch_29 rfl rfl ?_
    refine z_getQ (c := 10) (j := 4) (f := 1004) hf8.1 hf8.2 (Nat.le_of_ble_eq_true rfl) rfl zU_X10 (Nat.le_of_ble_eq_true rfl) (Nat.le_of_ble_eq_true rfl) ⟨_, zw_268, Or.inl rfl⟩ rfl rfl dX10_touch_30 ?_
    obtain ⟨b9, hb10, h⟩ := h
    rw [show va_rf (gR S6 1006 a0) = Value.ref b9 from by rw [hb10]; rfl]
    obtain ⟨b11, hb12, h⟩ := h
    rw [show va_rf (gR S6 1004 a0) = Value.ref b11 from by rw [hb12]; rfl]
    obtain ⟨hf29, h⟩ := h
    refine z_callVV (ci := 9) (st := []) (w_X9_writeFrom h) hf29.1 hf29.2 (Nat.le_of_ble_eq_true rfl) rfl zw_647 zw_644 zw_645 zw_646 zw_36 zy_X9_writeFrom rfl rfl ⟨Nat.le_of_ble_eq_true rfl, Nat.le_of_ble_eq_true rfl⟩ ⟨(Nat.le_of_ble_eq_true rfl), (Nat.le_of_ble_eq_true rfl)⟩ (Nat.le_of_ble_eq_true rfl) dX10_touch_33 (fun _ _ hx => hx.elim) (fun S13 h => ?_)
    refine z_widen (k' := 1) (n' := 6) (Nat.le_refl _) (Nat.le_refl _) ?_
    refine z_aload_n 0 dX10_touch_36 rfl rfl ?_
    refine z_aload_n 0 dX10_touch_37 rfl rfl ?_
    obtain ⟨hf15, h⟩ := h
    refine z_getQ (c := 10) (j := 6) (f := 1006) hf15.1 hf15.2 (Nat.le_of_ble_eq_true rfl) rfl zU_X10 (Nat.le_of_ble_eq_true rfl) (Nat.le_of_ble_eq_true rfl) ⟨_, zw_270, Or.inl rfl⟩ rfl rfl dX10_touch_38 ?_
    obtain ⟨b16, hb17, h⟩ := h
    rw [show va_rf (gR S13 1006 a0) = Value.ref b16 from by rw [hb17]; rfl]
    refine z_callVI (ci := 10) (st := []) (w_X10_keepTouch h) hf15.1 hf15.2 (Nat.le_of_ble_eq_true rfl) rfl zw_774 zw_771 zw_773 zw_17 zw_30 zy_X10_keepTouch rfl rfl ⟨Nat.le_of_ble_eq_true rfl, Nat.le_of_ble_eq_true rfl⟩ ⟨(Nat.le_of_ble_eq_true rfl), (Nat.le_of_ble_eq_true rfl)⟩ (Nat.le_of_ble_eq_true rfl) dX10_touch_41 (fun _ _ hx => hx.elim) (fun r19 S18 h => ?_)
    refine z_widen (k' := 2) (n' := 28) (Nat.le_refl _) (Nat.le_refl _) ?_
    refine z_istore_n (lv' := [(1, .int r19), (0, .ref a0)]) dX10_touch_44 rfl (Nat.le_of_ble_eq_true rfl) rfl ?_
    refine z_aload_n 1 dX10_touch_45 rfl rfl ?_
    refine z_new (c := 9) (ty0 := tyX9) (Nat.le_of_ble_eq_true rfl) rfl zU_X9 tyX9_ok z0_X9 zw_167 zw_109 zw_36 (Nat.le_of_ble_eq_true rfl) (Nat.le_of_ble_eq_true rfl) dX10_touch_46 (fun q20 hq21 => ?_)
    have h := h q20 hq21 _ rfl
    obtain ⟨S22, hS23⟩ : ∃ z, z = nO S18 q20 9 := ⟨_, rfl⟩
    rw [← hS23] at h ⊢
    refine z_widen (k' := 3) (n' := 37) (Nat.le_refl _) (Nat.le_refl _) ?_
    refine z_dup dX10_touch_49 rfl ?_
    refine z_callIV (st := [.ref q20, .ref a0]) (w_X9_init h) zw_112 zw_168 zw_111 zw_36 rfl zy_X9_init rfl rfl ⟨Nat.le_of_ble_eq_true rfl, Nat.le_of_ble_eq_true rfl⟩ ⟨(Nat.le_of_ble_eq_true rfl), (Nat.le_of_ble_eq_true rfl)⟩ (Nat.le_of_ble_eq_true rfl) dX10_touch_50 (fun _ _ hx => hx.elim) (fun S24 h => ?_)
    refine z_widen (k' := 6) (n' := 300) (Nat.le_refl _) (Nat.le_refl _) ?_
    obtain ⟨hf26, h⟩ := h
    have h := h _ rfl
    refine z_putV (c := 10) (j := 6) (ty0 := tyX10) (S' := sR S24 1006 a0 (some q20)) hf26.1 hf26.2 (Nat.le_of_ble_eq_true rfl) rfl zU_X10 tyX10_ok nmX10 (Nat.le_of_ble_eq_true rfl) (Nat.le_of_ble_eq_true rfl) ⟨_, zw_270, Or.inl rfl⟩ (.inl rfl) (zrefn (ty := tyX10 6) (o := (some q20)) (by decide)) (zreff (ty := tyX10 6) (o := (some q20)) (by decide)) rfl (zUpR (v := (some q20)) hf26.2 (Nat.le_of_ble_eq_true rfl) (Nat.le_of_ble_eq_true rfl) rfl rfl) dX10_touch_53 ?_
    obtain ⟨S27, hS28⟩ : ∃ z, z = sR S24 1006 a0 (some q20) := ⟨_, rfl⟩
    rw [← hS28] at h ⊢
    have hf26 : a0 ∈ gL S27 ∧ gK S27 a0 = 10 := by rw [hS28]; exact hf26
    refine z_iload_n 0 dX10_touch_56 rfl rfl ?_
    exact z_ireturn ⟨rfl, _, rfl, h⟩ rfl (Nat.le_of_ble_eq_true rfl) (Nat.le_of_ble_eq_true rfl) dX10_touch_57
  · have h := h.2 c31
    exact z_throw (cls := "java/lang/IllegalStateException") (text := "the draft of a touch is empty") zw_397 zw_51 zat_78 (by decide +kernel) rfl dX10_touch_10 dX10_touch_13 dX10_touch_14 dX10_touch_16 dX10_touch_19 rfl (Nat.le_of_ble_eq_true rfl) (Nat.le_of_ble_eq_true rfl) (Nat.le_of_ble_eq_true rfl) (Nat.le_of_ble_eq_true rfl) ⟨rfl, h⟩
set_option maxRecDepth 20000 in
set_option maxHeartbeats 4000000 in
theorem w_X10_compose {E : zE} {a0 : Nat} {l1 : Int32} {l2 : Int32} {S : zS} {Q : Int32 → zS → Prop} {X : String → zS → Prop} (h : p_X10_compose E a0 l1 l2 S Q X) : zM E yX10_compose cX10_compose 5 (some .int) ({ frames := 9, cells := 15, slots := 466, locals := 217 } : Room) [.ref a0, .int l1, .int l2] S (qI Q) X := by
  unfold p_X10_compose at h
  refine zM_of RX10 false (by decide) rfl (fun h => by cases h) (Nat.le_of_ble_eq_true rfl) ?_
  refine z_aload_n 0 dX10_compose_0 rfl rfl ?_
  refine z_iload_n 1 dX10_compose_1 rfl rfl ?_
  obtain ⟨hf21, h⟩ := h
  refine z_callVR (ci := 10) (st := []) (w_X10_methodAt h) hf21.1 hf21.2 (Nat.le_of_ble_eq_true rfl) rfl zw_584 zw_581 zw_583 zw_7 zw_30 zy_X10_methodAt rfl rfl ⟨Nat.le_of_ble_eq_true rfl, Nat.le_of_ble_eq_true rfl⟩ ⟨(Nat.le_of_ble_eq_true rfl), (Nat.le_of_ble_eq_true rfl)⟩ (Nat.le_of_ble_eq_true rfl) dX10_compose_2 (fun ex S1 hx => zx_out rfl ⟨rfl, hx⟩ (Nat.le_of_ble_eq_true rfl) (Nat.le_of_ble_eq_true rfl)) (fun r2 S1 h => ?_)
  refine z_widen (k' := 1) (n' := 6) (Nat.le_refl _) (Nat.le_refl _) ?_
  refine z_astore_nQ (lv' := [(3, va_rf r2), (0, .ref a0), (1, .int l1), (2, .int l2)]) dX10_compose_5 rfl (Nat.le_of_ble_eq_true rfl) rfl ?_
  refine z_iload_n 3 dX10_compose_6 rfl rfl ?_
  refine z_iconst (v := 1) dX10_compose_7 rfl ?_
  refine z_bipush (v := 6) dX10_compose_8 rfl ?_
  refine z_callSV (st := []) (w_X10_requireRange h) zw_328 zw_326 zw_327 zw_30 zy_X10_requireRange rfl rfl ⟨Nat.le_of_ble_eq_true rfl, Nat.le_of_ble_eq_true rfl⟩ ⟨(Nat.le_of_ble_eq_true rfl), (Nat.le_of_ble_eq_true rfl)⟩ (Nat.le_of_ble_eq_true rfl) dX10_compose_10 (fun ex S3 hx => zx_out rfl ⟨rfl, hx⟩ (Nat.le_of_ble_eq_true rfl) (Nat.le_of_ble_eq_true rfl)) (fun S3 h => ?_)
  refine z_widen (k' := 2) (n' := 12) (Nat.le_refl _) (Nat.le_refl _) ?_
  refine z_aload_n 1 dX10_compose_13 rfl rfl ?_
  obtain ⟨hf20, h⟩ := h
  refine z_callVV (ci := 10) (st := []) (w_X10_requireRoomForTouch h) hf20.1 hf20.2 (Nat.le_of_ble_eq_true rfl) rfl zw_738 zw_735 zw_737 zw_13 zw_30 zy_X10_requireRoomForTouch rfl rfl ⟨Nat.le_of_ble_eq_true rfl, Nat.le_of_ble_eq_true rfl⟩ ⟨(Nat.le_of_ble_eq_true rfl), (Nat.le_of_ble_eq_true rfl)⟩ (Nat.le_of_ble_eq_true rfl) dX10_compose_14 (fun ex S5 hx => zx_out rfl ⟨rfl, hx⟩ (Nat.le_of_ble_eq_true rfl) (Nat.le_of_ble_eq_true rfl)) (fun S5 h => ?_)
  refine z_widen (k' := 3) (n' := 18) (Nat.le_refl _) (Nat.le_refl _) ?_
  refine z_aload_n 1 dX10_compose_17 rfl rfl ?_
  obtain ⟨hf7, h⟩ := h
  refine z_getQ (c := 10) (j := 5) (f := 1005) hf7.1 hf7.2 (Nat.le_of_ble_eq_true rfl) rfl zU_X10 (Nat.le_of_ble_eq_true rfl) (Nat.le_of_ble_eq_true rfl) ⟨_, zw_269, Or.inl rfl⟩ rfl rfl dX10_compose_18 ?_
  refine z_aload_nQ 0 dX10_compose_21 rfl rfl ?_
  refine z_iload_n 3 dX10_compose_22 rfl rfl ?_
  obtain ⟨b8, hb9, h⟩ := h
  rw [show va_rf (gR S5 1005 a0) = Value.ref b8 from by rw [hb9]; rfl]
  obtain ⟨b10, hb11, h⟩ := h
  rw [show va_rf r2 = Value.ref b10 from by rw [hb11]; rfl]
  obtain ⟨hf19, h⟩ := h
  refine z_callVR (ci := 3) (st := []) (w_X2_soundTouch h) hf19.1 hf19.2 (Nat.le_of_ble_eq_true rfl) rfl zw_743 zw_740 zw_741 zw_742 zw_35 zy_X2_soundTouch rfl rfl ⟨Nat.le_of_ble_eq_true rfl, Nat.le_of_ble_eq_true rfl⟩ ⟨(Nat.le_of_ble_eq_true rfl), (Nat.le_of_ble_eq_true rfl)⟩ (Nat.le_of_ble_eq_true rfl) dX10_compose_23 (fun _ _ hx => hx.elim) (fun r13 S12 h => ?_)
  refine z_widen (k' := 14) (n' := 444) (Nat.le_refl _) (Nat.le_refl _) ?_
  refine z_astoreQ (lv' := [(4, va_rf r13), (3, .ref b10), (0, .ref a0), (1, .int l1), (2, .int l2)]) dX10_compose_26 (Nat.le_of_ble_eq_true rfl) rfl ?_
  refine z_aloadQ 0 dX10_compose_28 rfl ?_
  rcases zor r13 with hb15 | ⟨b14, hb15⟩
  · have h := h.1 hb15
    rw [show va_rf r13 = Value.null from by rw [hb15]; rfl]
    refine z_ifnonnullN dX10_compose_30 ?_
    refine z_iconst (v := (-1)) dX10_compose_33 rfl ?_
    refine z_goto 43 dX10_compose_34 (by decide) ?_
    exact z_ireturn ⟨rfl, _, rfl, h⟩ rfl (Nat.le_of_ble_eq_true rfl) (Nat.le_of_ble_eq_true rfl) dX10_compose_43
  · have h := h.2 b14 hb15
    rw [show va_rf r13 = Value.ref b14 from by rw [hb15]; rfl]
    refine z_ifnonnull 37 dX10_compose_30 (by decide) ?_
    refine z_aload_n 2 dX10_compose_37 rfl rfl ?_
    refine z_aload 0 dX10_compose_38 rfl ?_
    obtain ⟨hf18, h⟩ := h
    refine z_callVI (ci := 10) (st := []) (w_X10_keepTouch h) hf18.1 hf18.2 (Nat.le_of_ble_eq_true rfl) rfl zw_774 zw_771 zw_773 zw_17 zw_30 zy_X10_keepTouch rfl rfl ⟨Nat.le_of_ble_eq_true rfl, Nat.le_of_ble_eq_true rfl⟩ ⟨(Nat.le_of_ble_eq_true rfl), (Nat.le_of_ble_eq_true rfl)⟩ (Nat.le_of_ble_eq_true rfl) dX10_compose_40 (fun _ _ hx => hx.elim) (fun r17 S16 h => ?_)
    refine z_widen (k' := 15) (n' := 466) (Nat.le_refl _) (Nat.le_refl _) ?_
    exact z_ireturn ⟨rfl, _, rfl, h⟩ rfl (Nat.le_of_ble_eq_true rfl) (Nat.le_of_ble_eq_true rfl) dX10_compose_43
set_option maxRecDepth 20000 in
set_option maxHeartbeats 4000000 in
theorem w_X10_touches {E : zE} {a0 : Nat} {S : zS} {Q : Int32 → zS → Prop} {X : String → zS → Prop} (h : p_X10_touches E a0 S Q X) : zM E yX10_touches cX10_touches 1 (some .int) ({ frames := 1, cells := 0, slots := 0, locals := 20 } : Room) [.ref a0] S (qI Q) X := by
  unfold p_X10_touches at h
  refine zM_of RX10 false (by decide) rfl (fun h => by cases h) (Nat.le_of_ble_eq_true rfl) ?_
  refine z_aload_n 0 dX10_touches_0 rfl rfl ?_
  obtain ⟨hf1, h⟩ := h
  refine z_getQ (c := 10) (j := 3) (f := 1003) hf1.1 hf1.2 (Nat.le_of_ble_eq_true rfl) rfl zU_X10 (Nat.le_of_ble_eq_true rfl) (Nat.le_of_ble_eq_true rfl) ⟨_, zw_267, Or.inl rfl⟩ rfl rfl dX10_touches_1 ?_
  obtain ⟨b2, hb3, h⟩ := h
  rw [show va_rf (gR S 1003 a0) = Value.ref b2 from by rw [hb3]; rfl]
  obtain ⟨hf6, h⟩ := h
  refine z_callVI (ci := 0) (st := []) (w_Jx4a65c_size_8abf5 h) hf6.1 hf6.2 (Nat.le_of_ble_eq_true rfl) rfl zw_423 zw_420 zw_421 zw_422 zw_33 zy_Jx4a65c_size_8abf5 rfl rfl ⟨Nat.le_of_ble_eq_true rfl, Nat.le_of_ble_eq_true rfl⟩ ⟨(Nat.le_of_ble_eq_true rfl), (Nat.le_of_ble_eq_true rfl)⟩ (Nat.le_of_ble_eq_true rfl) dX10_touches_4 (fun _ _ hx => hx.elim) (fun r5 S4 h => ?_)
  refine z_widen (k' := 0) (n' := 0) (Nat.le_refl _) (Nat.le_refl _) ?_
  exact z_ireturn ⟨rfl, _, rfl, h⟩ rfl (Nat.le_of_ble_eq_true rfl) (Nat.le_of_ble_eq_true rfl) dX10_touches_7
set_option maxRecDepth 20000 in
set_option maxHeartbeats 4000000 in
theorem w_X10_touchAt {E : zE} {a0 : Nat} {l1 : Int32} {S : zS} {Q : Option Nat → zS → Prop} {X : String → zS → Prop} (h : p_X10_touchAt E a0 l1 S Q X) : zM E yX10_touchAt cX10_touchAt 2 (some (.object "GrandsireLoft$Touch")) ({ frames := 7, cells := 1, slots := 6, locals := 103 } : Room) [.ref a0, .int l1] S (qR Q) X := by
  unfold p_X10_touchAt at h
  refine zM_of RX10 false (by decide) rfl (fun h => by cases h) (Nat.le_of_ble_eq_true rfl) ?_
  refine z_iload_n 1 dX10_touchAt_0 rfl rfl ?_
  refine z_aload_n 0 dX10_touchAt_1 rfl rfl ?_
  obtain ⟨hf1, h⟩ := h
  refine z_getQ (c := 10) (j := 3) (f := 1003) hf1.1 hf1.2 (Nat.le_of_ble_eq_true rfl) rfl zU_X10 (Nat.le_of_ble_eq_true rfl) (Nat.le_of_ble_eq_true rfl) ⟨_, zw_267, Or.inl rfl⟩ rfl rfl dX10_touchAt_2 ?_
  obtain ⟨b2, hb3, h⟩ := h
  rw [show va_rf (gR S 1003 a0) = Value.ref b2 from by rw [hb3]; rfl]
  obtain ⟨hf17, h⟩ := h
  refine z_callVI (ci := 0) (st := [.int l1]) (w_Jx4a65c_size_8abf5 h) hf17.1 hf17.2 (Nat.le_of_ble_eq_true rfl) rfl zw_423 zw_420 zw_421 zw_422 zw_33 zy_Jx4a65c_size_8abf5 rfl rfl ⟨Nat.le_of_ble_eq_true rfl, Nat.le_of_ble_eq_true rfl⟩ ⟨(Nat.le_of_ble_eq_true rfl), (Nat.le_of_ble_eq_true rfl)⟩ (Nat.le_of_ble_eq_true rfl) dX10_touchAt_5 (fun _ _ hx => hx.elim) (fun r5 S4 h => ?_)
  refine z_widen (k' := 0) (n' := 0) (Nat.le_refl _) (Nat.le_refl _) ?_
  refine z_callSV (st := []) (w_X10_requireIndex h) zw_587 zw_585 zw_586 zw_30 zy_X10_requireIndex rfl rfl ⟨Nat.le_of_ble_eq_true rfl, Nat.le_of_ble_eq_true rfl⟩ ⟨(Nat.le_of_ble_eq_true rfl), (Nat.le_of_ble_eq_true rfl)⟩ (Nat.le_of_ble_eq_true rfl) dX10_touchAt_8 (fun ex S6 hx => zx_out rfl ⟨rfl, hx⟩ (Nat.le_of_ble_eq_true rfl) (Nat.le_of_ble_eq_true rfl)) (fun S6 h => ?_)
  refine z_widen (k' := 1) (n' := 6) (Nat.le_refl _) (Nat.le_refl _) ?_
  refine z_aload_n 0 dX10_touchAt_11 rfl rfl ?_
  obtain ⟨hf8, h⟩ := h
  refine z_getQ (c := 10) (j := 3) (f := 1003) hf8.1 hf8.2 (Nat.le_of_ble_eq_true rfl) rfl zU_X10 (Nat.le_of_ble_eq_true rfl) (Nat.le_of_ble_eq_true rfl) ⟨_, zw_267, Or.inl rfl⟩ rfl rfl dX10_touchAt_12 ?_
  refine z_iload_n 1 dX10_touchAt_15 rfl rfl ?_
  obtain ⟨b9, hb10, h⟩ := h
  rw [show va_rf (gR S6 1003 a0) = Value.ref b9 from by rw [hb10]; rfl]
  obtain ⟨hf16, h⟩ := h
  refine z_callVR (ci := 0) (st := []) (w_Jx4a65c_get_915e3 h) hf16.1 hf16.2 (Nat.le_of_ble_eq_true rfl) rfl zw_607 zw_604 zw_605 zw_606 zw_33 zy_Jx4a65c_get_915e3 rfl rfl ⟨Nat.le_of_ble_eq_true rfl, Nat.le_of_ble_eq_true rfl⟩ ⟨(Nat.le_of_ble_eq_true rfl), (Nat.le_of_ble_eq_true rfl)⟩ (Nat.le_of_ble_eq_true rfl) dX10_touchAt_16 (fun _ _ hx => hx.elim) (fun r12 S11 h => ?_)
  refine z_widen (k' := 1) (n' := 6) (Nat.le_refl _) (Nat.le_refl _) ?_
  obtain ⟨b13, hb14, h⟩ := h
  rw [show va_rf r12 = Value.ref b13 from by rw [hb14]; rfl]
  obtain ⟨hf15, h⟩ := h
  refine z_cast (c := 9) hf15.1 hf15.2 (Nat.le_of_ble_eq_true rfl) rfl zw_167 dX10_touchAt_19 ?_
  exact z_areturn (v := va_rf (some b13)) ⟨rfl, _, rfl, h⟩ rfl (.inl ⟨_, rfl⟩) (va_rf_or _) (Nat.le_of_ble_eq_true rfl) (Nat.le_of_ble_eq_true rfl) dX10_touchAt_22
set_option maxRecDepth 20000 in
set_option maxHeartbeats 4000000 in
theorem w_X10_leads {E : zE} {a0 : Nat} {l1 : Int32} {S : zS} {Q : Int32 → zS → Prop} {X : String → zS → Prop} (h : p_X10_leads E a0 l1 S Q X) : zM E yX10_leads cX10_leads 2 (some .int) ({ frames := 8, cells := 1, slots := 6, locals := 124 } : Room) [.ref a0, .int l1] S (qI Q) X := by
  unfold p_X10_leads at h
  refine zM_of RX10 false (by decide) rfl (fun h => by cases h) (Nat.le_of_ble_eq_true rfl) ?_
  refine z_aload_n 0 dX10_leads_0 rfl rfl ?_
  refine z_iload_n 1 dX10_leads_1 rfl rfl ?_
  obtain ⟨hf8, h⟩ := h
  refine z_callVR (ci := 10) (st := []) (w_X10_touchAt h) hf8.1 hf8.2 (Nat.le_of_ble_eq_true rfl) rfl zw_894 zw_891 zw_893 zw_19 zw_30 zy_X10_touchAt rfl rfl ⟨Nat.le_of_ble_eq_true rfl, Nat.le_of_ble_eq_true rfl⟩ ⟨(Nat.le_of_ble_eq_true rfl), (Nat.le_of_ble_eq_true rfl)⟩ (Nat.le_of_ble_eq_true rfl) dX10_leads_2 (fun ex S1 hx => zx_out rfl ⟨rfl, hx⟩ (Nat.le_of_ble_eq_true rfl) (Nat.le_of_ble_eq_true rfl)) (fun r2 S1 h => ?_)
  refine z_widen (k' := 1) (n' := 6) (Nat.le_refl _) (Nat.le_refl _) ?_
  obtain ⟨b3, hb4, h⟩ := h
  rw [show va_rf r2 = Value.ref b3 from by rw [hb4]; rfl]
  obtain ⟨hf7, h⟩ := h
  refine z_callVI (ci := 9) (st := []) (w_X9_leadCount h) hf7.1 hf7.2 (Nat.le_of_ble_eq_true rfl) rfl zw_727 zw_724 zw_725 zw_726 zw_36 zy_X9_leadCount rfl rfl ⟨Nat.le_of_ble_eq_true rfl, Nat.le_of_ble_eq_true rfl⟩ ⟨(Nat.le_of_ble_eq_true rfl), (Nat.le_of_ble_eq_true rfl)⟩ (Nat.le_of_ble_eq_true rfl) dX10_leads_5 (fun _ _ hx => hx.elim) (fun r6 S5 h => ?_)
  refine z_widen (k' := 1) (n' := 6) (Nat.le_refl _) (Nat.le_refl _) ?_
  exact z_ireturn ⟨rfl, _, rfl, h⟩ rfl (Nat.le_of_ble_eq_true rfl) (Nat.le_of_ble_eq_true rfl) dX10_leads_8
set_option maxRecDepth 20000 in
set_option maxHeartbeats 4000000 in
theorem w_X10_leadAt {E : zE} {a0 : Nat} {l1 : Int32} {l2 : Int32} {S : zS} {Q : Int32 → zS → Prop} {X : String → zS → Prop} (h : p_X10_leadAt E a0 l1 l2 S Q X) : zM E yX10_leadAt cX10_leadAt 4 (some .int) ({ frames := 8, cells := 2, slots := 12, locals := 124 } : Room) [.ref a0, .int l1, .int l2] S (qI Q) X := by
  unfold p_X10_leadAt at h
  refine zM_of RX10 false (by decide) rfl (fun h => by cases h) (Nat.le_of_ble_eq_true rfl) ?_
  refine z_aload_n 0 dX10_leadAt_0 rfl rfl ?_
  refine z_iload_n 1 dX10_leadAt_1 rfl rfl ?_
  obtain ⟨hf25, h⟩ := h
  refine z_callVR (ci := 10) (st := []) (w_X10_touchAt h) hf25.1 hf25.2 (Nat.le_of_ble_eq_true rfl) rfl zw_894 zw_891 zw_893 zw_19 zw_30 zy_X10_touchAt rfl rfl ⟨Nat.le_of_ble_eq_true rfl, Nat.le_of_ble_eq_true rfl⟩ ⟨(Nat.le_of_ble_eq_true rfl), (Nat.le_of_ble_eq_true rfl)⟩ (Nat.le_of_ble_eq_true rfl) dX10_leadAt_2 (fun ex S1 hx => zx_out rfl ⟨rfl, hx⟩ (Nat.le_of_ble_eq_true rfl) (Nat.le_of_ble_eq_true rfl)) (fun r2 S1 h => ?_)
  refine z_widen (k' := 1) (n' := 6) (Nat.le_refl _) (Nat.le_refl _) ?_
  refine z_astore_nQ (lv' := [(3, va_rf r2), (0, .ref a0), (1, .int l1), (2, .int l2)]) dX10_leadAt_5 rfl (Nat.le_of_ble_eq_true rfl) rfl ?_
  refine z_iload_n 3 dX10_leadAt_6 rfl rfl ?_
  refine z_aload_nQ 0 dX10_leadAt_7 rfl rfl ?_
  obtain ⟨b3, hb4, h⟩ := h
  rw [show va_rf r2 = Value.ref b3 from by rw [hb4]; rfl]
  obtain ⟨hf24, h⟩ := h
  refine z_callVI (ci := 9) (st := [.int l2]) (w_X9_leadCount h) hf24.1 hf24.2 (Nat.le_of_ble_eq_true rfl) rfl zw_727 zw_724 zw_725 zw_726 zw_36 zy_X9_leadCount rfl rfl ⟨Nat.le_of_ble_eq_true rfl, Nat.le_of_ble_eq_true rfl⟩ ⟨(Nat.le_of_ble_eq_true rfl), (Nat.le_of_ble_eq_true rfl)⟩ (Nat.le_of_ble_eq_true rfl) dX10_leadAt_8 (fun _ _ hx => hx.elim) (fun r6 S5 h => ?_)
  refine z_widen (k' := 1) (n' := 6) (Nat.le_refl _) (Nat.le_refl _) ?_
  refine z_callSV (st := []) (w_X10_requireIndex h) zw_587 zw_585 zw_586 zw_30 zy_X10_requireIndex rfl rfl ⟨Nat.le_of_ble_eq_true rfl, Nat.le_of_ble_eq_true rfl⟩ ⟨(Nat.le_of_ble_eq_true rfl), (Nat.le_of_ble_eq_true rfl)⟩ (Nat.le_of_ble_eq_true rfl) dX10_leadAt_11 (fun ex S7 hx => zx_out rfl ⟨rfl, hx⟩ (Nat.le_of_ble_eq_true rfl) (Nat.le_of_ble_eq_true rfl)) (fun S7 h => ?_)
  refine z_widen (k' := 2) (n' := 12) (Nat.le_refl _) (Nat.le_refl _) ?_
  refine z_bipush (v := 10) dX10_leadAt_14 rfl ?_
  refine z_aload_n 0 dX10_leadAt_16 rfl rfl ?_
  obtain ⟨hf9, h⟩ := h
  refine z_getQ (c := 9) (j := 6) (f := 906) hf9.1 hf9.2 (Nat.le_of_ble_eq_true rfl) rfl zU_X9 (Nat.le_of_ble_eq_true rfl) (Nat.le_of_ble_eq_true rfl) ⟨_, zw_134, Or.inl rfl⟩ rfl rfl dX10_leadAt_17 ?_
  refine z_iload_n 3 dX10_leadAt_20 rfl rfl ?_
  obtain ⟨b10, hb11, h⟩ := h
  rw [show va_rf (gR S7 906 b3) = Value.ref b10 from by rw [hb11]; rfl]
  obtain ⟨hf23, h⟩ := h
  refine z_callVR (ci := 0) (st := [.int 10]) (w_Jx4a65c_get_915e3 h) hf23.1 hf23.2 (Nat.le_of_ble_eq_true rfl) rfl zw_607 zw_604 zw_605 zw_606 zw_33 zy_Jx4a65c_get_915e3 rfl rfl ⟨Nat.le_of_ble_eq_true rfl, Nat.le_of_ble_eq_true rfl⟩ ⟨(Nat.le_of_ble_eq_true rfl), (Nat.le_of_ble_eq_true rfl)⟩ (Nat.le_of_ble_eq_true rfl) dX10_leadAt_21 (fun _ _ hx => hx.elim) (fun r13 S12 h => ?_)
  refine z_widen (k' := 2) (n' := 12) (Nat.le_refl _) (Nat.le_refl _) ?_
  obtain ⟨b14, hb15, h⟩ := h
  rw [show va_rf r13 = Value.ref b14 from by rw [hb15]; rfl]
  obtain ⟨hf16, h⟩ := h
  refine z_cast (c := 5) hf16.1 hf16.2 (Nat.le_of_ble_eq_true rfl) rfl zw_435 dX10_leadAt_24 ?_
  refine z_getI (c := 5) (j := 0) (f := 500) hf16.1 hf16.2 (Nat.le_of_ble_eq_true rfl) rfl zU_X4 (Nat.le_of_ble_eq_true rfl) (Nat.le_of_ble_eq_true rfl) ⟨_, zw_478, Or.inl rfl⟩ rfl rfl dX10_leadAt_27 ?_
  refine z_imul dX10_leadAt_30 ?_
  refine z_aload_n 0 dX10_leadAt_31 rfl rfl ?_
  obtain ⟨hf17, h⟩ := h
  refine z_getQ (c := 9) (j := 7) (f := 907) hf17.1 hf17.2 (Nat.le_of_ble_eq_true rfl) rfl zU_X9 (Nat.le_of_ble_eq_true rfl) (Nat.le_of_ble_eq_true rfl) ⟨_, zw_137, Or.inl rfl⟩ rfl rfl dX10_leadAt_32 ?_
  refine z_iload_n 3 dX10_leadAt_35 rfl rfl ?_
  obtain ⟨b18, hb19, h⟩ := h
  rw [show va_rf (gR S12 907 b3) = Value.ref b18 from by rw [hb19]; rfl]
  obtain ⟨hf20, h⟩ := h
  obtain ⟨j21, hj22, h⟩ := h
  refine z_iald (j := j21) hf20.1 hf20.2 hj22.1 hj22.2.1 hj22.2.2 dX10_leadAt_36 ?_
  refine z_iadd dX10_leadAt_37 ?_
  exact z_ireturn ⟨rfl, _, rfl, h⟩ rfl (Nat.le_of_ble_eq_true rfl) (Nat.le_of_ble_eq_true rfl) dX10_leadAt_38
set_option maxRecDepth 20000 in
set_option maxHeartbeats 4000000 in
theorem w_X10_rows {E : zE} {a0 : Nat} {l1 : Int32} {S : zS} {Q : Int32 → zS → Prop} {X : String → zS → Prop} (h : p_X10_rows E a0 l1 S Q X) : zM E yX10_rows cX10_rows 2 (some .int) ({ frames := 8, cells := 1, slots := 6, locals := 124 } : Room) [.ref a0, .int l1] S (qI Q) X := by
  unfold p_X10_rows at h
  refine zM_of RX10 false (by decide) rfl (fun h => by cases h) (Nat.le_of_ble_eq_true rfl) ?_
  refine z_aload_n 0 dX10_rows_0 rfl rfl ?_
  refine z_iload_n 1 dX10_rows_1 rfl rfl ?_
  obtain ⟨hf6, h⟩ := h
  refine z_callVR (ci := 10) (st := []) (w_X10_touchAt h) hf6.1 hf6.2 (Nat.le_of_ble_eq_true rfl) rfl zw_894 zw_891 zw_893 zw_19 zw_30 zy_X10_touchAt rfl rfl ⟨Nat.le_of_ble_eq_true rfl, Nat.le_of_ble_eq_true rfl⟩ ⟨(Nat.le_of_ble_eq_true rfl), (Nat.le_of_ble_eq_true rfl)⟩ (Nat.le_of_ble_eq_true rfl) dX10_rows_2 (fun ex S1 hx => zx_out rfl ⟨rfl, hx⟩ (Nat.le_of_ble_eq_true rfl) (Nat.le_of_ble_eq_true rfl)) (fun r2 S1 h => ?_)
  refine z_widen (k' := 1) (n' := 6) (Nat.le_refl _) (Nat.le_refl _) ?_
  obtain ⟨b3, hb4, h⟩ := h
  rw [show va_rf r2 = Value.ref b3 from by rw [hb4]; rfl]
  obtain ⟨hf5, h⟩ := h
  refine z_getI (c := 9) (j := 2) (f := 902) hf5.1 hf5.2 (Nat.le_of_ble_eq_true rfl) rfl zU_X9 (Nat.le_of_ble_eq_true rfl) (Nat.le_of_ble_eq_true rfl) ⟨_, zw_125, Or.inl rfl⟩ rfl rfl dX10_rows_5 ?_
  exact z_ireturn ⟨rfl, _, rfl, h⟩ rfl (Nat.le_of_ble_eq_true rfl) (Nat.le_of_ble_eq_true rfl) dX10_rows_8
set_option maxRecDepth 20000 in
set_option maxHeartbeats 4000000 in
theorem w_X10_rowAt {E : zE} {a0 : Nat} {l1 : Int32} {l2 : Int32} {S : zS} {Q : Int32 → zS → Prop} {X : String → zS → Prop} (h : p_X10_rowAt E a0 l1 l2 S Q X) : zM E yX10_rowAt cX10_rowAt 4 (some .int) ({ frames := 8, cells := 2, slots := 12, locals := 124 } : Room) [.ref a0, .int l1, .int l2] S (qI Q) X := by
  unfold p_X10_rowAt at h
  refine zM_of RX10 false (by decide) rfl (fun h => by cases h) (Nat.le_of_ble_eq_true rfl) ?_
  refine z_aload_n 0 dX10_rowAt_0 rfl rfl ?_
  refine z_iload_n 1 dX10_rowAt_1 rfl rfl ?_
  obtain ⟨hf16, h⟩ := h
  refine z_callVR (ci := 10) (st := []) (w_X10_touchAt h) hf16.1 hf16.2 (Nat.le_of_ble_eq_true rfl) rfl zw_894 zw_891 zw_893 zw_19 zw_30 zy_X10_touchAt rfl rfl ⟨Nat.le_of_ble_eq_true rfl, Nat.le_of_ble_eq_true rfl⟩ ⟨(Nat.le_of_ble_eq_true rfl), (Nat.le_of_ble_eq_true rfl)⟩ (Nat.le_of_ble_eq_true rfl) dX10_rowAt_2 (fun ex S1 hx => zx_out rfl ⟨rfl, hx⟩ (Nat.le_of_ble_eq_true rfl) (Nat.le_of_ble_eq_true rfl)) (fun r2 S1 h => ?_)
  refine z_widen (k' := 1) (n' := 6) (Nat.le_refl _) (Nat.le_refl _) ?_
  refine z_astore_nQ (lv' := [(3, va_rf r2), (0, .ref a0), (1, .int l1), (2, .int l2)]) dX10_rowAt_5 rfl (Nat.le_of_ble_eq_true rfl) rfl ?_
  refine z_iload_n 3 dX10_rowAt_6 rfl rfl ?_
  refine z_aload_nQ 0 dX10_rowAt_7 rfl rfl ?_
  obtain ⟨b3, hb4, h⟩ := h
  rw [show va_rf r2 = Value.ref b3 from by rw [hb4]; rfl]
  obtain ⟨hf5, h⟩ := h
  refine z_getI (c := 9) (j := 2) (f := 902) hf5.1 hf5.2 (Nat.le_of_ble_eq_true rfl) rfl zU_X9 (Nat.le_of_ble_eq_true rfl) (Nat.le_of_ble_eq_true rfl) ⟨_, zw_125, Or.inl rfl⟩ rfl rfl dX10_rowAt_8 ?_
  refine z_callSV (st := []) (w_X10_requireIndex h) zw_587 zw_585 zw_586 zw_30 zy_X10_requireIndex rfl rfl ⟨Nat.le_of_ble_eq_true rfl, Nat.le_of_ble_eq_true rfl⟩ ⟨(Nat.le_of_ble_eq_true rfl), (Nat.le_of_ble_eq_true rfl)⟩ (Nat.le_of_ble_eq_true rfl) dX10_rowAt_11 (fun ex S6 hx => zx_out rfl ⟨rfl, hx⟩ (Nat.le_of_ble_eq_true rfl) (Nat.le_of_ble_eq_true rfl)) (fun S6 h => ?_)
  refine z_widen (k' := 2) (n' := 12) (Nat.le_refl _) (Nat.le_refl _) ?_
  refine z_aload_n 0 dX10_rowAt_14 rfl rfl ?_
  obtain ⟨hf8, h⟩ := h
  refine z_getQ (c := 9) (j := 8) (f := 908) hf8.1 hf8.2 (Nat.le_of_ble_eq_true rfl) rfl zU_X9 (Nat.le_of_ble_eq_true rfl) (Nat.le_of_ble_eq_true rfl) ⟨_, zw_140, Or.inl rfl⟩ rfl rfl dX10_rowAt_15 ?_
  refine z_iload_n 3 dX10_rowAt_18 rfl rfl ?_
  obtain ⟨b9, hb10, h⟩ := h
  rw [show va_rf (gR S6 908 b3) = Value.ref b9 from by rw [hb10]; rfl]
  obtain ⟨hf11, h⟩ := h
  obtain ⟨j12, hj13, h⟩ := h
  refine z_iald (j := j12) hf11.1 hf11.2 hj13.1 hj13.2.1 hj13.2.2 dX10_rowAt_19 ?_
  refine z_aload_n 0 dX10_rowAt_20 rfl rfl ?_
  refine z_getI (c := 9) (j := 1) (f := 901) hf8.1 hf8.2 (Nat.le_of_ble_eq_true rfl) rfl zU_X9 (Nat.le_of_ble_eq_true rfl) (Nat.le_of_ble_eq_true rfl) ⟨_, zw_122, Or.inl rfl⟩ rfl rfl dX10_rowAt_21 ?_
  refine z_callSI (st := []) (w_X8_number h) zw_462 zw_1173 zw_461 zw_48 zy_X8_number rfl rfl ⟨Nat.le_of_ble_eq_true rfl, Nat.le_of_ble_eq_true rfl⟩ ⟨(Nat.le_of_ble_eq_true rfl), (Nat.le_of_ble_eq_true rfl)⟩ (Nat.le_of_ble_eq_true rfl) dX10_rowAt_24 (fun _ _ hx => hx.elim) (fun r15 S14 h => ?_)
  refine z_widen (k' := 2) (n' := 12) (Nat.le_refl _) (Nat.le_refl _) ?_
  exact z_ireturn ⟨rfl, _, rfl, h⟩ rfl (Nat.le_of_ble_eq_true rfl) (Nat.le_of_ble_eq_true rfl) dX10_rowAt_27
set_option maxRecDepth 20000 in
set_option maxHeartbeats 4000000 in
theorem w_X10_bellAt {E : zE} {a0 : Nat} {l1 : Int32} {l2 : Int32} {l3 : Int32} {S : zS} {Q : Int32 → zS → Prop} {X : String → zS → Prop} (h : p_X10_bellAt E a0 l1 l2 l3 S Q X) : zM E yX10_bellAt cX10_bellAt 5 (some .int) ({ frames := 8, cells := 3, slots := 18, locals := 124 } : Room) [.ref a0, .int l1, .int l2, .int l3] S (qI Q) X := by
  unfold p_X10_bellAt at h
  refine zM_of RX10 false (by decide) rfl (fun h => by cases h) (Nat.le_of_ble_eq_true rfl) ?_
  refine z_aload_n 0 dX10_bellAt_0 rfl rfl ?_
  refine z_iload_n 1 dX10_bellAt_1 rfl rfl ?_
  obtain ⟨hf16, h⟩ := h
  refine z_callVR (ci := 10) (st := []) (w_X10_touchAt h) hf16.1 hf16.2 (Nat.le_of_ble_eq_true rfl) rfl zw_894 zw_891 zw_893 zw_19 zw_30 zy_X10_touchAt rfl rfl ⟨Nat.le_of_ble_eq_true rfl, Nat.le_of_ble_eq_true rfl⟩ ⟨(Nat.le_of_ble_eq_true rfl), (Nat.le_of_ble_eq_true rfl)⟩ (Nat.le_of_ble_eq_true rfl) dX10_bellAt_2 (fun ex S1 hx => zx_out rfl ⟨rfl, hx⟩ (Nat.le_of_ble_eq_true rfl) (Nat.le_of_ble_eq_true rfl)) (fun r2 S1 h => ?_)
  refine z_widen (k' := 1) (n' := 6) (Nat.le_refl _) (Nat.le_refl _) ?_
  refine z_astoreQ (lv' := [(4, va_rf r2), (0, .ref a0), (1, .int l1), (2, .int l2), (3, .int l3)]) dX10_bellAt_5 (Nat.le_of_ble_eq_true rfl) rfl ?_
  refine z_iload_n 3 dX10_bellAt_7 rfl rfl ?_
  refine z_aloadQ 0 dX10_bellAt_8 rfl ?_
  obtain ⟨b3, hb4, h⟩ := h
  rw [show va_rf r2 = Value.ref b3 from by rw [hb4]; rfl]
  obtain ⟨hf5, h⟩ := h
  refine z_getI (c := 9) (j := 2) (f := 902) hf5.1 hf5.2 (Nat.le_of_ble_eq_true rfl) rfl zU_X9 (Nat.le_of_ble_eq_true rfl) (Nat.le_of_ble_eq_true rfl) ⟨_, zw_125, Or.inl rfl⟩ rfl rfl dX10_bellAt_10 ?_
  refine z_callSV (st := []) (w_X10_requireIndex h) zw_587 zw_585 zw_586 zw_30 zy_X10_requireIndex rfl rfl ⟨Nat.le_of_ble_eq_true rfl, Nat.le_of_ble_eq_true rfl⟩ ⟨(Nat.le_of_ble_eq_true rfl), (Nat.le_of_ble_eq_true rfl)⟩ (Nat.le_of_ble_eq_true rfl) dX10_bellAt_13 (fun ex S6 hx => zx_out rfl ⟨rfl, hx⟩ (Nat.le_of_ble_eq_true rfl) (Nat.le_of_ble_eq_true rfl)) (fun S6 h => ?_)
  refine z_widen (k' := 2) (n' := 12) (Nat.le_refl _) (Nat.le_refl _) ?_
  refine z_iload_n 4 dX10_bellAt_16 rfl rfl ?_
  refine z_aload 0 dX10_bellAt_17 rfl ?_
  obtain ⟨hf8, h⟩ := h
  refine z_getI (c := 9) (j := 1) (f := 901) hf8.1 hf8.2 (Nat.le_of_ble_eq_true rfl) rfl zU_X9 (Nat.le_of_ble_eq_true rfl) (Nat.le_of_ble_eq_true rfl) ⟨_, zw_122, Or.inl rfl⟩ rfl rfl dX10_bellAt_19 ?_
  refine z_callSV (st := []) (w_X10_requireIndex h) zw_587 zw_585 zw_586 zw_30 zy_X10_requireIndex rfl rfl ⟨Nat.le_of_ble_eq_true rfl, Nat.le_of_ble_eq_true rfl⟩ ⟨(Nat.le_of_ble_eq_true rfl), (Nat.le_of_ble_eq_true rfl)⟩ (Nat.le_of_ble_eq_true rfl) dX10_bellAt_22 (fun ex S9 hx => zx_out rfl ⟨rfl, hx⟩ (Nat.le_of_ble_eq_true rfl) (Nat.le_of_ble_eq_true rfl)) (fun S9 h => ?_)
  refine z_widen (k' := 3) (n' := 18) (Nat.le_refl _) (Nat.le_refl _) ?_
  refine z_aload 0 dX10_bellAt_25 rfl ?_
  refine z_iload_n 3 dX10_bellAt_27 rfl rfl ?_
  obtain ⟨hf15, h⟩ := h
  refine z_callVI (ci := 9) (st := []) (w_X9_rowAnew h) hf15.1 hf15.2 (Nat.le_of_ble_eq_true rfl) rfl zw_1248 zw_1245 zw_1246 zw_1247 zw_36 zy_X9_rowAnew rfl rfl ⟨Nat.le_of_ble_eq_true rfl, Nat.le_of_ble_eq_true rfl⟩ ⟨(Nat.le_of_ble_eq_true rfl), (Nat.le_of_ble_eq_true rfl)⟩ (Nat.le_of_ble_eq_true rfl) dX10_bellAt_28 (fun _ _ hx => hx.elim) (fun r12 S11 h => ?_)
  refine z_widen (k' := 3) (n' := 18) (Nat.le_refl _) (Nat.le_refl _) ?_
  refine z_iload_n 4 dX10_bellAt_31 rfl rfl ?_
  refine z_callSI (st := []) (w_X8_bellIn h) zw_456 zw_1249 zw_455 zw_48 zy_X8_bellIn rfl rfl ⟨Nat.le_of_ble_eq_true rfl, Nat.le_of_ble_eq_true rfl⟩ ⟨(Nat.le_of_ble_eq_true rfl), (Nat.le_of_ble_eq_true rfl)⟩ (Nat.le_of_ble_eq_true rfl) dX10_bellAt_32 (fun _ _ hx => hx.elim) (fun r14 S13 h => ?_)
  refine z_widen (k' := 3) (n' := 18) (Nat.le_refl _) (Nat.le_refl _) ?_
  exact z_ireturn ⟨rfl, _, rfl, h⟩ rfl (Nat.le_of_ble_eq_true rfl) (Nat.le_of_ble_eq_true rfl) dX10_bellAt_35
set_option maxRecDepth 20000 in
set_option maxHeartbeats 4000000 in
theorem w_X10_isTrue {E : zE} {a0 : Nat} {l1 : Int32} {S : zS} {Q : Int32 → zS → Prop} {X : String → zS → Prop} (h : p_X10_isTrue E a0 l1 S Q X) : zM E yX10_isTrue cX10_isTrue 2 (some .boolean) ({ frames := 8, cells := 1, slots := 6, locals := 124 } : Room) [.ref a0, .int l1] S (qI Q) X := by
  unfold p_X10_isTrue at h
  refine zM_of RX10 false (by decide) rfl (fun h => by cases h) (Nat.le_of_ble_eq_true rfl) ?_
  refine z_aload_n 0 dX10_isTrue_0 rfl rfl ?_
  refine z_iload_n 1 dX10_isTrue_1 rfl rfl ?_
  obtain ⟨hf9, h⟩ := h
  refine z_callVR (ci := 10) (st := []) (w_X10_touchAt h) hf9.1 hf9.2 (Nat.le_of_ble_eq_true rfl) rfl zw_894 zw_891 zw_893 zw_19 zw_30 zy_X10_touchAt rfl rfl ⟨Nat.le_of_ble_eq_true rfl, Nat.le_of_ble_eq_true rfl⟩ ⟨(Nat.le_of_ble_eq_true rfl), (Nat.le_of_ble_eq_true rfl)⟩ (Nat.le_of_ble_eq_true rfl) dX10_isTrue_2 (fun ex S1 hx => zx_out rfl ⟨rfl, hx⟩ (Nat.le_of_ble_eq_true rfl) (Nat.le_of_ble_eq_true rfl)) (fun r2 S1 h => ?_)
  refine z_widen (k' := 1) (n' := 6) (Nat.le_refl _) (Nat.le_refl _) ?_
  obtain ⟨b3, hb4, h⟩ := h
  rw [show va_rf r2 = Value.ref b3 from by rw [hb4]; rfl]
  obtain ⟨hf5, h⟩ := h
  refine z_getI (c := 9) (j := 3) (f := 903) hf5.1 hf5.2 (Nat.le_of_ble_eq_true rfl) rfl zU_X9 (Nat.le_of_ble_eq_true rfl) (Nat.le_of_ble_eq_true rfl) ⟨_, zw_128, Or.inl rfl⟩ rfl rfl dX10_isTrue_5 ?_
  refine z_iconst (v := (-1)) dX10_isTrue_8 rfl ?_
  refine z_icmp_ne 16 dX10_isTrue_9 (by decide) (fun c8 => ?_) (fun c8 => ?_)
  · have h := h.1 c8
    refine z_iconst (v := 0) dX10_isTrue_16 rfl ?_
    obtain ⟨hz6, h⟩ := h
    exact z_zreturn ⟨rfl, _, rfl, h⟩ rfl (zbn hz6) (Nat.le_of_ble_eq_true rfl) (Nat.le_of_ble_eq_true rfl) dX10_isTrue_17
  · have h := h.2 c8
    refine z_iconst (v := 1) dX10_isTrue_12 rfl ?_
    refine z_goto 17 dX10_isTrue_13 (by decide) ?_
    obtain ⟨hz7, h⟩ := h
    exact z_zreturn ⟨rfl, _, rfl, h⟩ rfl (zbn hz7) (Nat.le_of_ble_eq_true rfl) (Nat.le_of_ble_eq_true rfl) dX10_isTrue_17
set_option maxRecDepth 20000 in
set_option maxHeartbeats 4000000 in
theorem w_X10_comesRound {E : zE} {a0 : Nat} {l1 : Int32} {S : zS} {Q : Int32 → zS → Prop} {X : String → zS → Prop} (h : p_X10_comesRound E a0 l1 S Q X) : zM E yX10_comesRound cX10_comesRound 2 (some .boolean) ({ frames := 8, cells := 1, slots := 6, locals := 124 } : Room) [.ref a0, .int l1] S (qI Q) X := by
  unfold p_X10_comesRound at h
  refine zM_of RX10 false (by decide) rfl (fun h => by cases h) (Nat.le_of_ble_eq_true rfl) ?_
  refine z_aload_n 0 dX10_comesRound_0 rfl rfl ?_
  refine z_iload_n 1 dX10_comesRound_1 rfl rfl ?_
  obtain ⟨hf7, h⟩ := h
  refine z_callVR (ci := 10) (st := []) (w_X10_touchAt h) hf7.1 hf7.2 (Nat.le_of_ble_eq_true rfl) rfl zw_894 zw_891 zw_893 zw_19 zw_30 zy_X10_touchAt rfl rfl ⟨Nat.le_of_ble_eq_true rfl, Nat.le_of_ble_eq_true rfl⟩ ⟨(Nat.le_of_ble_eq_true rfl), (Nat.le_of_ble_eq_true rfl)⟩ (Nat.le_of_ble_eq_true rfl) dX10_comesRound_2 (fun ex S1 hx => zx_out rfl ⟨rfl, hx⟩ (Nat.le_of_ble_eq_true rfl) (Nat.le_of_ble_eq_true rfl)) (fun r2 S1 h => ?_)
  refine z_widen (k' := 1) (n' := 6) (Nat.le_refl _) (Nat.le_refl _) ?_
  obtain ⟨b3, hb4, h⟩ := h
  rw [show va_rf r2 = Value.ref b3 from by rw [hb4]; rfl]
  obtain ⟨hf5, h⟩ := h
  refine z_getI (c := 9) (j := 5) (f := 905) hf5.1 hf5.2 (Nat.le_of_ble_eq_true rfl) rfl zU_X9 (Nat.le_of_ble_eq_true rfl) (Nat.le_of_ble_eq_true rfl) ⟨_, zw_132, Or.inl rfl⟩ rfl rfl dX10_comesRound_5 ?_
  obtain ⟨hz6, h⟩ := h
  exact z_zreturn ⟨rfl, _, rfl, h⟩ rfl (zbn hz6) (Nat.le_of_ble_eq_true rfl) (Nat.le_of_ble_eq_true rfl) dX10_comesRound_8
set_option maxRecDepth 20000 in
set_option maxHeartbeats 4000000 in
theorem w_X10_firstRepeat {E : zE} {a0 : Nat} {l1 : Int32} {S : zS} {Q : Int32 → zS → Prop} {X : String → zS → Prop} (h : p_X10_firstRepeat E a0 l1 S Q X) : zM E yX10_firstRepeat cX10_firstRepeat 2 (some .int) ({ frames := 8, cells := 1, slots := 6, locals := 124 } : Room) [.ref a0, .int l1] S (qI Q) X := by
  unfold p_X10_firstRepeat at h
  refine zM_of RX10 false (by decide) rfl (fun h => by cases h) (Nat.le_of_ble_eq_true rfl) ?_
  refine z_aload_n 0 dX10_firstRepeat_0 rfl rfl ?_
  refine z_iload_n 1 dX10_firstRepeat_1 rfl rfl ?_
  obtain ⟨hf6, h⟩ := h
  refine z_callVR (ci := 10) (st := []) (w_X10_touchAt h) hf6.1 hf6.2 (Nat.le_of_ble_eq_true rfl) rfl zw_894 zw_891 zw_893 zw_19 zw_30 zy_X10_touchAt rfl rfl ⟨Nat.le_of_ble_eq_true rfl, Nat.le_of_ble_eq_true rfl⟩ ⟨(Nat.le_of_ble_eq_true rfl), (Nat.le_of_ble_eq_true rfl)⟩ (Nat.le_of_ble_eq_true rfl) dX10_firstRepeat_2 (fun ex S1 hx => zx_out rfl ⟨rfl, hx⟩ (Nat.le_of_ble_eq_true rfl) (Nat.le_of_ble_eq_true rfl)) (fun r2 S1 h => ?_)
  refine z_widen (k' := 1) (n' := 6) (Nat.le_refl _) (Nat.le_refl _) ?_
  obtain ⟨b3, hb4, h⟩ := h
  rw [show va_rf r2 = Value.ref b3 from by rw [hb4]; rfl]
  obtain ⟨hf5, h⟩ := h
  refine z_getI (c := 9) (j := 3) (f := 903) hf5.1 hf5.2 (Nat.le_of_ble_eq_true rfl) rfl zU_X9 (Nat.le_of_ble_eq_true rfl) (Nat.le_of_ble_eq_true rfl) ⟨_, zw_128, Or.inl rfl⟩ rfl rfl dX10_firstRepeat_5 ?_
  exact z_ireturn ⟨rfl, _, rfl, h⟩ rfl (Nat.le_of_ble_eq_true rfl) (Nat.le_of_ble_eq_true rfl) dX10_firstRepeat_8
