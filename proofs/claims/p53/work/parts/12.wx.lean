set_option maxRecDepth 20000 in
set_option maxHeartbeats 4000000 in
theorem w_X1_init {E : zE} {a0 : Nat} {S : zS} {Q : zS → Prop} {X : String → zS → Prop} (h : p_X1_init E a0 S Q X) : zM E yX1_init cX1_init 1 none ({ frames := 1, cells := 3, slots := 244, locals := 12 } : Room) [.ref a0] S (qV Q) X := by
  unfold p_X1_init at h
  refine zM_of RX1 true (by decide) rfl (fun h => rfl) (Nat.le_of_ble_eq_true rfl) ?_
  refine z_aload_n 0 dX1_init_0 rfl rfl ?_
  refine z_objInit zw_181 (Nat.le_of_ble_eq_true rfl) (Nat.le_of_ble_eq_true rfl) dX1_init_1 ?_
  refine z_aload_n 0 dX1_init_4 rfl rfl ?_
  refine z_iconst (v := 2) dX1_init_5 rfl ?_
  refine z_newa (c := 12) (N := 2) (.inl ⟨rfl, rfl⟩) zw_101 rfl (Nat.le_of_ble_eq_true rfl) (Nat.le_of_ble_eq_true rfl) (Nat.le_of_ble_eq_true rfl) dX1_init_6 (fun q1 hq2 => ?_)
  have h := h q1 hq2 _ rfl
  obtain ⟨S3, hS4⟩ : ∃ z, z = nA S q1 12 2 := ⟨_, rfl⟩
  rw [← hS4] at h ⊢
  refine z_widen (k' := 1) (n' := 2) (Nat.le_refl _) (Nat.le_refl _) ?_
  obtain ⟨hf7, h⟩ := h
  have h := h _ rfl
  refine z_putV (c := 2) (j := 5) (ty0 := tyX1) (S' := sR S3 205 a0 (some q1)) hf7.1 hf7.2 (Nat.le_of_ble_eq_true rfl) rfl zU_X1 tyX1_ok nmX1 (Nat.le_of_ble_eq_true rfl) (Nat.le_of_ble_eq_true rfl) ⟨_, zw_193, Or.inl rfl⟩ (.inr ⟨rfl, rfl⟩) (zrefn (ty := tyX1 5) (o := (some q1)) (by decide)) (zreff (ty := tyX1 5) (o := (some q1)) (by decide)) rfl (zUpR (v := (some q1)) hf7.2 (Nat.le_of_ble_eq_true rfl) (Nat.le_of_ble_eq_true rfl) rfl rfl) dX1_init_8 ?_
  obtain ⟨S8, hS9⟩ : ∃ z, z = sR S3 205 a0 (some q1) := ⟨_, rfl⟩
  rw [← hS9] at h ⊢
  have hf7 : a0 ∈ gL S8 ∧ gK S8 a0 = 2 := by rw [hS9]; exact hf7
  refine z_aload_n 0 dX1_init_11 rfl rfl ?_
  refine z_iconst (v := 2) dX1_init_12 rfl ?_
  refine z_newa (c := 13) (N := 2) (.inr ⟨rfl, rfl⟩) zw_214 rfl (Nat.le_of_ble_eq_true rfl) (Nat.le_of_ble_eq_true rfl) (Nat.le_of_ble_eq_true rfl) dX1_init_13 (fun q10 hq11 => ?_)
  have h := h q10 hq11 _ rfl
  obtain ⟨S12, hS13⟩ : ∃ z, z = nA S8 q10 13 2 := ⟨_, rfl⟩
  rw [← hS13] at h ⊢
  refine z_widen (k' := 2) (n' := 4) (Nat.le_refl _) (Nat.le_refl _) ?_
  obtain ⟨hf16, h⟩ := h
  have h := h _ rfl
  refine z_putV (c := 2) (j := 6) (ty0 := tyX1) (S' := sR S12 206 a0 (some q10)) hf16.1 hf16.2 (Nat.le_of_ble_eq_true rfl) rfl zU_X1 tyX1_ok nmX1 (Nat.le_of_ble_eq_true rfl) (Nat.le_of_ble_eq_true rfl) ⟨_, zw_195, Or.inl rfl⟩ (.inr ⟨rfl, rfl⟩) (zrefn (ty := tyX1 6) (o := (some q10)) (by decide)) (zreff (ty := tyX1 6) (o := (some q10)) (by decide)) rfl (zUpR (v := (some q10)) hf16.2 (Nat.le_of_ble_eq_true rfl) (Nat.le_of_ble_eq_true rfl) rfl rfl) dX1_init_15 ?_
  obtain ⟨S17, hS18⟩ : ∃ z, z = sR S12 206 a0 (some q10) := ⟨_, rfl⟩
  rw [← hS18] at h ⊢
  have hf16 : a0 ∈ gL S17 ∧ gK S17 a0 = 2 := by rw [hS18]; exact hf16
  refine z_aload_n 0 dX1_init_18 rfl rfl ?_
  refine z_sipush (v := 240) dX1_init_19 rfl ?_
  refine z_newa (c := 12) (N := 240) (.inl ⟨rfl, rfl⟩) zw_101 rfl (Nat.le_of_ble_eq_true rfl) (Nat.le_of_ble_eq_true rfl) (Nat.le_of_ble_eq_true rfl) dX1_init_22 (fun q19 hq20 => ?_)
  have h := h q19 hq20 _ rfl
  obtain ⟨S21, hS22⟩ : ∃ z, z = nA S17 q19 12 240 := ⟨_, rfl⟩
  rw [← hS22] at h ⊢
  refine z_widen (k' := 3) (n' := 244) (Nat.le_refl _) (Nat.le_refl _) ?_
  obtain ⟨hf25, h⟩ := h
  have h := h _ rfl
  refine z_putV (c := 2) (j := 7) (ty0 := tyX1) (S' := sR S21 207 a0 (some q19)) hf25.1 hf25.2 (Nat.le_of_ble_eq_true rfl) rfl zU_X1 tyX1_ok nmX1 (Nat.le_of_ble_eq_true rfl) (Nat.le_of_ble_eq_true rfl) ⟨_, zw_196, Or.inl rfl⟩ (.inr ⟨rfl, rfl⟩) (zrefn (ty := tyX1 7) (o := (some q19)) (by decide)) (zreff (ty := tyX1 7) (o := (some q19)) (by decide)) rfl (zUpR (v := (some q19)) hf25.2 (Nat.le_of_ble_eq_true rfl) (Nat.le_of_ble_eq_true rfl) rfl rfl) dX1_init_24 ?_
  obtain ⟨S26, hS27⟩ : ∃ z, z = sR S21 207 a0 (some q19) := ⟨_, rfl⟩
  rw [← hS27] at h ⊢
  have hf25 : a0 ∈ gL S26 ∧ gK S26 a0 = 2 := by rw [hS27]; exact hf25
  exact z_return ⟨rfl, rfl, h⟩ rfl (Nat.le_of_ble_eq_true rfl) (Nat.le_of_ble_eq_true rfl) dX1_init_27
set_option maxRecDepth 20000 in
set_option maxHeartbeats 4000000 in
theorem w_X0_init_L15 {E : zE} {K40 : zS → Prop} {Q : zS → Prop} {X : String → zS → Prop} (hK40 : ∀  (S : zS), K40  S → zJ E (RX0, cX0_init, 2, none, true, [], zTr) ({ frames := 2, cells := 29, slots := 1770, locals := 32 } : Room) (zq (qV Q)) (zx X) 40 [] [] [] S 29 1770) : ∀ (m15 k n : Nat), k + m15 * 4 ≤ 29 → n + m15 * 252 ≤ 1770 → ∀ (a0 : Nat) (l1 : Int32) (S : zS), p_X0_init_L15 E K40 Q X m15 a0 l1 S → zJ E (RX0, cX0_init, 2, none, true, [], zTr) ({ frames := 2, cells := 29, slots := 1770, locals := 32 } : Room) (zq (qV Q)) (zx X) 15 [(0, .ref a0), (1, .int l1)] [] [] S k n := by
  intro m15
  induction m15 with
  | zero => intro k n hk hn a0 l1 S h; exact (show False from h).elim
  | succ m15 ih =>
    intro k n hk hn a0 l1 S h
    unfold p_X0_init_L15 at h
    refine z_iload_n 1 dX0_init_15 rfl rfl ?_
    refine z_bipush (v := 6) dX0_init_16 rfl ?_
    refine z_icmp_ge 40 dX0_init_18 (by decide) (fun c25 => ?_) (fun c25 => ?_)
    · have h := h.1 c25
      refine z_sub [] rfl ?_
      refine z_widen (k' := 29) (n' := 1770) (by omega) (by omega) ?_
      exact hK40 S h
    · have h := h.2 c25
      refine z_aload_n 0 dX0_init_21 rfl rfl ?_
      obtain ⟨hf10, h⟩ := h
      refine z_getQ (c := 1) (j := 0) (f := 100) hf10.1 hf10.2 (Nat.le_of_ble_eq_true rfl) rfl zU_X0 (Nat.le_of_ble_eq_true rfl) (Nat.le_of_ble_eq_true rfl) ⟨_, zw_215, Or.inl rfl⟩ rfl rfl dX0_init_22 ?_
      refine z_iload_n 1 dX0_init_25 rfl rfl ?_
      refine z_new (c := 2) (ty0 := tyX1) (Nat.le_of_ble_eq_true rfl) rfl zU_X1 tyX1_ok z0_X1 zw_175 zw_177 zw_38 (by show k + 1 ≤ 29; omega) (by show n + 8 ≤ 1770; omega) dX0_init_26 (fun q11 hq12 => ?_)
      have h := h q11 hq12 _ rfl
      obtain ⟨S13, hS14⟩ : ∃ z, z = nO S q11 2 := ⟨_, rfl⟩
      rw [← hS14] at h ⊢
      refine z_widen (k' := (k + 1)) (n' := (n + 8)) (Nat.le_of_eq rfl) (Nat.le_of_eq rfl) ?_
      refine z_dup dX0_init_29 rfl ?_
      refine z_callIV (st := [.ref q11, .int l1, va_rf (gR S 100 a0)]) (w_X1_init h) zw_180 zw_178 zw_179 zw_38 rfl zy_X1_init rfl rfl ⟨Nat.le_of_ble_eq_true rfl, Nat.le_of_ble_eq_true rfl⟩ ⟨(by show (k + 1) + 3 ≤ 29; omega), (by show (n + 8) + 244 ≤ 1770; omega)⟩ (by generalize (gR S 100 a0) = z9; cases z9 <;> exact (Nat.le_of_ble_eq_true rfl)) dX0_init_30 (fun _ _ hx => hx.elim) (fun S15 h => ?_)
      refine z_widen (k' := (k + 4)) (n' := (n + 252)) (Nat.le_of_eq rfl) (Nat.le_of_eq rfl) ?_
      obtain ⟨b17, hb18, h⟩ := h
      rw [show va_rf (gR S 100 a0) = Value.ref b17 from by rw [hb18]; rfl]
      obtain ⟨hf19, h⟩ := h
      obtain ⟨j20, hj21, h⟩ := h
      obtain ⟨hx24, h⟩ := h
      have h := h _ rfl
      refine z_aast (c := 14) (r := vwCl.getD 2 ("", TX0, 0)) (j := j20) hf19.1 hf19.2 (Nat.le_of_ble_eq_true rfl) (by decide) hx24.1 hx24.2 hj21.1 hj21.2.1 hj21.2.2 dX0_init_33 ?_
      obtain ⟨S22, hS23⟩ : ∃ z, z = sQ S15 b17 j20 (some q11) := ⟨_, rfl⟩
      rw [← hS23] at h ⊢
      have hf19 : b17 ∈ gL S22 ∧ gK S22 b17 = 14 := by rw [hS23]; exact hf19
      refine z_iinc (v := (l1 + 1)) (lv' := [(1, .int (l1 + 1)), (0, .ref a0)]) 1 dX0_init_34 rfl rfl (Nat.le_of_ble_eq_true rfl) rfl ?_
      refine z_goto 15 dX0_init_37 (by decide) ?_
      refine z_sub [1, 0] rfl ?_
      exact ih (k + 4) (n + 252) (by omega) (by omega) a0 (l1 + 1) S22 h
set_option maxRecDepth 20000 in
set_option maxHeartbeats 4000000 in
theorem w_X0_init {E : zE} {a0 : Nat} {S : zS} {Q : zS → Prop} {X : String → zS → Prop} (h : p_X0_init E a0 S Q X) : zM E yX0_init cX0_init 2 none ({ frames := 2, cells := 29, slots := 1770, locals := 32 } : Room) [.ref a0] S (qV Q) X := by
  unfold p_X0_init at h
  refine zM_of RX0 true (by decide) rfl (fun h => rfl) (Nat.le_of_ble_eq_true rfl) ?_
  refine z_aload_n 0 dX0_init_0 rfl rfl ?_
  refine z_objInit zw_174 (Nat.le_of_ble_eq_true rfl) (Nat.le_of_ble_eq_true rfl) dX0_init_1 ?_
  refine z_aload_n 0 dX0_init_4 rfl rfl ?_
  refine z_bipush (v := 6) dX0_init_5 rfl ?_
  refine z_newq (c := 14) (N := 6) (by decide) zw_175 rfl (Nat.le_of_ble_eq_true rfl) (Nat.le_of_ble_eq_true rfl) (Nat.le_of_ble_eq_true rfl) dX0_init_7 (fun q1 hq2 => ?_)
  have h := h q1 hq2 _ rfl
  obtain ⟨S3, hS4⟩ : ∃ z, z = nA S q1 14 6 := ⟨_, rfl⟩
  rw [← hS4] at h ⊢
  refine z_widen (k' := 1) (n' := 6) (Nat.le_refl _) (Nat.le_refl _) ?_
  obtain ⟨hf7, h⟩ := h
  have h := h _ rfl
  refine z_putV (c := 1) (j := 0) (ty0 := tyX0) (S' := sR S3 100 a0 (some q1)) hf7.1 hf7.2 (Nat.le_of_ble_eq_true rfl) rfl zU_X0 tyX0_ok nmX0 (Nat.le_of_ble_eq_true rfl) (Nat.le_of_ble_eq_true rfl) ⟨_, zw_215, Or.inl rfl⟩ (.inr ⟨rfl, rfl⟩) (zrefn (ty := tyX0 0) (o := (some q1)) (by decide)) (zreff (ty := tyX0 0) (o := (some q1)) (by decide)) rfl (zUpR (v := (some q1)) hf7.2 (Nat.le_of_ble_eq_true rfl) (Nat.le_of_ble_eq_true rfl) rfl rfl) dX0_init_10 ?_
  obtain ⟨S8, hS9⟩ : ∃ z, z = sR S3 100 a0 (some q1) := ⟨_, rfl⟩
  rw [← hS9] at h ⊢
  have hf7 : a0 ∈ gL S8 ∧ gK S8 a0 = 1 := by rw [hS9]; exact hf7
  refine z_iconst (v := 0) dX0_init_13 rfl ?_
  refine z_istore_n (lv' := [(1, .int 0), (0, .ref a0)]) dX0_init_14 rfl (Nat.le_of_ble_eq_true rfl) rfl ?_
  obtain ⟨m15, hm, h⟩ := h
  refine z_sub [1, 0] rfl ?_
  refine w_X0_init_L15 (fun S h => ?_) m15 1 6 (by omega) (by omega) a0 0 S8 h
  exact z_return ⟨rfl, rfl, h⟩ rfl (Nat.le_of_ble_eq_true rfl) (Nat.le_of_ble_eq_true rfl) dX0_init_40
set_option maxRecDepth 20000 in
set_option maxHeartbeats 4000000 in
theorem w_X1_isUsable {E : zE} {a0 : Nat} {S : zS} {Q : Int32 → zS → Prop} {X : String → zS → Prop} (h : p_X1_isUsable E a0 S Q X) : zM E yX1_isUsable cX1_isUsable 1 (some .boolean) ({ frames := 0, cells := 0, slots := 0, locals := 0 } : Room) [.ref a0] S (qI Q) X := by
  unfold p_X1_isUsable at h
  refine zM_of RX1 false (by decide) rfl (fun h => by cases h) (Nat.le_of_ble_eq_true rfl) ?_
  refine z_aload_n 0 dX1_isUsable_0 rfl rfl ?_
  obtain ⟨hf1, h⟩ := h
  refine z_getI (c := 2) (j := 0) (f := 200) hf1.1 hf1.2 (Nat.le_of_ble_eq_true rfl) rfl zU_X1 (Nat.le_of_ble_eq_true rfl) (Nat.le_of_ble_eq_true rfl) ⟨_, zw_182, Or.inl rfl⟩ rfl rfl dX1_isUsable_1 ?_
  refine z_if_ne 29 dX1_isUsable_4 (by decide) (fun c18 => ?_) (fun c18 => ?_)
  · have h := h.1 c18
    refine z_iconst (v := 0) dX1_isUsable_29 rfl ?_
    obtain ⟨hz2, h⟩ := h
    exact z_zreturn ⟨rfl, _, rfl, h⟩ rfl (zbn hz2) (Nat.le_of_ble_eq_true rfl) (Nat.le_of_ble_eq_true rfl) dX1_isUsable_30
  · have h := h.2 c18
    refine z_aload_n 0 dX1_isUsable_7 rfl rfl ?_
    refine z_getQ (c := 2) (j := 6) (f := 206) hf1.1 hf1.2 (Nat.le_of_ble_eq_true rfl) rfl zU_X1 (Nat.le_of_ble_eq_true rfl) (Nat.le_of_ble_eq_true rfl) ⟨_, zw_195, Or.inl rfl⟩ rfl rfl dX1_isUsable_8 ?_
    refine z_iconst (v := 0) dX1_isUsable_11 rfl ?_
    obtain ⟨b3, hb4, h⟩ := h
    rw [show va_rf (gR S 206 a0) = Value.ref b3 from by rw [hb4]; rfl]
    obtain ⟨hf5, h⟩ := h
    obtain ⟨hj7, h⟩ := h
    refine z_zald (j := 0) hf5.1 hf5.2 rfl hj7.1 hj7.2 dX1_isUsable_12 ?_
    refine z_if_ne 29 dX1_isUsable_13 (by decide) (fun c17 => ?_) (fun c17 => ?_)
    · have h := h.1 c17
      refine z_iconst (v := 0) dX1_isUsable_29 rfl ?_
      obtain ⟨hz8, h⟩ := h
      exact z_zreturn ⟨rfl, _, rfl, h⟩ rfl (zbn hz8) (Nat.le_of_ble_eq_true rfl) (Nat.le_of_ble_eq_true rfl) dX1_isUsable_30
    · have h := h.2 c17
      refine z_aload_n 0 dX1_isUsable_16 rfl rfl ?_
      refine z_getQ (c := 2) (j := 6) (f := 206) hf1.1 hf1.2 (Nat.le_of_ble_eq_true rfl) rfl zU_X1 (Nat.le_of_ble_eq_true rfl) (Nat.le_of_ble_eq_true rfl) ⟨_, zw_195, Or.inl rfl⟩ rfl rfl dX1_isUsable_17 ?_
      refine z_iconst (v := 1) dX1_isUsable_20 rfl ?_
      obtain ⟨b9, hb10, h⟩ := h
      rw [show va_rf (gR S 206 a0) = Value.ref b9 from by rw [hb10]; rfl]
      obtain ⟨hf11, h⟩ := h
      obtain ⟨hj13, h⟩ := h
      refine z_zald (j := 1) hf11.1 hf11.2 rfl hj13.1 hj13.2 dX1_isUsable_21 ?_
      refine z_if_ne 29 dX1_isUsable_22 (by decide) (fun c16 => ?_) (fun c16 => ?_)
      · have h := h.1 c16
        refine z_iconst (v := 0) dX1_isUsable_29 rfl ?_
        obtain ⟨hz14, h⟩ := h
        exact z_zreturn ⟨rfl, _, rfl, h⟩ rfl (zbn hz14) (Nat.le_of_ble_eq_true rfl) (Nat.le_of_ble_eq_true rfl) dX1_isUsable_30
      · have h := h.2 c16
        refine z_iconst (v := 1) dX1_isUsable_25 rfl ?_
        refine z_goto 30 dX1_isUsable_26 (by decide) ?_
        obtain ⟨hz15, h⟩ := h
        exact z_zreturn ⟨rfl, _, rfl, h⟩ rfl (zbn hz15) (Nat.le_of_ble_eq_true rfl) (Nat.le_of_ble_eq_true rfl) dX1_isUsable_30
set_option maxRecDepth 20000 in
set_option maxHeartbeats 4000000 in
theorem w_X0_bellsOut_L4 {E : zE} {K34 : Int32 → zS → Prop} {Q : Int32 → zS → Prop} {X : String → zS → Prop} (hK34 : ∀ (l1 : Int32) (S : zS), K34 l1 S → zJ E (RX0, cX0_bellsOut, 3, (some .int), false, [], zTr) ({ frames := 1, cells := 0, slots := 0, locals := 20 } : Room) (zq (qI Q)) (zx X) 34 [(1, .int l1)] [] [] S 0 0) : ∀ (m4 : Nat) (a0 : Nat) (l1 : Int32) (l2 : Int32) (S : zS), p_X0_bellsOut_L4 E K34 Q X m4 a0 l1 l2 S → zJ E (RX0, cX0_bellsOut, 3, (some .int), false, [], zTr) ({ frames := 1, cells := 0, slots := 0, locals := 20 } : Room) (zq (qI Q)) (zx X) 4 [(0, .ref a0), (1, .int l1), (2, .int l2)] [] [] S 0 0 := by
  intro m4
  induction m4 with
  | zero => intro a0 l1 l2 S h; exact (show False from h).elim
  | succ m4 ih =>
    intro a0 l1 l2 S h
    unfold p_X0_bellsOut_L4 at h
    refine z_iload_n 2 dX0_bellsOut_4 rfl rfl ?_
    refine z_bipush (v := 6) dX0_bellsOut_5 rfl ?_
    refine z_icmp_ge 34 dX0_bellsOut_7 (by decide) (fun c13 => ?_) (fun c13 => ?_)
    · have h := h.1 c13
      refine z_sub [1] rfl ?_
      exact hK34 l1 S h
    · have h := h.2 c13
      refine z_aload_n 0 dX0_bellsOut_10 rfl rfl ?_
      obtain ⟨hf1, h⟩ := h
      refine z_getQ (c := 1) (j := 0) (f := 100) hf1.1 hf1.2 (Nat.le_of_ble_eq_true rfl) rfl zU_X0 (Nat.le_of_ble_eq_true rfl) (Nat.le_of_ble_eq_true rfl) ⟨_, zw_215, Or.inl rfl⟩ rfl rfl dX0_bellsOut_11 ?_
      refine z_iload_n 2 dX0_bellsOut_14 rfl rfl ?_
      obtain ⟨b2, hb3, h⟩ := h
      rw [show va_rf (gR S 100 a0) = Value.ref b2 from by rw [hb3]; rfl]
      obtain ⟨hf4, h⟩ := h
      obtain ⟨j5, hj6, h⟩ := h
      refine z_aald (j := j5) hf4.1 rfl hf4.2.1 hf4.2.2 hj6.1 hj6.2.1 hj6.2.2 dX0_bellsOut_15 ?_
      obtain ⟨b7, hb8, h⟩ := h
      rw [show va_rf (gQ S b2 j5) = Value.ref b7 from by rw [hb8]; rfl]
      obtain ⟨hf12, h⟩ := h
      refine z_callVI (ci := 2) (st := []) (w_X1_isUsable h) hf12.1 hf12.2 (Nat.le_of_ble_eq_true rfl) rfl zw_674 zw_671 zw_672 zw_673 zw_38 zy_X1_isUsable rfl rfl ⟨Nat.le_of_ble_eq_true rfl, Nat.le_of_ble_eq_true rfl⟩ ⟨(Nat.le_of_ble_eq_true rfl), (Nat.le_of_ble_eq_true rfl)⟩ (Nat.le_of_ble_eq_true rfl) dX0_bellsOut_16 (fun _ _ hx => hx.elim) (fun r10 S9 h => ?_)
      refine z_widen (k' := 0) (n' := 0) (Nat.le_refl _) (Nat.le_refl _) ?_
      refine z_if_ne 28 dX0_bellsOut_19 (by decide) (fun c11 => ?_) (fun c11 => ?_)
      · have h := h.1 c11
        refine z_iinc (v := (l2 + 1)) (lv' := [(2, .int (l2 + 1)), (0, .ref a0), (1, .int l1)]) 2 dX0_bellsOut_28 rfl rfl (Nat.le_of_ble_eq_true rfl) rfl ?_
        refine z_goto 4 dX0_bellsOut_31 (by decide) ?_
        refine z_sub [1, 2, 0] rfl ?_
        exact ih a0 l1 (l2 + 1) S9 h
      · have h := h.2 c11
        refine z_iload_n 1 dX0_bellsOut_22 rfl rfl ?_
        refine z_iconst (v := 1) dX0_bellsOut_23 rfl ?_
        refine z_iload_n 2 dX0_bellsOut_24 rfl rfl ?_
        refine z_ishl dX0_bellsOut_25 ?_
        refine z_ior dX0_bellsOut_26 ?_
        refine z_istore_n (lv' := [(1, .int (l1 ||| (1 <<< (l2 &&& 31)))), (0, .ref a0), (2, .int l2)]) dX0_bellsOut_27 rfl (Nat.le_of_ble_eq_true rfl) rfl ?_
        refine z_iinc (v := (l2 + 1)) (lv' := [(2, .int (l2 + 1)), (1, .int (l1 ||| (1 <<< (l2 &&& 31)))), (0, .ref a0)]) 2 dX0_bellsOut_28 rfl rfl (Nat.le_of_ble_eq_true rfl) rfl ?_
        refine z_goto 4 dX0_bellsOut_31 (by decide) ?_
        refine z_sub [2, 1, 0] rfl ?_
        exact ih a0 (l1 ||| (1 <<< (l2 &&& 31))) (l2 + 1) S9 h
set_option maxRecDepth 20000 in
set_option maxHeartbeats 4000000 in
theorem w_X0_bellsOut {E : zE} {a0 : Nat} {S : zS} {Q : Int32 → zS → Prop} {X : String → zS → Prop} (h : p_X0_bellsOut E a0 S Q X) : zM E yX0_bellsOut cX0_bellsOut 3 (some .int) ({ frames := 1, cells := 0, slots := 0, locals := 20 } : Room) [.ref a0] S (qI Q) X := by
  unfold p_X0_bellsOut at h
  refine zM_of RX0 false (by decide) rfl (fun h => by cases h) (Nat.le_of_ble_eq_true rfl) ?_
  refine z_iconst (v := 0) dX0_bellsOut_0 rfl ?_
  refine z_istore_n (lv' := [(1, .int 0), (0, .ref a0)]) dX0_bellsOut_1 rfl (Nat.le_of_ble_eq_true rfl) rfl ?_
  refine z_iconst (v := 0) dX0_bellsOut_2 rfl ?_
  refine z_istore_n (lv' := [(2, .int 0), (1, .int 0), (0, .ref a0)]) dX0_bellsOut_3 rfl (Nat.le_of_ble_eq_true rfl) rfl ?_
  obtain ⟨m4, h⟩ := h
  refine z_sub [2, 1, 0] rfl ?_
  refine w_X0_bellsOut_L4 (fun l1 S h => ?_) m4 a0 0 0 S h
  refine z_iload_n 0 dX0_bellsOut_34 rfl rfl ?_
  exact z_ireturn ⟨rfl, _, rfl, h⟩ rfl (Nat.le_of_ble_eq_true rfl) (Nat.le_of_ble_eq_true rfl) dX0_bellsOut_35
set_option maxRecDepth 20000 in
set_option maxHeartbeats 4000000 in
theorem w_X1_noteWornOut_J53 {E : zE}  {Q : Int32 → zS → Prop} {X : String → zS → Prop}  (a0 : Nat) (l1 : Int32) (l100 : Int32) (S : zS) (h : p_X1_noteWornOut_J53 E  Q X a0 l1 l100 S) : zJ E (RX1, cX1_noteWornOut, 3, (some .boolean), false, [], zTr) ({ frames := 0, cells := 0, slots := 0, locals := 0 } : Room) (zq (qI Q)) (zx X) 53 [(0, .ref a0), (1, .int l1)] [.int l100] [] S 0 0 := by
  unfold p_X1_noteWornOut_J53 at h
  refine z_istore_n (lv' := [(2, .int l100), (0, .ref a0), (1, .int l1)]) dX1_noteWornOut_53 rfl (Nat.le_of_ble_eq_true rfl) rfl ?_
  refine z_aload_n 1 dX1_noteWornOut_54 rfl rfl ?_
  obtain ⟨hf13, h⟩ := h
  refine z_getQ (c := 2) (j := 6) (f := 206) hf13.1 hf13.2 (Nat.le_of_ble_eq_true rfl) rfl zU_X1 (Nat.le_of_ble_eq_true rfl) (Nat.le_of_ble_eq_true rfl) ⟨_, zw_195, Or.inl rfl⟩ rfl rfl dX1_noteWornOut_55 ?_
  refine z_iconst (v := 0) dX1_noteWornOut_58 rfl ?_
  refine z_dup2 dX1_noteWornOut_59 rfl (zcat _) ?_
  obtain ⟨b14, hb15, h⟩ := h
  rw [show va_rf (gR S 206 a0) = Value.ref b14 from by rw [hb15]; rfl]
  obtain ⟨hf16, h⟩ := h
  obtain ⟨hj18, h⟩ := h
  refine z_zald (j := 0) hf16.1 hf16.2 rfl hj18.1 hj18.2 dX1_noteWornOut_60 ?_
  refine z_iload_n 2 dX1_noteWornOut_61 rfl rfl ?_
  refine z_ior dX1_noteWornOut_62 ?_
  obtain ⟨hj20, h⟩ := h
  obtain ⟨hx38, h⟩ := h
  have h := h _ rfl
  refine z_zast (j := 0) hf16.1 hf16.2 rfl hj20.1 hj20.2 (zbb hx38) dX1_noteWornOut_63 ?_
  obtain ⟨S21, hS22⟩ : ∃ z, z = sA S b14 0 ((gA S b14 0) ||| l1) := ⟨_, rfl⟩
  rw [← hS22] at h ⊢
  have hf13 : a0 ∈ gL S21 ∧ gK S21 a0 = 2 := by rw [hS22]; exact hf13
  have hf16 : b14 ∈ gL S21 ∧ gK S21 b14 = 13 := by rw [hS22]; exact hf16
  refine z_aload_n 1 dX1_noteWornOut_64 rfl rfl ?_
  refine z_getQ (c := 2) (j := 6) (f := 206) hf13.1 hf13.2 (Nat.le_of_ble_eq_true rfl) rfl zU_X1 (Nat.le_of_ble_eq_true rfl) (Nat.le_of_ble_eq_true rfl) ⟨_, zw_195, Or.inl rfl⟩ rfl rfl dX1_noteWornOut_65 ?_
  refine z_iconst (v := 1) dX1_noteWornOut_68 rfl ?_
  refine z_dup2 dX1_noteWornOut_69 rfl (zcat _) ?_
  obtain ⟨b23, hb24, h⟩ := h
  rw [show va_rf (gR S21 206 a0) = Value.ref b23 from by rw [hb24]; rfl]
  obtain ⟨hf25, h⟩ := h
  obtain ⟨hj27, h⟩ := h
  refine z_zald (j := 1) hf25.1 hf25.2 rfl hj27.1 hj27.2 dX1_noteWornOut_70 ?_
  refine z_iload_n 0 dX1_noteWornOut_71 rfl rfl ?_
  refine z_ior dX1_noteWornOut_72 ?_
  obtain ⟨hj29, h⟩ := h
  obtain ⟨hx37, h⟩ := h
  have h := h _ rfl
  refine z_zast (j := 1) hf25.1 hf25.2 rfl hj29.1 hj29.2 (zbb hx37) dX1_noteWornOut_73 ?_
  obtain ⟨S30, hS31⟩ : ∃ z, z = sA S21 b23 1 ((gA S21 b23 1) ||| l100) := ⟨_, rfl⟩
  rw [← hS31] at h ⊢
  have hf13 : a0 ∈ gL S30 ∧ gK S30 a0 = 2 := by rw [hS31]; exact hf13
  have hf16 : b14 ∈ gL S30 ∧ gK S30 b14 = 13 := by rw [hS31]; exact hf16
  have hf25 : b23 ∈ gL S30 ∧ gK S30 b23 = 13 := by rw [hS31]; exact hf25
  refine z_iload_n 2 dX1_noteWornOut_74 rfl rfl ?_
  refine z_if_ne 82 dX1_noteWornOut_75 (by decide) (fun c36 => ?_) (fun c36 => ?_)
  · have h := h.1 c36
    refine z_iconst (v := 1) dX1_noteWornOut_82 rfl ?_
    refine z_goto 87 dX1_noteWornOut_83 (by decide) ?_
    obtain ⟨hz32, h⟩ := h
    exact z_zreturn ⟨rfl, _, rfl, h⟩ rfl (zbn hz32) (Nat.le_of_ble_eq_true rfl) (Nat.le_of_ble_eq_true rfl) dX1_noteWornOut_87
  · have h := h.2 c36
    refine z_iload_n 0 dX1_noteWornOut_78 rfl rfl ?_
    refine z_if_eq 86 dX1_noteWornOut_79 (by decide) (fun c35 => ?_) (fun c35 => ?_)
    · have h := h.1 c35
      refine z_iconst (v := 0) dX1_noteWornOut_86 rfl ?_
      obtain ⟨hz33, h⟩ := h
      exact z_zreturn ⟨rfl, _, rfl, h⟩ rfl (zbn hz33) (Nat.le_of_ble_eq_true rfl) (Nat.le_of_ble_eq_true rfl) dX1_noteWornOut_87
    · have h := h.2 c35
      refine z_iconst (v := 1) dX1_noteWornOut_82 rfl ?_
      refine z_goto 87 dX1_noteWornOut_83 (by decide) ?_
      obtain ⟨hz34, h⟩ := h
      exact z_zreturn ⟨rfl, _, rfl, h⟩ rfl (zbn hz34) (Nat.le_of_ble_eq_true rfl) (Nat.le_of_ble_eq_true rfl) dX1_noteWornOut_87
set_option maxRecDepth 20000 in
set_option maxHeartbeats 4000000 in
theorem w_X1_noteWornOut_J52 {E : zE}  {Q : Int32 → zS → Prop} {X : String → zS → Prop}  (a0 : Nat) (l1 : Int32) (S : zS) (h : p_X1_noteWornOut_J52 E  Q X a0 l1 S) : zJ E (RX1, cX1_noteWornOut, 3, (some .boolean), false, [], zTr) ({ frames := 0, cells := 0, slots := 0, locals := 0 } : Room) (zq (qI Q)) (zx X) 52 [(0, .ref a0), (1, .int l1)] [] [] S 0 0 := by
  unfold p_X1_noteWornOut_J52 at h
  refine z_iconst (v := 0) dX1_noteWornOut_52 rfl ?_
  refine w_X1_noteWornOut_J53 a0 l1 0 S h
set_option maxRecDepth 20000 in
set_option maxHeartbeats 4000000 in
theorem w_X1_noteWornOut_J26 {E : zE}  {Q : Int32 → zS → Prop} {X : String → zS → Prop}  (a0 : Nat) (l100 : Int32) (S : zS) (h : p_X1_noteWornOut_J26 E  Q X a0 l100 S) : zJ E (RX1, cX1_noteWornOut, 3, (some .boolean), false, [], zTr) ({ frames := 0, cells := 0, slots := 0, locals := 0 } : Room) (zq (qI Q)) (zx X) 26 [(0, .ref a0)] [.int l100] [] S 0 0 := by
  unfold p_X1_noteWornOut_J26 at h
  refine z_istore_n (lv' := [(1, .int l100), (0, .ref a0)]) dX1_noteWornOut_26 rfl (Nat.le_of_ble_eq_true rfl) rfl ?_
  refine z_aload_n 1 dX1_noteWornOut_27 rfl rfl ?_
  obtain ⟨hf7, h⟩ := h
  refine z_getQ (c := 2) (j := 6) (f := 206) hf7.1 hf7.2 (Nat.le_of_ble_eq_true rfl) rfl zU_X1 (Nat.le_of_ble_eq_true rfl) (Nat.le_of_ble_eq_true rfl) ⟨_, zw_195, Or.inl rfl⟩ rfl rfl dX1_noteWornOut_28 ?_
  refine z_iconst (v := 1) dX1_noteWornOut_31 rfl ?_
  obtain ⟨b8, hb9, h⟩ := h
  rw [show va_rf (gR S 206 a0) = Value.ref b8 from by rw [hb9]; rfl]
  obtain ⟨hf10, h⟩ := h
  obtain ⟨hj12, h⟩ := h
  refine z_zald (j := 1) hf10.1 hf10.2 rfl hj12.1 hj12.2 dX1_noteWornOut_32 ?_
  refine z_if_ne 52 dX1_noteWornOut_33 (by decide) (fun c45 => ?_) (fun c45 => ?_)
  · have h := h.1 c45
    refine z_sub [1, 0] rfl ?_
    refine w_X1_noteWornOut_J52 a0 l100 S h
  · have h := h.2 c45
    refine z_aload_n 1 dX1_noteWornOut_36 rfl rfl ?_
    refine z_getQ (c := 2) (j := 5) (f := 205) hf7.1 hf7.2 (Nat.le_of_ble_eq_true rfl) rfl zU_X1 (Nat.le_of_ble_eq_true rfl) (Nat.le_of_ble_eq_true rfl) ⟨_, zw_193, Or.inl rfl⟩ rfl rfl dX1_noteWornOut_37 ?_
    refine z_iconst (v := 1) dX1_noteWornOut_40 rfl ?_
    obtain ⟨b39, hb40, h⟩ := h
    rw [show va_rf (gR S 205 a0) = Value.ref b39 from by rw [hb40]; rfl]
    obtain ⟨hf41, h⟩ := h
    obtain ⟨hj43, h⟩ := h
    refine z_iald (j := 1) hf41.1 hf41.2 rfl hj43.1 hj43.2 dX1_noteWornOut_41 ?_
    refine z_sipush (v := 200) dX1_noteWornOut_42 rfl ?_
    refine z_icmp_lt 52 dX1_noteWornOut_45 (by decide) (fun c44 => ?_) (fun c44 => ?_)
    · have h := h.1 c44
      refine z_sub [1, 0] rfl ?_
      refine w_X1_noteWornOut_J52 a0 l100 S h
    · have h := h.2 c44
      refine z_iconst (v := 1) dX1_noteWornOut_48 rfl ?_
      refine z_goto 53 dX1_noteWornOut_49 (by decide) ?_
      refine z_sub [1, 0] rfl ?_
      refine w_X1_noteWornOut_J53 a0 l100 1 S h
set_option maxRecDepth 20000 in
set_option maxHeartbeats 4000000 in
theorem w_X1_noteWornOut_J25 {E : zE}  {Q : Int32 → zS → Prop} {X : String → zS → Prop}  (a0 : Nat) (S : zS) (h : p_X1_noteWornOut_J25 E  Q X a0 S) : zJ E (RX1, cX1_noteWornOut, 3, (some .boolean), false, [], zTr) ({ frames := 0, cells := 0, slots := 0, locals := 0 } : Room) (zq (qI Q)) (zx X) 25 [(0, .ref a0)] [] [] S 0 0 := by
  unfold p_X1_noteWornOut_J25 at h
  refine z_iconst (v := 0) dX1_noteWornOut_25 rfl ?_
  refine w_X1_noteWornOut_J26 a0 0 S h
set_option maxRecDepth 20000 in
set_option maxHeartbeats 4000000 in
theorem w_X1_noteWornOut {E : zE} {a0 : Nat} {S : zS} {Q : Int32 → zS → Prop} {X : String → zS → Prop} (h : p_X1_noteWornOut E a0 S Q X) : zM E yX1_noteWornOut cX1_noteWornOut 3 (some .boolean) ({ frames := 0, cells := 0, slots := 0, locals := 0 } : Room) [.ref a0] S (qI Q) X := by
  unfold p_X1_noteWornOut at h
  refine zM_of RX1 false (by decide) rfl (fun h => by cases h) (Nat.le_of_ble_eq_true rfl) ?_
  refine z_aload_n 0 dX1_noteWornOut_0 rfl rfl ?_
  obtain ⟨hf1, h⟩ := h
  refine z_getQ (c := 2) (j := 6) (f := 206) hf1.1 hf1.2 (Nat.le_of_ble_eq_true rfl) rfl zU_X1 (Nat.le_of_ble_eq_true rfl) (Nat.le_of_ble_eq_true rfl) ⟨_, zw_195, Or.inl rfl⟩ rfl rfl dX1_noteWornOut_1 ?_
  refine z_iconst (v := 0) dX1_noteWornOut_4 rfl ?_
  obtain ⟨b2, hb3, h⟩ := h
  rw [show va_rf (gR S 206 a0) = Value.ref b2 from by rw [hb3]; rfl]
  obtain ⟨hf4, h⟩ := h
  obtain ⟨hj6, h⟩ := h
  refine z_zald (j := 0) hf4.1 hf4.2 rfl hj6.1 hj6.2 dX1_noteWornOut_5 ?_
  refine z_if_ne 25 dX1_noteWornOut_6 (by decide) (fun c52 => ?_) (fun c52 => ?_)
  · have h := h.1 c52
    refine w_X1_noteWornOut_J25 a0 S h
  · have h := h.2 c52
    refine z_aload_n 0 dX1_noteWornOut_9 rfl rfl ?_
    refine z_getQ (c := 2) (j := 5) (f := 205) hf1.1 hf1.2 (Nat.le_of_ble_eq_true rfl) rfl zU_X1 (Nat.le_of_ble_eq_true rfl) (Nat.le_of_ble_eq_true rfl) ⟨_, zw_193, Or.inl rfl⟩ rfl rfl dX1_noteWornOut_10 ?_
    refine z_iconst (v := 0) dX1_noteWornOut_13 rfl ?_
    obtain ⟨b46, hb47, h⟩ := h
    rw [show va_rf (gR S 205 a0) = Value.ref b46 from by rw [hb47]; rfl]
    obtain ⟨hf48, h⟩ := h
    obtain ⟨hj50, h⟩ := h
    refine z_iald (j := 0) hf48.1 hf48.2 rfl hj50.1 hj50.2 dX1_noteWornOut_14 ?_
    refine z_sipush (v := 300) dX1_noteWornOut_15 rfl ?_
    refine z_icmp_lt 25 dX1_noteWornOut_18 (by decide) (fun c51 => ?_) (fun c51 => ?_)
    · have h := h.1 c51
      refine w_X1_noteWornOut_J25 a0 S h
    · have h := h.2 c51
      refine z_iconst (v := 1) dX1_noteWornOut_21 rfl ?_
      refine z_goto 26 dX1_noteWornOut_22 (by decide) ?_
      refine w_X1_noteWornOut_J26 a0 1 S h
set_option maxRecDepth 20000 in
set_option maxHeartbeats 4000000 in
theorem w_X0_noteWornOut_L4 {E : zE} {K28 : Int32 → zS → Prop} {Q : Int32 → zS → Prop} {X : String → zS → Prop} (hK28 : ∀ (l1 : Int32) (S : zS), K28 l1 S → zJ E (RX0, cX0_noteWornOut, 3, (some .boolean), false, [], zTr) ({ frames := 1, cells := 0, slots := 0, locals := 22 } : Room) (zq (qI Q)) (zx X) 28 [(1, .int l1)] [] [] S 0 0) : ∀ (m4 : Nat) (a0 : Nat) (l1 : Int32) (l2 : Int32) (S : zS), p_X0_noteWornOut_L4 E K28 Q X m4 a0 l1 l2 S → zJ E (RX0, cX0_noteWornOut, 3, (some .boolean), false, [], zTr) ({ frames := 1, cells := 0, slots := 0, locals := 22 } : Room) (zq (qI Q)) (zx X) 4 [(0, .ref a0), (1, .int l1), (2, .int l2)] [] [] S 0 0 := by
  intro m4
  induction m4 with
  | zero => intro a0 l1 l2 S h; exact (show False from h).elim
  | succ m4 ih =>
    intro a0 l1 l2 S h
    unfold p_X0_noteWornOut_L4 at h
    refine z_iload_n 2 dX0_noteWornOut_4 rfl rfl ?_
    refine z_bipush (v := 6) dX0_noteWornOut_5 rfl ?_
    refine z_icmp_ge 28 dX0_noteWornOut_7 (by decide) (fun c12 => ?_) (fun c12 => ?_)
    · have h := h.1 c12
      refine z_sub [1] rfl ?_
      exact hK28 l1 S h
    · have h := h.2 c12
      refine z_iload_n 1 dX0_noteWornOut_10 rfl rfl ?_
      refine z_aload_n 0 dX0_noteWornOut_11 rfl rfl ?_
      obtain ⟨hf1, h⟩ := h
      refine z_getQ (c := 1) (j := 0) (f := 100) hf1.1 hf1.2 (Nat.le_of_ble_eq_true rfl) rfl zU_X0 (Nat.le_of_ble_eq_true rfl) (Nat.le_of_ble_eq_true rfl) ⟨_, zw_215, Or.inl rfl⟩ rfl rfl dX0_noteWornOut_12 ?_
      refine z_iload_n 2 dX0_noteWornOut_15 rfl rfl ?_
      obtain ⟨b2, hb3, h⟩ := h
      rw [show va_rf (gR S 100 a0) = Value.ref b2 from by rw [hb3]; rfl]
      obtain ⟨hf4, h⟩ := h
      obtain ⟨j5, hj6, h⟩ := h
      refine z_aald (j := j5) hf4.1 rfl hf4.2.1 hf4.2.2 hj6.1 hj6.2.1 hj6.2.2 dX0_noteWornOut_16 ?_
      obtain ⟨b7, hb8, h⟩ := h
      rw [show va_rf (gQ S b2 j5) = Value.ref b7 from by rw [hb8]; rfl]
      obtain ⟨hf11, h⟩ := h
      refine z_callVI (ci := 2) (st := [.int l1]) (w_X1_noteWornOut h) hf11.1 hf11.2 (Nat.le_of_ble_eq_true rfl) rfl zw_1040 zw_1037 zw_1038 zw_1039 zw_38 zy_X1_noteWornOut rfl rfl ⟨Nat.le_of_ble_eq_true rfl, Nat.le_of_ble_eq_true rfl⟩ ⟨(Nat.le_of_ble_eq_true rfl), (Nat.le_of_ble_eq_true rfl)⟩ (Nat.le_of_ble_eq_true rfl) dX0_noteWornOut_17 (fun _ _ hx => hx.elim) (fun r10 S9 h => ?_)
      refine z_widen (k' := 0) (n' := 0) (Nat.le_refl _) (Nat.le_refl _) ?_
      refine z_ior dX0_noteWornOut_20 ?_
      refine z_istore_n (lv' := [(1, .int (l1 ||| r10)), (0, .ref a0), (2, .int l2)]) dX0_noteWornOut_21 rfl (Nat.le_of_ble_eq_true rfl) rfl ?_
      refine z_iinc (v := (l2 + 1)) (lv' := [(2, .int (l2 + 1)), (1, .int (l1 ||| r10)), (0, .ref a0)]) 2 dX0_noteWornOut_22 rfl rfl (Nat.le_of_ble_eq_true rfl) rfl ?_
      refine z_goto 4 dX0_noteWornOut_25 (by decide) ?_
      refine z_sub [2, 1, 0] rfl ?_
      exact ih a0 (l1 ||| r10) (l2 + 1) S9 h
set_option maxRecDepth 20000 in
set_option maxHeartbeats 4000000 in
theorem w_X0_noteWornOut {E : zE} {a0 : Nat} {S : zS} {Q : Int32 → zS → Prop} {X : String → zS → Prop} (h : p_X0_noteWornOut E a0 S Q X) : zM E yX0_noteWornOut cX0_noteWornOut 3 (some .boolean) ({ frames := 1, cells := 0, slots := 0, locals := 22 } : Room) [.ref a0] S (qI Q) X := by
  unfold p_X0_noteWornOut at h
  refine zM_of RX0 false (by decide) rfl (fun h => by cases h) (Nat.le_of_ble_eq_true rfl) ?_
  refine z_iconst (v := 0) dX0_noteWornOut_0 rfl ?_
  refine z_istore_n (lv' := [(1, .int 0), (0, .ref a0)]) dX0_noteWornOut_1 rfl (Nat.le_of_ble_eq_true rfl) rfl ?_
  refine z_iconst (v := 0) dX0_noteWornOut_2 rfl ?_
  refine z_istore_n (lv' := [(2, .int 0), (1, .int 0), (0, .ref a0)]) dX0_noteWornOut_3 rfl (Nat.le_of_ble_eq_true rfl) rfl ?_
  obtain ⟨m4, h⟩ := h
  refine z_sub [2, 1, 0] rfl ?_
  refine w_X0_noteWornOut_L4 (fun l1 S h => ?_) m4 a0 0 0 S h
  refine z_iload_n 0 dX0_noteWornOut_28 rfl rfl ?_
  obtain ⟨hz13, h⟩ := h
  exact z_zreturn ⟨rfl, _, rfl, h⟩ rfl (zbn hz13) (Nat.le_of_ble_eq_true rfl) (Nat.le_of_ble_eq_true rfl) dX0_noteWornOut_29
set_option maxRecDepth 20000 in
set_option maxHeartbeats 4000000 in
theorem w_X0_forgetPulls_L2 {E : zE} {K24 : zS → Prop} {Q : zS → Prop} {X : String → zS → Prop} (hK24 : ∀  (S : zS), K24  S → zJ E (RX0, cX0_forgetPulls, 2, none, false, [], zTr) ({ frames := 0, cells := 0, slots := 0, locals := 0 } : Room) (zq (qV Q)) (zx X) 24 [] [] [] S 0 0) : ∀ (m2 : Nat) (a0 : Nat) (l1 : Int32) (S : zS), p_X0_forgetPulls_L2 E K24 Q X m2 a0 l1 S → zJ E (RX0, cX0_forgetPulls, 2, none, false, [], zTr) ({ frames := 0, cells := 0, slots := 0, locals := 0 } : Room) (zq (qV Q)) (zx X) 2 [(0, .ref a0), (1, .int l1)] [] [] S 0 0 := by
  intro m2
  induction m2 with
  | zero => intro a0 l1 S h; exact (show False from h).elim
  | succ m2 ih =>
    intro a0 l1 S h
    unfold p_X0_forgetPulls_L2 at h
    refine z_iload_n 1 dX0_forgetPulls_2 rfl rfl ?_
    refine z_bipush (v := 6) dX0_forgetPulls_3 rfl ?_
    refine z_icmp_ge 24 dX0_forgetPulls_5 (by decide) (fun c12 => ?_) (fun c12 => ?_)
    · have h := h.1 c12
      refine z_sub [] rfl ?_
      exact hK24 S h
    · have h := h.2 c12
      refine z_aload_n 0 dX0_forgetPulls_8 rfl rfl ?_
      obtain ⟨hf1, h⟩ := h
      refine z_getQ (c := 1) (j := 0) (f := 100) hf1.1 hf1.2 (Nat.le_of_ble_eq_true rfl) rfl zU_X0 (Nat.le_of_ble_eq_true rfl) (Nat.le_of_ble_eq_true rfl) ⟨_, zw_215, Or.inl rfl⟩ rfl rfl dX0_forgetPulls_9 ?_
      refine z_iload_n 1 dX0_forgetPulls_12 rfl rfl ?_
      obtain ⟨b2, hb3, h⟩ := h
      rw [show va_rf (gR S 100 a0) = Value.ref b2 from by rw [hb3]; rfl]
      obtain ⟨hf4, h⟩ := h
      obtain ⟨j5, hj6, h⟩ := h
      refine z_aald (j := j5) hf4.1 rfl hf4.2.1 hf4.2.2 hj6.1 hj6.2.1 hj6.2.2 dX0_forgetPulls_13 ?_
      refine z_iconst (v := 0) dX0_forgetPulls_14 rfl ?_
      obtain ⟨b7, hb8, h⟩ := h
      rw [show va_rf (gQ S b2 j5) = Value.ref b7 from by rw [hb8]; rfl]
      obtain ⟨hf9, h⟩ := h
      have h := h _ rfl
      refine z_putV (c := 2) (j := 4) (ty0 := tyX1) (S' := sI S 204 b7 0) hf9.1 hf9.2 (Nat.le_of_ble_eq_true rfl) rfl zU_X1 tyX1_ok nmX1 (Nat.le_of_ble_eq_true rfl) (Nat.le_of_ble_eq_true rfl) ⟨_, zw_191, Or.inl rfl⟩ (.inl rfl) rfl rfl rfl (zUpI (v := 0) hf9.2 (Nat.le_of_ble_eq_true rfl) (Nat.le_of_ble_eq_true rfl) rfl rfl) dX0_forgetPulls_15 ?_
      obtain ⟨S10, hS11⟩ : ∃ z, z = sI S 204 b7 0 := ⟨_, rfl⟩
      rw [← hS11] at h ⊢
      have hf1 : a0 ∈ gL S10 ∧ gK S10 a0 = 1 := by rw [hS11]; exact hf1
      have hf9 : b7 ∈ gL S10 ∧ gK S10 b7 = 2 := by rw [hS11]; exact hf9
      refine z_iinc (v := (l1 + 1)) (lv' := [(1, .int (l1 + 1)), (0, .ref a0)]) 1 dX0_forgetPulls_18 rfl rfl (Nat.le_of_ble_eq_true rfl) rfl ?_
      refine z_goto 2 dX0_forgetPulls_21 (by decide) ?_
      refine z_sub [1, 0] rfl ?_
      exact ih a0 (l1 + 1) S10 h
set_option maxRecDepth 20000 in
set_option maxHeartbeats 4000000 in
theorem w_X0_forgetPulls {E : zE} {a0 : Nat} {S : zS} {Q : zS → Prop} {X : String → zS → Prop} (h : p_X0_forgetPulls E a0 S Q X) : zM E yX0_forgetPulls cX0_forgetPulls 2 none ({ frames := 0, cells := 0, slots := 0, locals := 0 } : Room) [.ref a0] S (qV Q) X := by
  unfold p_X0_forgetPulls at h
  refine zM_of RX0 false (by decide) rfl (fun h => by cases h) (Nat.le_of_ble_eq_true rfl) ?_
  refine z_iconst (v := 0) dX0_forgetPulls_0 rfl ?_
  refine z_istore_n (lv' := [(1, .int 0), (0, .ref a0)]) dX0_forgetPulls_1 rfl (Nat.le_of_ble_eq_true rfl) rfl ?_
  obtain ⟨m2, h⟩ := h
  refine z_sub [1, 0] rfl ?_
  refine w_X0_forgetPulls_L2 (fun S h => ?_) m2 a0 0 S h
  exact z_return ⟨rfl, rfl, h⟩ rfl (Nat.le_of_ble_eq_true rfl) (Nat.le_of_ble_eq_true rfl) dX0_forgetPulls_24
set_option maxRecDepth 20000 in
set_option maxHeartbeats 4000000 in
theorem w_X1_renew {E : zE} {a0 : Nat} {l1 : Int32} {S : zS} {Q : Int32 → zS → Prop} {X : String → zS → Prop} (h : p_X1_renew E a0 l1 S Q X) : zM E yX1_renew cX1_renew 3 (some .int) ({ frames := 0, cells := 0, slots := 0, locals := 0 } : Room) [.ref a0, .int l1] S (qI Q) X := by
  unfold p_X1_renew at h
  refine zM_of RX1 false (by decide) rfl (fun h => by cases h) (Nat.le_of_ble_eq_true rfl) ?_
  refine z_aload_n 0 dX1_renew_0 rfl rfl ?_
  obtain ⟨hf1, h⟩ := h
  refine z_getQ (c := 2) (j := 5) (f := 205) hf1.1 hf1.2 (Nat.le_of_ble_eq_true rfl) rfl zU_X1 (Nat.le_of_ble_eq_true rfl) (Nat.le_of_ble_eq_true rfl) ⟨_, zw_193, Or.inl rfl⟩ rfl rfl dX1_renew_1 ?_
  refine z_iload_n 1 dX1_renew_4 rfl rfl ?_
  obtain ⟨b2, hb3, h⟩ := h
  rw [show va_rf (gR S 205 a0) = Value.ref b2 from by rw [hb3]; rfl]
  obtain ⟨hf4, h⟩ := h
  obtain ⟨j5, hj6, h⟩ := h
  refine z_iald (j := j5) hf4.1 hf4.2 hj6.1 hj6.2.1 hj6.2.2 dX1_renew_5 ?_
  refine z_istore_n (lv' := [(2, .int (gA S b2 j5)), (0, .ref a0), (1, .int l1)]) dX1_renew_6 rfl (Nat.le_of_ble_eq_true rfl) rfl ?_
  refine z_aload_n 1 dX1_renew_7 rfl rfl ?_
  refine z_getQ (c := 2) (j := 5) (f := 205) hf1.1 hf1.2 (Nat.le_of_ble_eq_true rfl) rfl zU_X1 (Nat.le_of_ble_eq_true rfl) (Nat.le_of_ble_eq_true rfl) ⟨_, zw_193, Or.inl rfl⟩ rfl rfl dX1_renew_8 ?_
  refine z_iload_n 2 dX1_renew_11 rfl rfl ?_
  refine z_iconst (v := 0) dX1_renew_12 rfl ?_
  obtain ⟨b7, hb8, h⟩ := h
  rw [show va_rf (gR S 205 a0) = Value.ref b7 from by rw [hb8]; rfl]
  obtain ⟨hf9, h⟩ := h
  obtain ⟨j10, hj11, h⟩ := h
  have h := h _ rfl
  refine z_iast (j := j10) hf9.1 hf9.2 hj11.1 hj11.2.1 hj11.2.2 dX1_renew_13 ?_
  obtain ⟨S12, hS13⟩ : ∃ z, z = sA S b7 j10 0 := ⟨_, rfl⟩
  rw [← hS13] at h ⊢
  have hf1 : a0 ∈ gL S12 ∧ gK S12 a0 = 2 := by rw [hS13]; exact hf1
  have hf4 : b2 ∈ gL S12 ∧ gK S12 b2 = 12 := by rw [hS13]; exact hf4
  have hf9 : b7 ∈ gL S12 ∧ gK S12 b7 = 12 := by rw [hS13]; exact hf9
  refine z_aload_n 1 dX1_renew_14 rfl rfl ?_
  refine z_getQ (c := 2) (j := 6) (f := 206) hf1.1 hf1.2 (Nat.le_of_ble_eq_true rfl) rfl zU_X1 (Nat.le_of_ble_eq_true rfl) (Nat.le_of_ble_eq_true rfl) ⟨_, zw_195, Or.inl rfl⟩ rfl rfl dX1_renew_15 ?_
  refine z_iload_n 2 dX1_renew_18 rfl rfl ?_
  refine z_iconst (v := 0) dX1_renew_19 rfl ?_
  obtain ⟨b14, hb15, h⟩ := h
  rw [show va_rf (gR S12 206 a0) = Value.ref b14 from by rw [hb15]; rfl]
  obtain ⟨hf16, h⟩ := h
  obtain ⟨j17, hj18, h⟩ := h
  obtain ⟨hx21, h⟩ := h
  have h := h _ rfl
  refine z_zast (j := j17) hf16.1 hf16.2 hj18.1 hj18.2.1 hj18.2.2 (zbb hx21) dX1_renew_20 ?_
  obtain ⟨S19, hS20⟩ : ∃ z, z = sA S12 b14 j17 0 := ⟨_, rfl⟩
  rw [← hS20] at h ⊢
  have hf1 : a0 ∈ gL S19 ∧ gK S19 a0 = 2 := by rw [hS20]; exact hf1
  have hf16 : b14 ∈ gL S19 ∧ gK S19 b14 = 13 := by rw [hS20]; exact hf16
  have hf4 : b2 ∈ gL S19 ∧ gK S19 b2 = 12 := by rw [hS20]; exact hf4
  have hf9 : b7 ∈ gL S19 ∧ gK S19 b7 = 12 := by rw [hS20]; exact hf9
  refine z_iload_n 0 dX1_renew_21 rfl rfl ?_
  exact z_ireturn ⟨rfl, _, rfl, h⟩ rfl (Nat.le_of_ble_eq_true rfl) (Nat.le_of_ble_eq_true rfl) dX1_renew_22
set_option maxRecDepth 20000 in
set_option maxHeartbeats 4000000 in
theorem w_X1_strike {E : zE} {a0 : Nat} {l1 : Int32} {S : zS} {Q : zS → Prop} {X : String → zS → Prop} (h : p_X1_strike E a0 l1 S Q X) : zM E yX1_strike cX1_strike 2 none ({ frames := 0, cells := 0, slots := 0, locals := 0 } : Room) [.ref a0, .int l1] S (qV Q) X := by
  unfold p_X1_strike at h
  refine zM_of RX1 false (by decide) rfl (fun h => by cases h) (Nat.le_of_ble_eq_true rfl) ?_
  refine z_aload_n 0 dX1_strike_0 rfl rfl ?_
  obtain ⟨hf1, h⟩ := h
  refine z_getQ (c := 2) (j := 5) (f := 205) hf1.1 hf1.2 (Nat.le_of_ble_eq_true rfl) rfl zU_X1 (Nat.le_of_ble_eq_true rfl) (Nat.le_of_ble_eq_true rfl) ⟨_, zw_193, Or.inl rfl⟩ rfl rfl dX1_strike_1 ?_
  refine z_iconst (v := 0) dX1_strike_4 rfl ?_
  refine z_dup2 dX1_strike_5 rfl (zcat _) ?_
  obtain ⟨b2, hb3, h⟩ := h
  rw [show va_rf (gR S 205 a0) = Value.ref b2 from by rw [hb3]; rfl]
  obtain ⟨hf4, h⟩ := h
  obtain ⟨hj6, h⟩ := h
  refine z_iald (j := 0) hf4.1 hf4.2 rfl hj6.1 hj6.2 dX1_strike_6 ?_
  refine z_iload_n 1 dX1_strike_7 rfl rfl ?_
  refine z_iconst (v := 2) dX1_strike_8 rfl ?_
  refine z_irem dX1_strike_9 (by decide) ?_
  refine z_if_ne 17 dX1_strike_10 (by decide) (fun c37 => ?_) (fun c37 => ?_)
  · have h := h.1 c37
    refine z_iconst (v := 2) dX1_strike_17 rfl ?_
    refine z_iadd dX1_strike_18 ?_
    obtain ⟨hj8, h⟩ := h
    have h := h _ rfl
    refine z_iast (j := 0) hf4.1 hf4.2 rfl hj8.1 hj8.2 dX1_strike_19 ?_
    obtain ⟨S9, hS10⟩ : ∃ z, z = sA S b2 0 ((gA S b2 0) + 2) := ⟨_, rfl⟩
    rw [← hS10] at h ⊢
    have hf1 : a0 ∈ gL S9 ∧ gK S9 a0 = 2 := by rw [hS10]; exact hf1
    have hf4 : b2 ∈ gL S9 ∧ gK S9 b2 = 12 := by rw [hS10]; exact hf4
    refine z_aload_n 0 dX1_strike_20 rfl rfl ?_
    refine z_getQ (c := 2) (j := 5) (f := 205) hf1.1 hf1.2 (Nat.le_of_ble_eq_true rfl) rfl zU_X1 (Nat.le_of_ble_eq_true rfl) (Nat.le_of_ble_eq_true rfl) ⟨_, zw_193, Or.inl rfl⟩ rfl rfl dX1_strike_21 ?_
    refine z_iconst (v := 1) dX1_strike_24 rfl ?_
    refine z_dup2 dX1_strike_25 rfl (zcat _) ?_
    obtain ⟨b11, hb12, h⟩ := h
    rw [show va_rf (gR S9 205 a0) = Value.ref b11 from by rw [hb12]; rfl]
    obtain ⟨hf13, h⟩ := h
    obtain ⟨hj15, h⟩ := h
    refine z_iald (j := 1) hf13.1 hf13.2 rfl hj15.1 hj15.2 dX1_strike_26 ?_
    refine z_iconst (v := 1) dX1_strike_27 rfl ?_
    refine z_iadd dX1_strike_28 ?_
    obtain ⟨hj17, h⟩ := h
    have h := h _ rfl
    refine z_iast (j := 1) hf13.1 hf13.2 rfl hj17.1 hj17.2 dX1_strike_29 ?_
    obtain ⟨S18, hS19⟩ : ∃ z, z = sA S9 b11 1 ((gA S9 b11 1) + 1) := ⟨_, rfl⟩
    rw [← hS19] at h ⊢
    have hf1 : a0 ∈ gL S18 ∧ gK S18 a0 = 2 := by rw [hS19]; exact hf1
    have hf13 : b11 ∈ gL S18 ∧ gK S18 b11 = 12 := by rw [hS19]; exact hf13
    have hf4 : b2 ∈ gL S18 ∧ gK S18 b2 = 12 := by rw [hS19]; exact hf4
    exact z_return ⟨rfl, rfl, h⟩ rfl (Nat.le_of_ble_eq_true rfl) (Nat.le_of_ble_eq_true rfl) dX1_strike_30
  · have h := h.2 c37
    refine z_iconst (v := 1) dX1_strike_13 rfl ?_
    refine z_goto 18 dX1_strike_14 (by decide) ?_
    refine z_iadd dX1_strike_18 ?_
    obtain ⟨hj23, h⟩ := h
    have h := h _ rfl
    refine z_iast (j := 0) hf4.1 hf4.2 rfl hj23.1 hj23.2 dX1_strike_19 ?_
    obtain ⟨S24, hS25⟩ : ∃ z, z = sA S b2 0 ((gA S b2 0) + 1) := ⟨_, rfl⟩
    rw [← hS25] at h ⊢
    have hf1 : a0 ∈ gL S24 ∧ gK S24 a0 = 2 := by rw [hS25]; exact hf1
    have hf4 : b2 ∈ gL S24 ∧ gK S24 b2 = 12 := by rw [hS25]; exact hf4
    refine z_aload_n 0 dX1_strike_20 rfl rfl ?_
    refine z_getQ (c := 2) (j := 5) (f := 205) hf1.1 hf1.2 (Nat.le_of_ble_eq_true rfl) rfl zU_X1 (Nat.le_of_ble_eq_true rfl) (Nat.le_of_ble_eq_true rfl) ⟨_, zw_193, Or.inl rfl⟩ rfl rfl dX1_strike_21 ?_
    refine z_iconst (v := 1) dX1_strike_24 rfl ?_
    refine z_dup2 dX1_strike_25 rfl (zcat _) ?_
    obtain ⟨b26, hb27, h⟩ := h
    rw [show va_rf (gR S24 205 a0) = Value.ref b26 from by rw [hb27]; rfl]
    obtain ⟨hf28, h⟩ := h
    obtain ⟨hj30, h⟩ := h
    refine z_iald (j := 1) hf28.1 hf28.2 rfl hj30.1 hj30.2 dX1_strike_26 ?_
    refine z_iconst (v := 1) dX1_strike_27 rfl ?_
    refine z_iadd dX1_strike_28 ?_
    obtain ⟨hj32, h⟩ := h
    have h := h _ rfl
    refine z_iast (j := 1) hf28.1 hf28.2 rfl hj32.1 hj32.2 dX1_strike_29 ?_
    obtain ⟨S33, hS34⟩ : ∃ z, z = sA S24 b26 1 ((gA S24 b26 1) + 1) := ⟨_, rfl⟩
    rw [← hS34] at h ⊢
    have hf1 : a0 ∈ gL S33 ∧ gK S33 a0 = 2 := by rw [hS34]; exact hf1
    have hf4 : b2 ∈ gL S33 ∧ gK S33 b2 = 12 := by rw [hS34]; exact hf4
    have hf28 : b26 ∈ gL S33 ∧ gK S33 b26 = 12 := by rw [hS34]; exact hf28
    exact z_return ⟨rfl, rfl, h⟩ rfl (Nat.le_of_ble_eq_true rfl) (Nat.le_of_ble_eq_true rfl) dX1_strike_30
set_option maxRecDepth 20000 in
set_option maxHeartbeats 4000000 in
theorem w_X1_hearPull {E : zE} {a0 : Nat} {l1 : Int32} {S : zS} {Q : zS → Prop} {X : String → zS → Prop} (h : p_X1_hearPull E a0 l1 S Q X) : zM E yX1_hearPull cX1_hearPull 2 none ({ frames := 1, cells := 0, slots := 0, locals := 21 } : Room) [.ref a0, .int l1] S (qV Q) X := by
  unfold p_X1_hearPull at h
  refine zM_of RX1 false (by decide) rfl (fun h => by cases h) (Nat.le_of_ble_eq_true rfl) ?_
  refine z_aload_n 0 dX1_hearPull_0 rfl rfl ?_
  obtain ⟨hf1, h⟩ := h
  refine z_getI (c := 2) (j := 4) (f := 204) hf1.1 hf1.2 (Nat.le_of_ble_eq_true rfl) rfl zU_X1 (Nat.le_of_ble_eq_true rfl) (Nat.le_of_ble_eq_true rfl) ⟨_, zw_192, Or.inl rfl⟩ rfl rfl dX1_hearPull_1 ?_
  refine z_sipush (v := 240) dX1_hearPull_4 rfl ?_
  refine z_icmp_ge 38 dX1_hearPull_7 (by decide) (fun c15 => ?_) (fun c15 => ?_)
  · have h := h.1 c15
    exact z_return ⟨rfl, rfl, h⟩ rfl (Nat.le_of_ble_eq_true rfl) (Nat.le_of_ble_eq_true rfl) dX1_hearPull_38
  · have h := h.2 c15
    refine z_aload_n 0 dX1_hearPull_10 rfl rfl ?_
    refine z_getQ (c := 2) (j := 7) (f := 207) hf1.1 hf1.2 (Nat.le_of_ble_eq_true rfl) rfl zU_X1 (Nat.le_of_ble_eq_true rfl) (Nat.le_of_ble_eq_true rfl) ⟨_, zw_196, Or.inl rfl⟩ rfl rfl dX1_hearPull_11 ?_
    refine z_aload_n 0 dX1_hearPull_14 rfl rfl ?_
    refine z_getI (c := 2) (j := 4) (f := 204) hf1.1 hf1.2 (Nat.le_of_ble_eq_true rfl) rfl zU_X1 (Nat.le_of_ble_eq_true rfl) (Nat.le_of_ble_eq_true rfl) ⟨_, zw_192, Or.inl rfl⟩ rfl rfl dX1_hearPull_15 ?_
    refine z_iload_n 1 dX1_hearPull_18 rfl rfl ?_
    obtain ⟨b2, hb3, h⟩ := h
    rw [show va_rf (gR S 207 a0) = Value.ref b2 from by rw [hb3]; rfl]
    obtain ⟨hf4, h⟩ := h
    obtain ⟨j5, hj6, h⟩ := h
    have h := h _ rfl
    refine z_iast (j := j5) hf4.1 hf4.2 hj6.1 hj6.2.1 hj6.2.2 dX1_hearPull_19 ?_
    obtain ⟨S7, hS8⟩ : ∃ z, z = sA S b2 j5 l1 := ⟨_, rfl⟩
    rw [← hS8] at h ⊢
    have hf1 : a0 ∈ gL S7 ∧ gK S7 a0 = 2 := by rw [hS8]; exact hf1
    have hf4 : b2 ∈ gL S7 ∧ gK S7 b2 = 12 := by rw [hS8]; exact hf4
    refine z_aload_n 0 dX1_hearPull_20 rfl rfl ?_
    refine z_aload_n 0 dX1_hearPull_21 rfl rfl ?_
    refine z_getI (c := 2) (j := 4) (f := 204) hf1.1 hf1.2 (Nat.le_of_ble_eq_true rfl) rfl zU_X1 (Nat.le_of_ble_eq_true rfl) (Nat.le_of_ble_eq_true rfl) ⟨_, zw_192, Or.inl rfl⟩ rfl rfl dX1_hearPull_22 ?_
    refine z_callVV (ci := 2) (st := []) (w_X1_strike h) hf1.1 hf1.2 (Nat.le_of_ble_eq_true rfl) rfl zw_1028 zw_1127 zw_1026 zw_1027 zw_38 zy_X1_strike rfl rfl ⟨Nat.le_of_ble_eq_true rfl, Nat.le_of_ble_eq_true rfl⟩ ⟨(Nat.le_of_ble_eq_true rfl), (Nat.le_of_ble_eq_true rfl)⟩ (Nat.le_of_ble_eq_true rfl) dX1_hearPull_25 (fun _ _ hx => hx.elim) (fun S9 h => ?_)
    refine z_widen (k' := 0) (n' := 0) (Nat.le_refl _) (Nat.le_refl _) ?_
    refine z_aload_n 0 dX1_hearPull_28 rfl rfl ?_
    refine z_dup dX1_hearPull_29 rfl ?_
    obtain ⟨hf11, h⟩ := h
    refine z_getI (c := 2) (j := 4) (f := 204) hf11.1 hf11.2 (Nat.le_of_ble_eq_true rfl) rfl zU_X1 (Nat.le_of_ble_eq_true rfl) (Nat.le_of_ble_eq_true rfl) ⟨_, zw_192, Or.inl rfl⟩ rfl rfl dX1_hearPull_30 ?_
    refine z_iconst (v := 1) dX1_hearPull_33 rfl ?_
    refine z_iadd dX1_hearPull_34 ?_
    have h := h _ rfl
    refine z_putV (c := 2) (j := 4) (ty0 := tyX1) (S' := sI S9 204 a0 ((gI S9 204 a0) + 1)) hf11.1 hf11.2 (Nat.le_of_ble_eq_true rfl) rfl zU_X1 tyX1_ok nmX1 (Nat.le_of_ble_eq_true rfl) (Nat.le_of_ble_eq_true rfl) ⟨_, zw_192, Or.inl rfl⟩ (.inl rfl) rfl rfl rfl (zUpI (v := ((gI S9 204 a0) + 1)) hf11.2 (Nat.le_of_ble_eq_true rfl) (Nat.le_of_ble_eq_true rfl) rfl rfl) dX1_hearPull_35 ?_
    obtain ⟨S12, hS13⟩ : ∃ z, z = sI S9 204 a0 ((gI S9 204 a0) + 1) := ⟨_, rfl⟩
    rw [← hS13] at h ⊢
    have hf11 : a0 ∈ gL S12 ∧ gK S12 a0 = 2 := by rw [hS13]; exact hf11
    exact z_return ⟨rfl, rfl, h⟩ rfl (Nat.le_of_ble_eq_true rfl) (Nat.le_of_ble_eq_true rfl) dX1_hearPull_38
set_option maxRecDepth 20000 in
set_option maxHeartbeats 4000000 in
theorem w_X1_pullTime {E : zE} {a0 : Nat} {l1 : Int32} {S : zS} {Q : Int32 → zS → Prop} {X : String → zS → Prop} (h : p_X1_pullTime E a0 l1 S Q X) : zM E yX1_pullTime cX1_pullTime 2 (some .int) ({ frames := 0, cells := 0, slots := 0, locals := 0 } : Room) [.ref a0, .int l1] S (qI Q) X := by
  unfold p_X1_pullTime at h
  refine zM_of RX1 false (by decide) rfl (fun h => by cases h) (Nat.le_of_ble_eq_true rfl) ?_
  refine z_aload_n 0 dX1_pullTime_0 rfl rfl ?_
  obtain ⟨hf1, h⟩ := h
  refine z_getQ (c := 2) (j := 7) (f := 207) hf1.1 hf1.2 (Nat.le_of_ble_eq_true rfl) rfl zU_X1 (Nat.le_of_ble_eq_true rfl) (Nat.le_of_ble_eq_true rfl) ⟨_, zw_196, Or.inl rfl⟩ rfl rfl dX1_pullTime_1 ?_
  refine z_iload_n 1 dX1_pullTime_4 rfl rfl ?_
  obtain ⟨b2, hb3, h⟩ := h
  rw [show va_rf (gR S 207 a0) = Value.ref b2 from by rw [hb3]; rfl]
  obtain ⟨hf4, h⟩ := h
  obtain ⟨j5, hj6, h⟩ := h
  refine z_iald (j := j5) hf4.1 hf4.2 hj6.1 hj6.2.1 hj6.2.2 dX1_pullTime_5 ?_
  exact z_ireturn ⟨rfl, _, rfl, h⟩ rfl (Nat.le_of_ble_eq_true rfl) (Nat.le_of_ble_eq_true rfl) dX1_pullTime_6
set_option maxRecDepth 20000 in
set_option maxHeartbeats 4000000 in
theorem w_X1_hasRoomForError {E : zE} {a0 : Nat} {l1 : Int32} {S : zS} {Q : Int32 → zS → Prop} {X : String → zS → Prop} (h : p_X1_hasRoomForError E a0 l1 S Q X) : zM E yX1_hasRoomForError cX1_hasRoomForError 4 (some .boolean) ({ frames := 0, cells := 0, slots := 0, locals := 0 } : Room) [.ref a0, .int l1] S (qI Q) X := by
  unfold p_X1_hasRoomForError at h
  refine zM_of RX1 false (by decide) rfl (fun h => by cases h) (Nat.le_of_ble_eq_true rfl) ?_
  refine z_aload_n 0 dX1_hasRoomForError_0 rfl rfl ?_
  obtain ⟨hf1, h⟩ := h
  refine z_getI (c := 2) (j := 3) (f := 203) hf1.1 hf1.2 (Nat.le_of_ble_eq_true rfl) rfl zU_X1 (Nat.le_of_ble_eq_true rfl) (Nat.le_of_ble_eq_true rfl) ⟨_, zw_188, Or.inl rfl⟩ rfl rfl dX1_hasRoomForError_1 ?_
  refine z_i2l dX1_hasRoomForError_4 rfl ?_
  refine z_iload_n 1 dX1_hasRoomForError_5 rfl rfl ?_
  refine z_i2l dX1_hasRoomForError_6 rfl ?_
  refine z_ladd dX1_hasRoomForError_7 ?_
  refine z_lstore_n (lv' := [(2, .long ((gI S 203 a0).toInt64 + (l1 : Int32).toInt64)), (0, .ref a0), (1, .int l1)]) dX1_hasRoomForError_8 rfl (Nat.le_of_ble_eq_true rfl) rfl ?_
  refine z_lload_n 0 dX1_hasRoomForError_9 rfl rfl ?_
  refine z_lload_n 0 dX1_hasRoomForError_10 rfl rfl ?_
  refine z_l2i dX1_hasRoomForError_11 rfl ?_
  refine z_i2l dX1_hasRoomForError_12 rfl ?_
  refine z_lcmp dX1_hasRoomForError_13 ?_
  refine z_if_ne 21 dX1_hasRoomForError_14 (by decide) (fun c4 => ?_) (fun c4 => ?_)
  · have h := h.1 c4
    refine z_iconst (v := 0) dX1_hasRoomForError_21 rfl ?_
    obtain ⟨hz2, h⟩ := h
    exact z_zreturn ⟨rfl, _, rfl, h⟩ rfl (zbn hz2) (Nat.le_of_ble_eq_true rfl) (Nat.le_of_ble_eq_true rfl) dX1_hasRoomForError_22
  · have h := h.2 c4
    refine z_iconst (v := 1) dX1_hasRoomForError_17 rfl ?_
    refine z_goto 22 dX1_hasRoomForError_18 (by decide) ?_
    obtain ⟨hz3, h⟩ := h
    exact z_zreturn ⟨rfl, _, rfl, h⟩ rfl (zbn hz3) (Nat.le_of_ble_eq_true rfl) (Nat.le_of_ble_eq_true rfl) dX1_hasRoomForError_22
set_option maxRecDepth 20000 in
set_option maxHeartbeats 4000000 in
theorem w_X1_noteError {E : zE} {a0 : Nat} {l1 : Int32} {l2 : Int32} {S : zS} {Q : zS → Prop} {X : String → zS → Prop} (h : p_X1_noteError E a0 l1 l2 S Q X) : zM E yX1_noteError cX1_noteError 3 none ({ frames := 0, cells := 0, slots := 0, locals := 0 } : Room) [.ref a0, .int l1, .int l2] S (qV Q) X := by
  unfold p_X1_noteError at h
  refine zM_of RX1 false (by decide) rfl (fun h => by cases h) (Nat.le_of_ble_eq_true rfl) ?_
  refine z_aload_n 0 dX1_noteError_0 rfl rfl ?_
  refine z_dup dX1_noteError_1 rfl ?_
  obtain ⟨hf1, h⟩ := h
  refine z_getI (c := 2) (j := 3) (f := 203) hf1.1 hf1.2 (Nat.le_of_ble_eq_true rfl) rfl zU_X1 (Nat.le_of_ble_eq_true rfl) (Nat.le_of_ble_eq_true rfl) ⟨_, zw_188, Or.inl rfl⟩ rfl rfl dX1_noteError_2 ?_
  refine z_iload_n 1 dX1_noteError_5 rfl rfl ?_
  refine z_iadd dX1_noteError_6 ?_
  have h := h _ rfl
  refine z_putV (c := 2) (j := 3) (ty0 := tyX1) (S' := sI S 203 a0 ((gI S 203 a0) + l1)) hf1.1 hf1.2 (Nat.le_of_ble_eq_true rfl) rfl zU_X1 tyX1_ok nmX1 (Nat.le_of_ble_eq_true rfl) (Nat.le_of_ble_eq_true rfl) ⟨_, zw_188, Or.inl rfl⟩ (.inl rfl) rfl rfl rfl (zUpI (v := ((gI S 203 a0) + l1)) hf1.2 (Nat.le_of_ble_eq_true rfl) (Nat.le_of_ble_eq_true rfl) rfl rfl) dX1_noteError_7 ?_
  obtain ⟨S2, hS3⟩ : ∃ z, z = sI S 203 a0 ((gI S 203 a0) + l1) := ⟨_, rfl⟩
  rw [← hS3] at h ⊢
  have hf1 : a0 ∈ gL S2 ∧ gK S2 a0 = 2 := by rw [hS3]; exact hf1
  refine z_iload_n 1 dX1_noteError_10 rfl rfl ?_
  refine z_iload_n 2 dX1_noteError_11 rfl rfl ?_
  refine z_icmp_le 28 dX1_noteError_12 (by decide) (fun c9 => ?_) (fun c9 => ?_)
  · have h := h.1 c9
    refine z_iload_n 1 dX1_noteError_28 rfl rfl ?_
    refine z_iload_n 2 dX1_noteError_29 rfl rfl ?_
    refine z_ineg dX1_noteError_30 ?_
    refine z_icmp_ge 44 dX1_noteError_31 (by decide) (fun c6 => ?_) (fun c6 => ?_)
    · have h := h.1 c6
      exact z_return ⟨rfl, rfl, h⟩ rfl (Nat.le_of_ble_eq_true rfl) (Nat.le_of_ble_eq_true rfl) dX1_noteError_44
    · have h := h.2 c6
      refine z_aload_n 0 dX1_noteError_34 rfl rfl ?_
      refine z_dup dX1_noteError_35 rfl ?_
      refine z_getI (c := 2) (j := 2) (f := 202) hf1.1 hf1.2 (Nat.le_of_ble_eq_true rfl) rfl zU_X1 (Nat.le_of_ble_eq_true rfl) (Nat.le_of_ble_eq_true rfl) ⟨_, zw_186, Or.inl rfl⟩ rfl rfl dX1_noteError_36 ?_
      refine z_iconst (v := 1) dX1_noteError_39 rfl ?_
      refine z_iadd dX1_noteError_40 ?_
      have h := h _ rfl
      refine z_putV (c := 2) (j := 2) (ty0 := tyX1) (S' := sI S2 202 a0 ((gI S2 202 a0) + 1)) hf1.1 hf1.2 (Nat.le_of_ble_eq_true rfl) rfl zU_X1 tyX1_ok nmX1 (Nat.le_of_ble_eq_true rfl) (Nat.le_of_ble_eq_true rfl) ⟨_, zw_186, Or.inl rfl⟩ (.inl rfl) rfl rfl rfl (zUpI (v := ((gI S2 202 a0) + 1)) hf1.2 (Nat.le_of_ble_eq_true rfl) (Nat.le_of_ble_eq_true rfl) rfl rfl) dX1_noteError_41 ?_
      obtain ⟨S4, hS5⟩ : ∃ z, z = sI S2 202 a0 ((gI S2 202 a0) + 1) := ⟨_, rfl⟩
      rw [← hS5] at h ⊢
      have hf1 : a0 ∈ gL S4 ∧ gK S4 a0 = 2 := by rw [hS5]; exact hf1
      exact z_return ⟨rfl, rfl, h⟩ rfl (Nat.le_of_ble_eq_true rfl) (Nat.le_of_ble_eq_true rfl) dX1_noteError_44
  · have h := h.2 c9
    refine z_aload_n 0 dX1_noteError_15 rfl rfl ?_
    refine z_dup dX1_noteError_16 rfl ?_
    refine z_getI (c := 2) (j := 1) (f := 201) hf1.1 hf1.2 (Nat.le_of_ble_eq_true rfl) rfl zU_X1 (Nat.le_of_ble_eq_true rfl) (Nat.le_of_ble_eq_true rfl) ⟨_, zw_184, Or.inl rfl⟩ rfl rfl dX1_noteError_17 ?_
    refine z_iconst (v := 1) dX1_noteError_20 rfl ?_
    refine z_iadd dX1_noteError_21 ?_
    have h := h _ rfl
    refine z_putV (c := 2) (j := 1) (ty0 := tyX1) (S' := sI S2 201 a0 ((gI S2 201 a0) + 1)) hf1.1 hf1.2 (Nat.le_of_ble_eq_true rfl) rfl zU_X1 tyX1_ok nmX1 (Nat.le_of_ble_eq_true rfl) (Nat.le_of_ble_eq_true rfl) ⟨_, zw_184, Or.inl rfl⟩ (.inl rfl) rfl rfl rfl (zUpI (v := ((gI S2 201 a0) + 1)) hf1.2 (Nat.le_of_ble_eq_true rfl) (Nat.le_of_ble_eq_true rfl) rfl rfl) dX1_noteError_22 ?_
    obtain ⟨S7, hS8⟩ : ∃ z, z = sI S2 201 a0 ((gI S2 201 a0) + 1) := ⟨_, rfl⟩
    rw [← hS8] at h ⊢
    have hf1 : a0 ∈ gL S7 ∧ gK S7 a0 = 2 := by rw [hS8]; exact hf1
    refine z_goto 44 dX1_noteError_25 (by decide) ?_
    exact z_return ⟨rfl, rfl, h⟩ rfl (Nat.le_of_ble_eq_true rfl) (Nat.le_of_ble_eq_true rfl) dX1_noteError_44
set_option maxRecDepth 20000 in
set_option maxHeartbeats 4000000 in
theorem w_X8_rounds_L4 {E : zE} {K23 : Int32 → zS → Prop} {Q : Int32 → zS → Prop} {X : String → zS → Prop} (hK23 : ∀ (l1 : Int32) (S : zS), K23 l1 S → zJ E (RX8, cX8_rounds, 3, (some .int), false, [], zTr) ({ frames := 0, cells := 0, slots := 0, locals := 0 } : Room) (zq (qI Q)) (zx X) 23 [(1, .int l1)] [] [] S 0 0) : ∀ (m4 : Nat) (l0 : Int32) (l1 : Int32) (l2 : Int32) (S : zS), p_X8_rounds_L4 E K23 Q X m4 l0 l1 l2 S → zJ E (RX8, cX8_rounds, 3, (some .int), false, [], zTr) ({ frames := 0, cells := 0, slots := 0, locals := 0 } : Room) (zq (qI Q)) (zx X) 4 [(0, .int l0), (1, .int l1), (2, .int l2)] [] [] S 0 0 := by
  intro m4
  induction m4 with
  | zero => intro l0 l1 l2 S h; exact (show False from h).elim
  | succ m4 ih =>
    intro l0 l1 l2 S h
    unfold p_X8_rounds_L4 at h
    refine z_iload_n 2 dX8_rounds_4 rfl rfl ?_
    refine z_iload_n 0 dX8_rounds_5 rfl rfl ?_
    refine z_icmp_ge 23 dX8_rounds_6 (by decide) (fun c1 => ?_) (fun c1 => ?_)
    · have h := h.1 c1
      refine z_sub [1] rfl ?_
      exact hK23 l1 S h
    · have h := h.2 c1
      refine z_iload_n 1 dX8_rounds_9 rfl rfl ?_
      refine z_iload_n 2 dX8_rounds_10 rfl rfl ?_
      refine z_iconst (v := 3) dX8_rounds_11 rfl ?_
      refine z_iload_n 2 dX8_rounds_12 rfl rfl ?_
      refine z_imul dX8_rounds_13 ?_
      refine z_ishl dX8_rounds_14 ?_
      refine z_ior dX8_rounds_15 ?_
      refine z_istore_n (lv' := [(1, .int (l1 ||| (l2 <<< ((3 * l2) &&& 31)))), (0, .int l0), (2, .int l2)]) dX8_rounds_16 rfl (Nat.le_of_ble_eq_true rfl) rfl ?_
      refine z_iinc (v := (l2 + 1)) (lv' := [(2, .int (l2 + 1)), (1, .int (l1 ||| (l2 <<< ((3 * l2) &&& 31)))), (0, .int l0)]) 2 dX8_rounds_17 rfl rfl (Nat.le_of_ble_eq_true rfl) rfl ?_
      refine z_goto 4 dX8_rounds_20 (by decide) ?_
      refine z_sub [2, 1, 0] rfl ?_
      exact ih l0 (l1 ||| (l2 <<< ((3 * l2) &&& 31))) (l2 + 1) S h
set_option maxRecDepth 20000 in
set_option maxHeartbeats 4000000 in
theorem w_X8_rounds {E : zE} {l0 : Int32} {S : zS} {Q : Int32 → zS → Prop} {X : String → zS → Prop} (h : p_X8_rounds E l0 S Q X) : zM E yX8_rounds cX8_rounds 3 (some .int) ({ frames := 0, cells := 0, slots := 0, locals := 0 } : Room) [.int l0] S (qI Q) X := by
  unfold p_X8_rounds at h
  refine zM_of RX8 false (by decide) rfl (fun h => by cases h) (Nat.le_of_ble_eq_true rfl) ?_
  refine z_iconst (v := 0) dX8_rounds_0 rfl ?_
  refine z_istore_n (lv' := [(1, .int 0), (0, .int l0)]) dX8_rounds_1 rfl (Nat.le_of_ble_eq_true rfl) rfl ?_
  refine z_iconst (v := 0) dX8_rounds_2 rfl ?_
  refine z_istore_n (lv' := [(2, .int 0), (1, .int 0), (0, .int l0)]) dX8_rounds_3 rfl (Nat.le_of_ble_eq_true rfl) rfl ?_
  obtain ⟨m4, h⟩ := h
  refine z_sub [2, 1, 0] rfl ?_
  refine w_X8_rounds_L4 (fun l1 S h => ?_) m4 l0 0 0 S h
  refine z_iload_n 0 dX8_rounds_23 rfl rfl ?_
  exact z_ireturn ⟨rfl, _, rfl, h⟩ rfl (Nat.le_of_ble_eq_true rfl) (Nat.le_of_ble_eq_true rfl) dX8_rounds_24
set_option maxRecDepth 20000 in
set_option maxHeartbeats 4000000 in
theorem w_X4_changeOf {E : zE} {a0 : Nat} {l1 : Int32} {l2 : Int32} {S : zS} {Q : Int32 → zS → Prop} {X : String → zS → Prop} (h : p_X4_changeOf E a0 l1 l2 S Q X) : zM E yX4_changeOf cX4_changeOf 3 (some .int) ({ frames := 0, cells := 0, slots := 0, locals := 0 } : Room) [.ref a0, .int l1, .int l2] S (qI Q) X := by
  unfold p_X4_changeOf at h
  refine zM_of RX4 false (by decide) rfl (fun h => by cases h) (Nat.le_of_ble_eq_true rfl) ?_
  refine z_iload_n 2 dX4_changeOf_0 rfl rfl ?_
  refine z_aload_n 0 dX4_changeOf_1 rfl rfl ?_
  obtain ⟨hf1, h⟩ := h
  refine z_getI (c := 5) (j := 2) (f := 502) hf1.1 hf1.2 (Nat.le_of_ble_eq_true rfl) rfl zU_X4 (Nat.le_of_ble_eq_true rfl) (Nat.le_of_ble_eq_true rfl) ⟨_, zw_482, Or.inl rfl⟩ rfl rfl dX4_changeOf_2 ?_
  refine z_icmp_lt 10 dX4_changeOf_5 (by decide) (fun c13 => ?_) (fun c13 => ?_)
  · have h := h.1 c13
    refine z_iload_n 2 dX4_changeOf_10 rfl rfl ?_
    refine z_aload_n 0 dX4_changeOf_11 rfl rfl ?_
    refine z_getI (c := 5) (j := 2) (f := 502) hf1.1 hf1.2 (Nat.le_of_ble_eq_true rfl) rfl zU_X4 (Nat.le_of_ble_eq_true rfl) (Nat.le_of_ble_eq_true rfl) ⟨_, zw_482, Or.inl rfl⟩ rfl rfl dX4_changeOf_12 ?_
    refine z_iconst (v := 1) dX4_changeOf_15 rfl ?_
    refine z_isub dX4_changeOf_16 ?_
    refine z_icmp_ne 29 dX4_changeOf_17 (by decide) (fun c12 => ?_) (fun c12 => ?_)
    · have h := h.1 c12
      refine z_aload_n 0 dX4_changeOf_29 rfl rfl ?_
      refine z_getQ (c := 5) (j := 4) (f := 504) hf1.1 hf1.2 (Nat.le_of_ble_eq_true rfl) rfl zU_X4 (Nat.le_of_ble_eq_true rfl) (Nat.le_of_ble_eq_true rfl) ⟨_, zw_487, Or.inl rfl⟩ rfl rfl dX4_changeOf_30 ?_
      refine z_iload_n 2 dX4_changeOf_33 rfl rfl ?_
      obtain ⟨b2, hb3, h⟩ := h
      rw [show va_rf (gR S 504 a0) = Value.ref b2 from by rw [hb3]; rfl]
      obtain ⟨hf4, h⟩ := h
      obtain ⟨j5, hj6, h⟩ := h
      refine z_iald (j := j5) hf4.1 hf4.2 hj6.1 hj6.2.1 hj6.2.2 dX4_changeOf_34 ?_
      exact z_ireturn ⟨rfl, _, rfl, h⟩ rfl (Nat.le_of_ble_eq_true rfl) (Nat.le_of_ble_eq_true rfl) dX4_changeOf_35
    · have h := h.2 c12
      refine z_aload_n 0 dX4_changeOf_20 rfl rfl ?_
      refine z_getQ (c := 5) (j := 5) (f := 505) hf1.1 hf1.2 (Nat.le_of_ble_eq_true rfl) rfl zU_X4 (Nat.le_of_ble_eq_true rfl) (Nat.le_of_ble_eq_true rfl) ⟨_, zw_488, Or.inl rfl⟩ rfl rfl dX4_changeOf_21 ?_
      refine z_iload_n 1 dX4_changeOf_24 rfl rfl ?_
      obtain ⟨b7, hb8, h⟩ := h
      rw [show va_rf (gR S 505 a0) = Value.ref b7 from by rw [hb8]; rfl]
      obtain ⟨hf9, h⟩ := h
      obtain ⟨j10, hj11, h⟩ := h
      refine z_iald (j := j10) hf9.1 hf9.2 hj11.1 hj11.2.1 hj11.2.2 dX4_changeOf_25 ?_
      refine z_goto 35 dX4_changeOf_26 (by decide) ?_
      exact z_ireturn ⟨rfl, _, rfl, h⟩ rfl (Nat.le_of_ble_eq_true rfl) (Nat.le_of_ble_eq_true rfl) dX4_changeOf_35
  · have h := h.2 c13
    refine z_iconst (v := (-1)) dX4_changeOf_8 rfl ?_
    exact z_ireturn ⟨rfl, _, rfl, h⟩ rfl (Nat.le_of_ble_eq_true rfl) (Nat.le_of_ble_eq_true rfl) dX4_changeOf_9
set_option maxRecDepth 20000 in
set_option maxHeartbeats 4000000 in
theorem w_X8_isMade {E : zE} {l0 : Int32} {l1 : Int32} {S : zS} {Q : Int32 → zS → Prop} {X : String → zS → Prop} (h : p_X8_isMade E l0 l1 S Q X) : zM E yX8_isMade cX8_isMade 2 (some .boolean) ({ frames := 0, cells := 0, slots := 0, locals := 0 } : Room) [.int l0, .int l1] S (qI Q) X := by
  unfold p_X8_isMade at h
  refine zM_of RX8 false (by decide) rfl (fun h => by cases h) (Nat.le_of_ble_eq_true rfl) ?_
  refine z_iload_n 0 dX8_isMade_0 rfl rfl ?_
  refine z_iload_n 1 dX8_isMade_1 rfl rfl ?_
  refine z_ishr dX8_isMade_2 ?_
  refine z_iconst (v := 1) dX8_isMade_3 rfl ?_
  refine z_iand dX8_isMade_4 ?_
  refine z_iconst (v := 1) dX8_isMade_5 rfl ?_
  refine z_icmp_ne 13 dX8_isMade_6 (by decide) (fun c3 => ?_) (fun c3 => ?_)
  · have h := h.1 c3
    refine z_iconst (v := 0) dX8_isMade_13 rfl ?_
    obtain ⟨hz1, h⟩ := h
    exact z_zreturn ⟨rfl, _, rfl, h⟩ rfl (zbn hz1) (Nat.le_of_ble_eq_true rfl) (Nat.le_of_ble_eq_true rfl) dX8_isMade_14
  · have h := h.2 c3
    refine z_iconst (v := 1) dX8_isMade_9 rfl ?_
    refine z_goto 14 dX8_isMade_10 (by decide) ?_
    obtain ⟨hz2, h⟩ := h
    exact z_zreturn ⟨rfl, _, rfl, h⟩ rfl (zbn hz2) (Nat.le_of_ble_eq_true rfl) (Nat.le_of_ble_eq_true rfl) dX8_isMade_14
set_option maxRecDepth 20000 in
set_option maxHeartbeats 4000000 in
theorem w_X8_bellIn {E : zE} {l0 : Int32} {l1 : Int32} {S : zS} {Q : Int32 → zS → Prop} {X : String → zS → Prop} (h : p_X8_bellIn E l0 l1 S Q X) : zM E yX8_bellIn cX8_bellIn 2 (some .int) ({ frames := 0, cells := 0, slots := 0, locals := 0 } : Room) [.int l0, .int l1] S (qI Q) X := by
  unfold p_X8_bellIn at h
  refine zM_of RX8 false (by decide) rfl (fun h => by cases h) (Nat.le_of_ble_eq_true rfl) ?_
  refine z_iload_n 0 dX8_bellIn_0 rfl rfl ?_
  refine z_iconst (v := 3) dX8_bellIn_1 rfl ?_
  refine z_iload_n 1 dX8_bellIn_2 rfl rfl ?_
  refine z_imul dX8_bellIn_3 ?_
  refine z_ishr dX8_bellIn_4 ?_
  refine z_bipush (v := 7) dX8_bellIn_5 rfl ?_
  refine z_iand dX8_bellIn_7 ?_
  exact z_ireturn ⟨rfl, _, rfl, h⟩ rfl (Nat.le_of_ble_eq_true rfl) (Nat.le_of_ble_eq_true rfl) dX8_bellIn_8
set_option maxRecDepth 20000 in
set_option maxHeartbeats 4000000 in
theorem w_X8_swapped {E : zE} {l0 : Int32} {l1 : Int32} {S : zS} {Q : Int32 → zS → Prop} {X : String → zS → Prop} (h : p_X8_swapped E l0 l1 S Q X) : zM E yX8_swapped cX8_swapped 3 (some .int) ({ frames := 1, cells := 0, slots := 0, locals := 21 } : Room) [.int l0, .int l1] S (qI Q) X := by
  unfold p_X8_swapped at h
  refine zM_of RX8 false (by decide) rfl (fun h => by cases h) (Nat.le_of_ble_eq_true rfl) ?_
  refine z_iload_n 0 dX8_swapped_0 rfl rfl ?_
  refine z_iload_n 1 dX8_swapped_1 rfl rfl ?_
  refine z_callSI (st := []) (w_X8_bellIn h) zw_456 zw_454 zw_455 zw_48 zy_X8_bellIn rfl rfl ⟨Nat.le_of_ble_eq_true rfl, Nat.le_of_ble_eq_true rfl⟩ ⟨(Nat.le_of_ble_eq_true rfl), (Nat.le_of_ble_eq_true rfl)⟩ (Nat.le_of_ble_eq_true rfl) dX8_swapped_2 (fun _ _ hx => hx.elim) (fun r2 S1 h => ?_)
  refine z_widen (k' := 0) (n' := 0) (Nat.le_refl _) (Nat.le_refl _) ?_
  refine z_iload_n 0 dX8_swapped_5 rfl rfl ?_
  refine z_iload_n 1 dX8_swapped_6 rfl rfl ?_
  refine z_iconst (v := 1) dX8_swapped_7 rfl ?_
  refine z_iadd dX8_swapped_8 ?_
  refine z_callSI (st := [.int r2]) (w_X8_bellIn h) zw_456 zw_454 zw_455 zw_48 zy_X8_bellIn rfl rfl ⟨Nat.le_of_ble_eq_true rfl, Nat.le_of_ble_eq_true rfl⟩ ⟨(Nat.le_of_ble_eq_true rfl), (Nat.le_of_ble_eq_true rfl)⟩ (Nat.le_of_ble_eq_true rfl) dX8_swapped_9 (fun _ _ hx => hx.elim) (fun r4 S3 h => ?_)
  refine z_widen (k' := 0) (n' := 0) (Nat.le_refl _) (Nat.le_refl _) ?_
  refine z_ixor dX8_swapped_12 ?_
  refine z_istore_n (lv' := [(2, .int (r2 ^^^ r4)), (0, .int l0), (1, .int l1)]) dX8_swapped_13 rfl (Nat.le_of_ble_eq_true rfl) rfl ?_
  refine z_iload_n 1 dX8_swapped_14 rfl rfl ?_
  refine z_iload_n 0 dX8_swapped_15 rfl rfl ?_
  refine z_iconst (v := 3) dX8_swapped_16 rfl ?_
  refine z_iload_n 2 dX8_swapped_17 rfl rfl ?_
  refine z_imul dX8_swapped_18 ?_
  refine z_ishl dX8_swapped_19 ?_
  refine z_ixor dX8_swapped_20 ?_
  refine z_iload_n 0 dX8_swapped_21 rfl rfl ?_
  refine z_iconst (v := 3) dX8_swapped_22 rfl ?_
  refine z_iload_n 2 dX8_swapped_23 rfl rfl ?_
  refine z_iconst (v := 1) dX8_swapped_24 rfl ?_
  refine z_iadd dX8_swapped_25 ?_
  refine z_imul dX8_swapped_26 ?_
  refine z_ishl dX8_swapped_27 ?_
  refine z_ixor dX8_swapped_28 ?_
  exact z_ireturn ⟨rfl, _, rfl, h⟩ rfl (Nat.le_of_ble_eq_true rfl) (Nat.le_of_ble_eq_true rfl) dX8_swapped_29
set_option maxRecDepth 20000 in
set_option maxHeartbeats 4000000 in
theorem w_X8_afterChange_L5 {E : zE} {K41 : Int32 → zS → Prop} {Q : Int32 → zS → Prop} {X : String → zS → Prop} (hK41 : ∀ (l3 : Int32) (S : zS), K41 l3 S → zJ E (RX8, cX8_afterChange, 5, (some .int), false, [], zTr) ({ frames := 2, cells := 0, slots := 0, locals := 43 } : Room) (zq (qI Q)) (zx X) 41 [(3, .int l3)] [] [] S 0 0) : ∀ (m5 : Nat) (l1 : Int32) (l2 : Int32) (l3 : Int32) (l4 : Int32) (S : zS), p_X8_afterChange_L5 E K41 Q X m5 l1 l2 l3 l4 S → zJ E (RX8, cX8_afterChange, 5, (some .int), false, [], zTr) ({ frames := 2, cells := 0, slots := 0, locals := 43 } : Room) (zq (qI Q)) (zx X) 5 [(1, .int l1), (2, .int l2), (3, .int l3), (4, .int l4)] [] [] S 0 0 := by
  intro m5
  induction m5 with
  | zero => intro l1 l2 l3 l4 S h; exact (show False from h).elim
  | succ m5 ih =>
    intro l1 l2 l3 l4 S h
    unfold p_X8_afterChange_L5 at h
    refine z_iload 3 dX8_afterChange_5 rfl ?_
    refine z_iconst (v := 1) dX8_afterChange_7 rfl ?_
    refine z_iadd dX8_afterChange_8 ?_
    refine z_iload_n 1 dX8_afterChange_9 rfl rfl ?_
    refine z_icmp_ge 41 dX8_afterChange_10 (by decide) (fun c6 => ?_) (fun c6 => ?_)
    · have h := h.1 c6
      refine z_sub [2] rfl ?_
      exact hK41 l3 S h
    · have h := h.2 c6
      refine z_iload_n 0 dX8_afterChange_13 rfl rfl ?_
      refine z_iload 3 dX8_afterChange_14 rfl ?_
      refine z_callSI (st := []) (w_X8_isMade h) zw_433 zw_431 zw_432 zw_48 zy_X8_isMade rfl rfl ⟨Nat.le_of_ble_eq_true rfl, Nat.le_of_ble_eq_true rfl⟩ ⟨(Nat.le_of_ble_eq_true rfl), (Nat.le_of_ble_eq_true rfl)⟩ (Nat.le_of_ble_eq_true rfl) dX8_afterChange_16 (fun _ _ hx => hx.elim) (fun r2 S1 h => ?_)
      refine z_widen (k' := 0) (n' := 0) (Nat.le_refl _) (Nat.le_refl _) ?_
      refine z_if_eq 28 dX8_afterChange_19 (by decide) (fun c5 => ?_) (fun c5 => ?_)
      · have h := h.1 c5
        refine z_iload_n 2 dX8_afterChange_28 rfl rfl ?_
        refine z_iload 3 dX8_afterChange_29 rfl ?_
        refine z_callSI (st := []) (w_X8_swapped h) zw_453 zw_451 zw_452 zw_48 zy_X8_swapped rfl rfl ⟨Nat.le_of_ble_eq_true rfl, Nat.le_of_ble_eq_true rfl⟩ ⟨(Nat.le_of_ble_eq_true rfl), (Nat.le_of_ble_eq_true rfl)⟩ (Nat.le_of_ble_eq_true rfl) dX8_afterChange_31 (fun _ _ hx => hx.elim) (fun r4 S3 h => ?_)
        refine z_widen (k' := 0) (n' := 0) (Nat.le_refl _) (Nat.le_refl _) ?_
        refine z_istore_n (lv' := [(3, .int r4), (1, .int l1), (2, .int l2), (4, .int l4)]) dX8_afterChange_34 rfl (Nat.le_of_ble_eq_true rfl) rfl ?_
        refine z_iinc (v := (l4 + 2)) (lv' := [(4, .int (l4 + 2)), (3, .int r4), (1, .int l1), (2, .int l2)]) 3 dX8_afterChange_35 rfl rfl (Nat.le_of_ble_eq_true rfl) rfl ?_
        refine z_goto 5 dX8_afterChange_38 (by decide) ?_
        refine z_sub [2, 3, 1, 0] rfl ?_
        exact ih l1 l2 r4 (l4 + 2) S3 h
      · have h := h.2 c5
        refine z_iinc (v := (l4 + 1)) (lv' := [(4, .int (l4 + 1)), (1, .int l1), (2, .int l2), (3, .int l3)]) 3 dX8_afterChange_22 rfl rfl (Nat.le_of_ble_eq_true rfl) rfl ?_
        refine z_goto 5 dX8_afterChange_25 (by decide) ?_
        refine z_sub [1, 2, 3, 0] rfl ?_
        exact ih l1 l2 l3 (l4 + 1) S1 h
set_option maxRecDepth 20000 in
set_option maxHeartbeats 4000000 in
theorem w_X8_afterChange {E : zE} {l0 : Int32} {l1 : Int32} {l2 : Int32} {S : zS} {Q : Int32 → zS → Prop} {X : String → zS → Prop} (h : p_X8_afterChange E l0 l1 l2 S Q X) : zM E yX8_afterChange cX8_afterChange 5 (some .int) ({ frames := 2, cells := 0, slots := 0, locals := 43 } : Room) [.int l0, .int l1, .int l2] S (qI Q) X := by
  unfold p_X8_afterChange at h
  refine zM_of RX8 false (by decide) rfl (fun h => by cases h) (Nat.le_of_ble_eq_true rfl) ?_
  refine z_iload_n 0 dX8_afterChange_0 rfl rfl ?_
  refine z_istore_n (lv' := [(3, .int l0), (0, .int l0), (1, .int l1), (2, .int l2)]) dX8_afterChange_1 rfl (Nat.le_of_ble_eq_true rfl) rfl ?_
  refine z_iconst (v := 0) dX8_afterChange_2 rfl ?_
  refine z_istore (lv' := [(4, .int 0), (3, .int l0), (0, .int l0), (1, .int l1), (2, .int l2)]) dX8_afterChange_3 (Nat.le_of_ble_eq_true rfl) rfl ?_
  obtain ⟨m5, h⟩ := h
  refine z_sub [3, 4, 1, 0] rfl ?_
  refine w_X8_afterChange_L5 (fun l3 S h => ?_) m5 l1 l2 l0 0 S h
  refine z_iload_n 0 dX8_afterChange_41 rfl rfl ?_
  exact z_ireturn ⟨rfl, _, rfl, h⟩ rfl (Nat.le_of_ble_eq_true rfl) (Nat.le_of_ble_eq_true rfl) dX8_afterChange_42
set_option maxRecDepth 20000 in
set_option maxHeartbeats 4000000 in
theorem w_X8_number_L7 {E : zE} {K60 : Int32 → zS → Prop} {Q : Int32 → zS → Prop} {X : String → zS → Prop} (hK60 : ∀ (l2 : Int32) (S : zS), K60 l2 S → zJ E (RX8, cX8_number, 7, (some .int), false, [], zTr) ({ frames := 1, cells := 0, slots := 0, locals := 21 } : Room) (zq (qI Q)) (zx X) 60 [(2, .int l2)] [] [] S 0 0) : ∀ (m7 : Nat) (l0 : Int32) (l1 : Int32) (l2 : Int32) (l3 : Int32) (l4 : Int32) (S : zS), p_X8_number_L7 E K60 Q X m7 l0 l1 l2 l3 l4 S → zJ E (RX8, cX8_number, 7, (some .int), false, [], zTr) ({ frames := 1, cells := 0, slots := 0, locals := 21 } : Room) (zq (qI Q)) (zx X) 7 [(0, .int l0), (1, .int l1), (2, .int l2), (3, .int l3), (4, .int l4)] [] [] S 0 0 := by
  intro m7
  induction m7 with
  | zero => intro l0 l1 l2 l3 l4 S h; exact (show False from h).elim
  | succ m7 ih =>
    intro l0 l1 l2 l3 l4 S h
    unfold p_X8_number_L7 at h
    refine z_iload 4 dX8_number_7 rfl ?_
    refine z_iload_n 1 dX8_number_9 rfl rfl ?_
    refine z_icmp_ge 60 dX8_number_10 (by decide) (fun c5 => ?_) (fun c5 => ?_)
    · have h := h.1 c5
      refine z_sub [2] rfl ?_
      exact hK60 l2 S h
    · have h := h.2 c5
      refine z_iload_n 0 dX8_number_13 rfl rfl ?_
      refine z_iload 4 dX8_number_14 rfl ?_
      refine z_callSI (st := []) (w_X8_bellIn h) zw_456 zw_454 zw_455 zw_48 zy_X8_bellIn rfl rfl ⟨Nat.le_of_ble_eq_true rfl, Nat.le_of_ble_eq_true rfl⟩ ⟨(Nat.le_of_ble_eq_true rfl), (Nat.le_of_ble_eq_true rfl)⟩ (Nat.le_of_ble_eq_true rfl) dX8_number_16 (fun _ _ hx => hx.elim) (fun r2 S1 h => ?_)
      refine z_widen (k' := 0) (n' := 0) (Nat.le_refl _) (Nat.le_refl _) ?_
      refine z_istore (lv' := [(5, .int r2), (0, .int l0), (1, .int l1), (2, .int l2), (3, .int l3), (4, .int l4)]) dX8_number_19 (Nat.le_of_ble_eq_true rfl) rfl ?_
      refine z_iload 0 dX8_number_21 rfl ?_
      refine z_iload_n 4 dX8_number_23 rfl rfl ?_
      refine z_iconst (v := 1) dX8_number_24 rfl ?_
      refine z_iload 0 dX8_number_25 rfl ?_
      refine z_ishl dX8_number_27 ?_
      refine z_iconst (v := 1) dX8_number_28 rfl ?_
      refine z_isub dX8_number_29 ?_
      refine z_iand dX8_number_30 ?_
      refine z_callSI (st := [.int r2]) (w_J6_bitCount_0f7a4 h) zw_465 zw_463 zw_464 zw_49 zy_J6_bitCount_0f7a4 rfl rfl ⟨Nat.le_of_ble_eq_true rfl, Nat.le_of_ble_eq_true rfl⟩ ⟨(Nat.le_of_ble_eq_true rfl), (Nat.le_of_ble_eq_true rfl)⟩ (Nat.le_of_ble_eq_true rfl) dX8_number_31 (fun _ _ hx => hx.elim) (fun r4 S3 h => ?_)
      refine z_widen (k' := 0) (n' := 0) (Nat.le_refl _) (Nat.le_refl _) ?_
      refine z_isub dX8_number_34 ?_
      refine z_istore (lv' := [(6, .int (r2 - r4)), (5, .int r2), (0, .int l0), (1, .int l1), (2, .int l2), (3, .int l3), (4, .int l4)]) dX8_number_35 (Nat.le_of_ble_eq_true rfl) rfl ?_
      refine z_iload_n 4 dX8_number_37 rfl rfl ?_
      refine z_iload_n 3 dX8_number_38 rfl rfl ?_
      refine z_iload 6 dX8_number_39 rfl ?_
      refine z_isub dX8_number_41 ?_
      refine z_imul dX8_number_42 ?_
      refine z_iload 0 dX8_number_43 rfl ?_
      refine z_iadd dX8_number_45 ?_
      refine z_istore_n (lv' := [(2, .int ((l2 * (l1 - l4)) + (r2 - r4))), (6, .int (r2 - r4)), (5, .int r2), (0, .int l0), (1, .int l1), (3, .int l3), (4, .int l4)]) dX8_number_46 rfl (Nat.le_of_ble_eq_true rfl) rfl ?_
      refine z_iload_n 5 dX8_number_47 rfl rfl ?_
      refine z_iconst (v := 1) dX8_number_48 rfl ?_
      refine z_iload 2 dX8_number_49 rfl ?_
      refine z_ishl dX8_number_51 ?_
      refine z_ior dX8_number_52 ?_
      refine z_istore_n (lv' := [(3, .int (l3 ||| (1 <<< (r2 &&& 31)))), (2, .int ((l2 * (l1 - l4)) + (r2 - r4))), (6, .int (r2 - r4)), (5, .int r2), (0, .int l0), (1, .int l1), (4, .int l4)]) dX8_number_53 rfl (Nat.le_of_ble_eq_true rfl) rfl ?_
      refine z_iinc (v := (l4 + 1)) (lv' := [(4, .int (l4 + 1)), (3, .int (l3 ||| (1 <<< (r2 &&& 31)))), (2, .int ((l2 * (l1 - l4)) + (r2 - r4))), (6, .int (r2 - r4)), (5, .int r2), (0, .int l0), (1, .int l1)]) 6 dX8_number_54 rfl rfl (Nat.le_of_ble_eq_true rfl) rfl ?_
      refine z_goto 7 dX8_number_57 (by decide) ?_
      refine z_sub [5, 6, 2, 1, 0] rfl ?_
      exact ih l0 l1 ((l2 * (l1 - l4)) + (r2 - r4)) (l3 ||| (1 <<< (r2 &&& 31))) (l4 + 1) S3 h
set_option maxRecDepth 20000 in
set_option maxHeartbeats 4000000 in
theorem w_X8_number {E : zE} {l0 : Int32} {l1 : Int32} {S : zS} {Q : Int32 → zS → Prop} {X : String → zS → Prop} (h : p_X8_number E l0 l1 S Q X) : zM E yX8_number cX8_number 7 (some .int) ({ frames := 1, cells := 0, slots := 0, locals := 21 } : Room) [.int l0, .int l1] S (qI Q) X := by
  unfold p_X8_number at h
  refine zM_of RX8 false (by decide) rfl (fun h => by cases h) (Nat.le_of_ble_eq_true rfl) ?_
  refine z_iconst (v := 0) dX8_number_0 rfl ?_
  refine z_istore_n (lv' := [(2, .int 0), (0, .int l0), (1, .int l1)]) dX8_number_1 rfl (Nat.le_of_ble_eq_true rfl) rfl ?_
  refine z_iconst (v := 0) dX8_number_2 rfl ?_
  refine z_istore_n (lv' := [(3, .int 0), (2, .int 0), (0, .int l0), (1, .int l1)]) dX8_number_3 rfl (Nat.le_of_ble_eq_true rfl) rfl ?_
  refine z_iconst (v := 0) dX8_number_4 rfl ?_
  refine z_istore (lv' := [(4, .int 0), (3, .int 0), (2, .int 0), (0, .int l0), (1, .int l1)]) dX8_number_5 (Nat.le_of_ble_eq_true rfl) rfl ?_
  obtain ⟨m7, h⟩ := h
  refine z_sub [3, 4, 2, 1, 0] rfl ?_
  refine w_X8_number_L7 (fun l2 S h => ?_) m7 l0 l1 0 0 0 S h
  refine z_iload_n 0 dX8_number_60 rfl rfl ?_
  exact z_ireturn ⟨rfl, _, rfl, h⟩ rfl (Nat.le_of_ble_eq_true rfl) (Nat.le_of_ble_eq_true rfl) dX8_number_61
set_option maxRecDepth 20000 in
set_option maxHeartbeats 4000000 in
theorem w_X5_isRepeat {E : zE} {a0 : Nat} {a1 : Nat} {l2 : Int32} {l3 : Int32} {S : zS} {Q : Int32 → zS → Prop} {X : String → zS → Prop} (h : p_X5_isRepeat E a0 a1 l2 l3 S Q X) : zM E yX5_isRepeat cX5_isRepeat 6 (some .boolean) ({ frames := 2, cells := 0, slots := 0, locals := 47 } : Room) [.ref a0, .ref a1, .int l2, .int l3] S (qI Q) X := by
  unfold p_X5_isRepeat at h
  refine zM_of RX5 false (by decide) rfl (fun h => by cases h) (Nat.le_of_ble_eq_true rfl) ?_
  refine z_aload_n 1 dX5_isRepeat_0 rfl rfl ?_
  refine z_iload_n 2 dX5_isRepeat_1 rfl rfl ?_
  obtain ⟨hf1, h⟩ := h
  obtain ⟨j2, hj3, h⟩ := h
  refine z_iald (j := j2) hf1.1 hf1.2 hj3.1 hj3.2.1 hj3.2.2 dX5_isRepeat_2 ?_
  refine z_iload_n 3 dX5_isRepeat_3 rfl rfl ?_
  refine z_callSI (st := []) (w_X8_number h) zw_462 zw_666 zw_461 zw_48 zy_X8_number rfl rfl ⟨Nat.le_of_ble_eq_true rfl, Nat.le_of_ble_eq_true rfl⟩ ⟨(Nat.le_of_ble_eq_true rfl), (Nat.le_of_ble_eq_true rfl)⟩ (Nat.le_of_ble_eq_true rfl) dX5_isRepeat_4 (fun _ _ hx => hx.elim) (fun r5 S4 h => ?_)
  refine z_widen (k' := 0) (n' := 0) (Nat.le_refl _) (Nat.le_refl _) ?_
  refine z_istore (lv' := [(4, .int r5), (0, .ref a0), (1, .ref a1), (2, .int l2), (3, .int l3)]) dX5_isRepeat_7 (Nat.le_of_ble_eq_true rfl) rfl ?_
  refine z_aload_n 1 dX5_isRepeat_9 rfl rfl ?_
  obtain ⟨hf6, h⟩ := h
  refine z_getQ (c := 6) (j := 0) (f := 600) hf6.1 hf6.2 (Nat.le_of_ble_eq_true rfl) rfl zU_X5 (Nat.le_of_ble_eq_true rfl) (Nat.le_of_ble_eq_true rfl) ⟨_, zw_97, Or.inl rfl⟩ rfl rfl dX5_isRepeat_10 ?_
  refine z_iload 0 dX5_isRepeat_13 rfl ?_
  obtain ⟨b7, hb8, h⟩ := h
  rw [show va_rf (gR S4 600 a0) = Value.ref b7 from by rw [hb8]; rfl]
  obtain ⟨hf9, h⟩ := h
  obtain ⟨j10, hj11, h⟩ := h
  refine z_iald (j := j10) hf9.1 hf9.2 hj11.1 hj11.2.1 hj11.2.2 dX5_isRepeat_15 ?_
  refine z_istore (lv' := [(5, .int (gA S4 b7 j10)), (4, .int r5), (0, .ref a0), (1, .ref a1), (2, .int l2), (3, .int l3)]) dX5_isRepeat_16 (Nat.le_of_ble_eq_true rfl) rfl ?_
  refine z_iload 0 dX5_isRepeat_18 rfl ?_
  refine z_iload_n 4 dX5_isRepeat_20 rfl rfl ?_
  refine z_icmp_ge 36 dX5_isRepeat_21 (by decide) (fun c37 => ?_) (fun c37 => ?_)
  · have h := h.1 c37
    refine z_aload_n 2 dX5_isRepeat_36 rfl rfl ?_
    refine z_getQ (c := 6) (j := 0) (f := 600) hf6.1 hf6.2 (Nat.le_of_ble_eq_true rfl) rfl zU_X5 (Nat.le_of_ble_eq_true rfl) (Nat.le_of_ble_eq_true rfl) ⟨_, zw_97, Or.inl rfl⟩ rfl rfl dX5_isRepeat_37 ?_
    refine z_iload 1 dX5_isRepeat_40 rfl ?_
    refine z_iload_n 4 dX5_isRepeat_42 rfl rfl ?_
    obtain ⟨b12, hb13, h⟩ := h
    rw [show va_rf (gR S4 600 a0) = Value.ref b12 from by rw [hb13]; rfl]
    obtain ⟨hf14, h⟩ := h
    obtain ⟨j15, hj16, h⟩ := h
    have h := h _ rfl
    refine z_iast (j := j15) hf14.1 hf14.2 hj16.1 hj16.2.1 hj16.2.2 dX5_isRepeat_43 ?_
    obtain ⟨S17, hS18⟩ : ∃ z, z = sA S4 b12 j15 l2 := ⟨_, rfl⟩
    rw [← hS18] at h ⊢
    have hf6 : a0 ∈ gL S17 ∧ gK S17 a0 = 6 := by rw [hS18]; exact hf6
    have hf14 : b12 ∈ gL S17 ∧ gK S17 b12 = 12 := by rw [hS18]; exact hf14
    have hf9 : b7 ∈ gL S17 ∧ gK S17 b7 = 12 := by rw [hS18]; exact hf9
    refine z_iconst (v := 0) dX5_isRepeat_44 rfl ?_
    obtain ⟨hz19, h⟩ := h
    exact z_zreturn ⟨rfl, _, rfl, h⟩ rfl (zbn hz19) (Nat.le_of_ble_eq_true rfl) (Nat.le_of_ble_eq_true rfl) dX5_isRepeat_45
  · have h := h.2 c37
    refine z_aload_n 3 dX5_isRepeat_24 rfl rfl ?_
    refine z_iload 0 dX5_isRepeat_25 rfl ?_
    obtain ⟨hf21, h⟩ := h
    obtain ⟨j22, hj23, h⟩ := h
    refine z_iald (j := j22) hf21.1 hf21.2 hj23.1 hj23.2.1 hj23.2.2 dX5_isRepeat_27 ?_
    refine z_aload_n 3 dX5_isRepeat_28 rfl rfl ?_
    refine z_iload_n 4 dX5_isRepeat_29 rfl rfl ?_
    obtain ⟨j24, hj25, h⟩ := h
    refine z_iald (j := j24) hf21.1 hf21.2 hj25.1 hj25.2.1 hj25.2.2 dX5_isRepeat_30 ?_
    refine z_icmp_ne 36 dX5_isRepeat_31 (by decide) (fun c36 => ?_) (fun c36 => ?_)
    · have h := h.1 c36
      refine z_aload_n 2 dX5_isRepeat_36 rfl rfl ?_
      refine z_getQ (c := 6) (j := 0) (f := 600) hf6.1 hf6.2 (Nat.le_of_ble_eq_true rfl) rfl zU_X5 (Nat.le_of_ble_eq_true rfl) (Nat.le_of_ble_eq_true rfl) ⟨_, zw_97, Or.inl rfl⟩ rfl rfl dX5_isRepeat_37 ?_
      refine z_iload 1 dX5_isRepeat_40 rfl ?_
      refine z_iload_n 4 dX5_isRepeat_42 rfl rfl ?_
      obtain ⟨b26, hb27, h⟩ := h
      rw [show va_rf (gR S4 600 a0) = Value.ref b26 from by rw [hb27]; rfl]
      obtain ⟨hf28, h⟩ := h
      obtain ⟨j29, hj30, h⟩ := h
      have h := h _ rfl
      refine z_iast (j := j29) hf28.1 hf28.2 hj30.1 hj30.2.1 hj30.2.2 dX5_isRepeat_43 ?_
      obtain ⟨S31, hS32⟩ : ∃ z, z = sA S4 b26 j29 l2 := ⟨_, rfl⟩
      rw [← hS32] at h ⊢
      have hf6 : a0 ∈ gL S31 ∧ gK S31 a0 = 6 := by rw [hS32]; exact hf6
      have hf21 : a1 ∈ gL S31 ∧ gK S31 a1 = 12 := by rw [hS32]; exact hf21
      have hf28 : b26 ∈ gL S31 ∧ gK S31 b26 = 12 := by rw [hS32]; exact hf28
      have hf9 : b7 ∈ gL S31 ∧ gK S31 b7 = 12 := by rw [hS32]; exact hf9
      refine z_iconst (v := 0) dX5_isRepeat_44 rfl ?_
      obtain ⟨hz33, h⟩ := h
      exact z_zreturn ⟨rfl, _, rfl, h⟩ rfl (zbn hz33) (Nat.le_of_ble_eq_true rfl) (Nat.le_of_ble_eq_true rfl) dX5_isRepeat_45
    · have h := h.2 c36
      refine z_iconst (v := 1) dX5_isRepeat_34 rfl ?_
      obtain ⟨hz35, h⟩ := h
      exact z_zreturn ⟨rfl, _, rfl, h⟩ rfl (zbn hz35) (Nat.le_of_ble_eq_true rfl) (Nat.le_of_ble_eq_true rfl) dX5_isRepeat_35
set_option maxRecDepth 20000 in
set_option maxHeartbeats 4000000 in
theorem w_X4_isLikeLesserCall_L2 {E : zE} {K22 : zS → Prop} {K30 : zS → Prop} {Q : Int32 → zS → Prop} {X : String → zS → Prop} (hK22 : ∀  (S : zS), K22  S → zJ E (RX4, cX4_isLikeLesserCall, 3, (some .boolean), false, [], zTr) ({ frames := 0, cells := 0, slots := 0, locals := 0 } : Room) (zq (qI Q)) (zx X) 22 [] [] [] S 0 0) (hK30 : ∀  (S : zS), K30  S → zJ E (RX4, cX4_isLikeLesserCall, 3, (some .boolean), false, [], zTr) ({ frames := 0, cells := 0, slots := 0, locals := 0 } : Room) (zq (qI Q)) (zx X) 30 [] [] [] S 0 0) : ∀ (m2 : Nat) (a0 : Nat) (l1 : Int32) (l2 : Int32) (S : zS), p_X4_isLikeLesserCall_L2 E K22 K30 Q X m2 a0 l1 l2 S → zJ E (RX4, cX4_isLikeLesserCall, 3, (some .boolean), false, [], zTr) ({ frames := 0, cells := 0, slots := 0, locals := 0 } : Room) (zq (qI Q)) (zx X) 2 [(0, .ref a0), (1, .int l1), (2, .int l2)] [] [] S 0 0 := by
  intro m2
  induction m2 with
  | zero => intro a0 l1 l2 S h; exact (show False from h).elim
  | succ m2 ih =>
    intro a0 l1 l2 S h
    unfold p_X4_isLikeLesserCall_L2 at h
    refine z_iload_n 2 dX4_isLikeLesserCall_2 rfl rfl ?_
    refine z_iload_n 1 dX4_isLikeLesserCall_3 rfl rfl ?_
    refine z_icmp_ge 30 dX4_isLikeLesserCall_4 (by decide) (fun c13 => ?_) (fun c13 => ?_)
    · have h := h.1 c13
      refine z_sub [] rfl ?_
      exact hK30 S h
    · have h := h.2 c13
      refine z_aload_n 0 dX4_isLikeLesserCall_7 rfl rfl ?_
      obtain ⟨hf1, h⟩ := h
      refine z_getQ (c := 5) (j := 5) (f := 505) hf1.1 hf1.2 (Nat.le_of_ble_eq_true rfl) rfl zU_X4 (Nat.le_of_ble_eq_true rfl) (Nat.le_of_ble_eq_true rfl) ⟨_, zw_488, Or.inl rfl⟩ rfl rfl dX4_isLikeLesserCall_8 ?_
      refine z_iload_n 2 dX4_isLikeLesserCall_11 rfl rfl ?_
      obtain ⟨b2, hb3, h⟩ := h
      rw [show va_rf (gR S 505 a0) = Value.ref b2 from by rw [hb3]; rfl]
      obtain ⟨hf4, h⟩ := h
      obtain ⟨j5, hj6, h⟩ := h
      refine z_iald (j := j5) hf4.1 hf4.2 hj6.1 hj6.2.1 hj6.2.2 dX4_isLikeLesserCall_12 ?_
      refine z_aload_n 0 dX4_isLikeLesserCall_13 rfl rfl ?_
      refine z_getQ (c := 5) (j := 5) (f := 505) hf1.1 hf1.2 (Nat.le_of_ble_eq_true rfl) rfl zU_X4 (Nat.le_of_ble_eq_true rfl) (Nat.le_of_ble_eq_true rfl) ⟨_, zw_488, Or.inl rfl⟩ rfl rfl dX4_isLikeLesserCall_14 ?_
      refine z_iload_n 1 dX4_isLikeLesserCall_17 rfl rfl ?_
      obtain ⟨b7, hb8, h⟩ := h
      rw [show va_rf (gR S 505 a0) = Value.ref b7 from by rw [hb8]; rfl]
      obtain ⟨hf9, h⟩ := h
      obtain ⟨j10, hj11, h⟩ := h
      refine z_iald (j := j10) hf9.1 hf9.2 hj11.1 hj11.2.1 hj11.2.2 dX4_isLikeLesserCall_18 ?_
      refine z_icmp_ne 24 dX4_isLikeLesserCall_19 (by decide) (fun c12 => ?_) (fun c12 => ?_)
      · have h := h.1 c12
        refine z_iinc (v := (l2 + 1)) (lv' := [(2, .int (l2 + 1)), (0, .ref a0), (1, .int l1)]) 2 dX4_isLikeLesserCall_24 rfl rfl (Nat.le_of_ble_eq_true rfl) rfl ?_
        refine z_goto 2 dX4_isLikeLesserCall_27 (by decide) ?_
        refine z_sub [1, 2, 0] rfl ?_
        exact ih a0 l1 (l2 + 1) S h
      · have h := h.2 c12
        refine z_sub [] rfl ?_
        exact hK22 S h
set_option maxRecDepth 20000 in
set_option maxHeartbeats 4000000 in
theorem w_X4_isLikeLesserCall {E : zE} {a0 : Nat} {l1 : Int32} {S : zS} {Q : Int32 → zS → Prop} {X : String → zS → Prop} (h : p_X4_isLikeLesserCall E a0 l1 S Q X) : zM E yX4_isLikeLesserCall cX4_isLikeLesserCall 3 (some .boolean) ({ frames := 0, cells := 0, slots := 0, locals := 0 } : Room) [.ref a0, .int l1] S (qI Q) X := by
  unfold p_X4_isLikeLesserCall at h
  refine zM_of RX4 false (by decide) rfl (fun h => by cases h) (Nat.le_of_ble_eq_true rfl) ?_
  refine z_iconst (v := 0) dX4_isLikeLesserCall_0 rfl ?_
  refine z_istore_n (lv' := [(2, .int 0), (0, .ref a0), (1, .int l1)]) dX4_isLikeLesserCall_1 rfl (Nat.le_of_ble_eq_true rfl) rfl ?_
  obtain ⟨m2, h⟩ := h
  refine z_sub [1, 2, 0] rfl ?_
  refine w_X4_isLikeLesserCall_L2 (fun S h => ?_) (fun S h => ?_) m2 a0 l1 0 S h
  · refine z_iconst (v := 1) dX4_isLikeLesserCall_22 rfl ?_
    obtain ⟨hz14, h⟩ := h
    exact z_zreturn ⟨rfl, _, rfl, h⟩ rfl (zbn hz14) (Nat.le_of_ble_eq_true rfl) (Nat.le_of_ble_eq_true rfl) dX4_isLikeLesserCall_23
  · refine z_iconst (v := 0) dX4_isLikeLesserCall_30 rfl ?_
    obtain ⟨hz15, h⟩ := h
    exact z_zreturn ⟨rfl, _, rfl, h⟩ rfl (zbn hz15) (Nat.le_of_ble_eq_true rfl) (Nat.le_of_ble_eq_true rfl) dX4_isLikeLesserCall_31
set_option maxRecDepth 20000 in
set_option maxHeartbeats 4000000 in
theorem w_X4_nextUnlikeCall_L4 {E : zE} {K17 : Int32 → zS → Prop} {K25 : zS → Prop} {Q : Int32 → zS → Prop} {X : String → zS → Prop} (hK17 : ∀ (l2 : Int32) (S : zS), K17 l2 S → zJ E (RX4, cX4_nextUnlikeCall, 3, (some .int), false, [], zTr) ({ frames := 1, cells := 0, slots := 0, locals := 22 } : Room) (zq (qI Q)) (zx X) 17 [(2, .int l2)] [] [] S 0 0) (hK25 : ∀  (S : zS), K25  S → zJ E (RX4, cX4_nextUnlikeCall, 3, (some .int), false, [], zTr) ({ frames := 1, cells := 0, slots := 0, locals := 22 } : Room) (zq (qI Q)) (zx X) 25 [] [] [] S 0 0) : ∀ (m4 : Nat) (a0 : Nat) (l2 : Int32) (S : zS), p_X4_nextUnlikeCall_L4 E K17 K25 Q X m4 a0 l2 S → zJ E (RX4, cX4_nextUnlikeCall, 3, (some .int), false, [], zTr) ({ frames := 1, cells := 0, slots := 0, locals := 22 } : Room) (zq (qI Q)) (zx X) 4 [(0, .ref a0), (2, .int l2)] [] [] S 0 0 := by
  intro m4
  induction m4 with
  | zero => intro a0 l2 S h; exact (show False from h).elim
  | succ m4 ih =>
    intro a0 l2 S h
    unfold p_X4_nextUnlikeCall_L4 at h
    refine z_iload_n 1 dX4_nextUnlikeCall_4 rfl rfl ?_
    refine z_iconst (v := 3) dX4_nextUnlikeCall_5 rfl ?_
    refine z_icmp_ge 25 dX4_nextUnlikeCall_6 (by decide) (fun c5 => ?_) (fun c5 => ?_)
    · have h := h.1 c5
      refine z_sub [] rfl ?_
      exact hK25 S h
    · have h := h.2 c5
      refine z_aload_n 0 dX4_nextUnlikeCall_9 rfl rfl ?_
      refine z_iload_n 1 dX4_nextUnlikeCall_10 rfl rfl ?_
      obtain ⟨hf4, h⟩ := h
      refine z_callVI (ci := 5) (st := []) (w_X4_isLikeLesserCall h) hf4.1 hf4.2 (Nat.le_of_ble_eq_true rfl) rfl zw_770 zw_767 zw_769 zw_16 zw_52 zy_X4_isLikeLesserCall rfl rfl ⟨Nat.le_of_ble_eq_true rfl, Nat.le_of_ble_eq_true rfl⟩ ⟨(Nat.le_of_ble_eq_true rfl), (Nat.le_of_ble_eq_true rfl)⟩ (Nat.le_of_ble_eq_true rfl) dX4_nextUnlikeCall_11 (fun _ _ hx => hx.elim) (fun r2 S1 h => ?_)
      refine z_widen (k' := 0) (n' := 0) (Nat.le_refl _) (Nat.le_refl _) ?_
      refine z_if_ne 19 dX4_nextUnlikeCall_14 (by decide) (fun c3 => ?_) (fun c3 => ?_)
      · have h := h.1 c3
        refine z_iinc (v := (l2 + 1)) (lv' := [(2, .int (l2 + 1)), (0, .ref a0)]) 1 dX4_nextUnlikeCall_19 rfl rfl (Nat.le_of_ble_eq_true rfl) rfl ?_
        refine z_goto 4 dX4_nextUnlikeCall_22 (by decide) ?_
        refine z_sub [1, 0] rfl ?_
        exact ih a0 (l2 + 1) S1 h
      · have h := h.2 c3
        refine z_sub [1] rfl ?_
        exact hK17 l2 S1 h
set_option maxRecDepth 20000 in
set_option maxHeartbeats 4000000 in
theorem w_X4_nextUnlikeCall {E : zE} {a0 : Nat} {l1 : Int32} {S : zS} {Q : Int32 → zS → Prop} {X : String → zS → Prop} (h : p_X4_nextUnlikeCall E a0 l1 S Q X) : zM E yX4_nextUnlikeCall cX4_nextUnlikeCall 3 (some .int) ({ frames := 1, cells := 0, slots := 0, locals := 22 } : Room) [.ref a0, .int l1] S (qI Q) X := by
  unfold p_X4_nextUnlikeCall at h
  refine zM_of RX4 false (by decide) rfl (fun h => by cases h) (Nat.le_of_ble_eq_true rfl) ?_
  refine z_iload_n 1 dX4_nextUnlikeCall_0 rfl rfl ?_
  refine z_iconst (v := 1) dX4_nextUnlikeCall_1 rfl ?_
  refine z_iadd dX4_nextUnlikeCall_2 ?_
  refine z_istore_n (lv' := [(2, .int (l1 + 1)), (0, .ref a0), (1, .int l1)]) dX4_nextUnlikeCall_3 rfl (Nat.le_of_ble_eq_true rfl) rfl ?_
  obtain ⟨m4, h⟩ := h
  refine z_sub [1, 0] rfl ?_
  refine w_X4_nextUnlikeCall_L4 (fun l2 S h => ?_) (fun S h => ?_) m4 a0 (l1 + 1) S h
  · refine z_iload_n 0 dX4_nextUnlikeCall_17 rfl rfl ?_
    exact z_ireturn ⟨rfl, _, rfl, h⟩ rfl (Nat.le_of_ble_eq_true rfl) (Nat.le_of_ble_eq_true rfl) dX4_nextUnlikeCall_18
  · refine z_iconst (v := (-1)) dX4_nextUnlikeCall_25 rfl ?_
    exact z_ireturn ⟨rfl, _, rfl, h⟩ rfl (Nat.le_of_ble_eq_true rfl) (Nat.le_of_ble_eq_true rfl) dX4_nextUnlikeCall_26
set_option maxRecDepth 20000 in
set_option maxHeartbeats 4000000 in
theorem w_X8_originOf_L5 {E : zE} {K35 : Int32 → zS → Prop} {Q : Int32 → zS → Prop} {X : String → zS → Prop} (hK35 : ∀ (l3 : Int32) (S : zS), K35 l3 S → zJ E (RX8, cX8_originOf, 5, (some .int), false, [], zTr) ({ frames := 1, cells := 0, slots := 0, locals := 21 } : Room) (zq (qI Q)) (zx X) 35 [(3, .int l3)] [] [] S 0 0) : ∀ (m5 : Nat) (l0 : Int32) (l1 : Int32) (l2 : Int32) (l3 : Int32) (l4 : Int32) (S : zS), p_X8_originOf_L5 E K35 Q X m5 l0 l1 l2 l3 l4 S → zJ E (RX8, cX8_originOf, 5, (some .int), false, [], zTr) ({ frames := 1, cells := 0, slots := 0, locals := 21 } : Room) (zq (qI Q)) (zx X) 5 [(0, .int l0), (1, .int l1), (2, .int l2), (3, .int l3), (4, .int l4)] [] [] S 0 0 := by
  intro m5
  induction m5 with
  | zero => intro l0 l1 l2 l3 l4 S h; exact (show False from h).elim
  | succ m5 ih =>
    intro l0 l1 l2 l3 l4 S h
    unfold p_X8_originOf_L5 at h
    refine z_iload 4 dX8_originOf_5 rfl ?_
    refine z_iload_n 2 dX8_originOf_7 rfl rfl ?_
    refine z_icmp_ge 35 dX8_originOf_8 (by decide) (fun c5 => ?_) (fun c5 => ?_)
    · have h := h.1 c5
      refine z_sub [3] rfl ?_
      exact hK35 l3 S h
    · have h := h.2 c5
      refine z_iload_n 3 dX8_originOf_11 rfl rfl ?_
      refine z_iload_n 0 dX8_originOf_12 rfl rfl ?_
      refine z_iload 4 dX8_originOf_13 rfl ?_
      refine z_callSI (st := [.int l3]) (w_X8_bellIn h) zw_456 zw_454 zw_455 zw_48 zy_X8_bellIn rfl rfl ⟨Nat.le_of_ble_eq_true rfl, Nat.le_of_ble_eq_true rfl⟩ ⟨(Nat.le_of_ble_eq_true rfl), (Nat.le_of_ble_eq_true rfl)⟩ (Nat.le_of_ble_eq_true rfl) dX8_originOf_15 (fun _ _ hx => hx.elim) (fun r2 S1 h => ?_)
      refine z_widen (k' := 0) (n' := 0) (Nat.le_refl _) (Nat.le_refl _) ?_
      refine z_iconst (v := 3) dX8_originOf_18 rfl ?_
      refine z_iload_n 1 dX8_originOf_19 rfl rfl ?_
      refine z_iload 4 dX8_originOf_20 rfl ?_
      refine z_callSI (st := [.int 3, .int r2, .int l3]) (w_X8_bellIn h) zw_456 zw_454 zw_455 zw_48 zy_X8_bellIn rfl rfl ⟨Nat.le_of_ble_eq_true rfl, Nat.le_of_ble_eq_true rfl⟩ ⟨(Nat.le_of_ble_eq_true rfl), (Nat.le_of_ble_eq_true rfl)⟩ (Nat.le_of_ble_eq_true rfl) dX8_originOf_22 (fun _ _ hx => hx.elim) (fun r4 S3 h => ?_)
      refine z_widen (k' := 0) (n' := 0) (Nat.le_refl _) (Nat.le_refl _) ?_
      refine z_imul dX8_originOf_25 ?_
      refine z_ishl dX8_originOf_26 ?_
      refine z_ior dX8_originOf_27 ?_
      refine z_istore_n (lv' := [(3, .int (l3 ||| (r2 <<< ((3 * r4) &&& 31)))), (0, .int l0), (1, .int l1), (2, .int l2), (4, .int l4)]) dX8_originOf_28 rfl (Nat.le_of_ble_eq_true rfl) rfl ?_
      refine z_iinc (v := (l4 + 1)) (lv' := [(4, .int (l4 + 1)), (3, .int (l3 ||| (r2 <<< ((3 * r4) &&& 31)))), (0, .int l0), (1, .int l1), (2, .int l2)]) 4 dX8_originOf_29 rfl rfl (Nat.le_of_ble_eq_true rfl) rfl ?_
      refine z_goto 5 dX8_originOf_32 (by decide) ?_
      refine z_sub [2, 3, 4, 1, 0] rfl ?_
      exact ih l0 l1 l2 (l3 ||| (r2 <<< ((3 * r4) &&& 31))) (l4 + 1) S3 h
set_option maxRecDepth 20000 in
set_option maxHeartbeats 4000000 in
theorem w_X8_originOf {E : zE} {l0 : Int32} {l1 : Int32} {l2 : Int32} {S : zS} {Q : Int32 → zS → Prop} {X : String → zS → Prop} (h : p_X8_originOf E l0 l1 l2 S Q X) : zM E yX8_originOf cX8_originOf 5 (some .int) ({ frames := 1, cells := 0, slots := 0, locals := 21 } : Room) [.int l0, .int l1, .int l2] S (qI Q) X := by
  unfold p_X8_originOf at h
  refine zM_of RX8 false (by decide) rfl (fun h => by cases h) (Nat.le_of_ble_eq_true rfl) ?_
  refine z_iconst (v := 0) dX8_originOf_0 rfl ?_
  refine z_istore_n (lv' := [(3, .int 0), (0, .int l0), (1, .int l1), (2, .int l2)]) dX8_originOf_1 rfl (Nat.le_of_ble_eq_true rfl) rfl ?_
  refine z_iconst (v := 0) dX8_originOf_2 rfl ?_
  refine z_istore (lv' := [(4, .int 0), (3, .int 0), (0, .int l0), (1, .int l1), (2, .int l2)]) dX8_originOf_3 (Nat.le_of_ble_eq_true rfl) rfl ?_
  obtain ⟨m5, h⟩ := h
  refine z_sub [2, 3, 4, 1, 0] rfl ?_
  refine w_X8_originOf_L5 (fun l3 S h => ?_) m5 l0 l1 l2 0 0 S h
  refine z_iload_n 0 dX8_originOf_35 rfl rfl ?_
  exact z_ireturn ⟨rfl, _, rfl, h⟩ rfl (Nat.le_of_ble_eq_true rfl) (Nat.le_of_ble_eq_true rfl) dX8_originOf_36
set_option maxRecDepth 20000 in
set_option maxHeartbeats 4000000 in
theorem w_X4_hasFalse_L2 {E : zE} {K20 : zS → Prop} {K28 : zS → Prop} {Q : Int32 → zS → Prop} {X : String → zS → Prop} (hK20 : ∀  (S : zS), K20  S → zJ E (RX4, cX4_hasFalse, 3, (some .boolean), false, [], zTr) ({ frames := 0, cells := 0, slots := 0, locals := 0 } : Room) (zq (qI Q)) (zx X) 20 [] [] [] S 0 0) (hK28 : ∀  (S : zS), K28  S → zJ E (RX4, cX4_hasFalse, 3, (some .boolean), false, [], zTr) ({ frames := 0, cells := 0, slots := 0, locals := 0 } : Room) (zq (qI Q)) (zx X) 28 [] [] [] S 0 0) : ∀ (m2 : Nat) (a0 : Nat) (l1 : Int32) (l2 : Int32) (S : zS), p_X4_hasFalse_L2 E K20 K28 Q X m2 a0 l1 l2 S → zJ E (RX4, cX4_hasFalse, 3, (some .boolean), false, [], zTr) ({ frames := 0, cells := 0, slots := 0, locals := 0 } : Room) (zq (qI Q)) (zx X) 2 [(0, .ref a0), (1, .int l1), (2, .int l2)] [] [] S 0 0 := by
  intro m2
  induction m2 with
  | zero => intro a0 l1 l2 S h; exact (show False from h).elim
  | succ m2 ih =>
    intro a0 l1 l2 S h
    unfold p_X4_hasFalse_L2 at h
    refine z_iload_n 2 dX4_hasFalse_2 rfl rfl ?_
    refine z_aload_n 0 dX4_hasFalse_3 rfl rfl ?_
    obtain ⟨hf1, h⟩ := h
    refine z_getI (c := 5) (j := 3) (f := 503) hf1.1 hf1.2 (Nat.le_of_ble_eq_true rfl) rfl zU_X4 (Nat.le_of_ble_eq_true rfl) (Nat.le_of_ble_eq_true rfl) ⟨_, zw_485, Or.inl rfl⟩ rfl rfl dX4_hasFalse_4 ?_
    refine z_icmp_ge 28 dX4_hasFalse_7 (by decide) (fun c8 => ?_) (fun c8 => ?_)
    · have h := h.1 c8
      refine z_sub [] rfl ?_
      exact hK28 S h
    · have h := h.2 c8
      refine z_aload_n 0 dX4_hasFalse_10 rfl rfl ?_
      refine z_getQ (c := 5) (j := 6) (f := 506) hf1.1 hf1.2 (Nat.le_of_ble_eq_true rfl) rfl zU_X4 (Nat.le_of_ble_eq_true rfl) (Nat.le_of_ble_eq_true rfl) ⟨_, zw_489, Or.inl rfl⟩ rfl rfl dX4_hasFalse_11 ?_
      refine z_iload_n 2 dX4_hasFalse_14 rfl rfl ?_
      obtain ⟨b2, hb3, h⟩ := h
      rw [show va_rf (gR S 506 a0) = Value.ref b2 from by rw [hb3]; rfl]
      obtain ⟨hf4, h⟩ := h
      obtain ⟨j5, hj6, h⟩ := h
      refine z_iald (j := j5) hf4.1 hf4.2 hj6.1 hj6.2.1 hj6.2.2 dX4_hasFalse_15 ?_
      refine z_iload_n 1 dX4_hasFalse_16 rfl rfl ?_
      refine z_icmp_ne 22 dX4_hasFalse_17 (by decide) (fun c7 => ?_) (fun c7 => ?_)
      · have h := h.1 c7
        refine z_iinc (v := (l2 + 1)) (lv' := [(2, .int (l2 + 1)), (0, .ref a0), (1, .int l1)]) 2 dX4_hasFalse_22 rfl rfl (Nat.le_of_ble_eq_true rfl) rfl ?_
        refine z_goto 2 dX4_hasFalse_25 (by decide) ?_
        refine z_sub [1, 2, 0] rfl ?_
        exact ih a0 l1 (l2 + 1) S h
      · have h := h.2 c7
        refine z_sub [] rfl ?_
        exact hK20 S h
set_option maxRecDepth 20000 in
set_option maxHeartbeats 4000000 in
theorem w_X4_hasFalse {E : zE} {a0 : Nat} {l1 : Int32} {S : zS} {Q : Int32 → zS → Prop} {X : String → zS → Prop} (h : p_X4_hasFalse E a0 l1 S Q X) : zM E yX4_hasFalse cX4_hasFalse 3 (some .boolean) ({ frames := 0, cells := 0, slots := 0, locals := 0 } : Room) [.ref a0, .int l1] S (qI Q) X := by
  unfold p_X4_hasFalse at h
  refine zM_of RX4 false (by decide) rfl (fun h => by cases h) (Nat.le_of_ble_eq_true rfl) ?_
  refine z_iconst (v := 0) dX4_hasFalse_0 rfl ?_
  refine z_istore_n (lv' := [(2, .int 0), (0, .ref a0), (1, .int l1)]) dX4_hasFalse_1 rfl (Nat.le_of_ble_eq_true rfl) rfl ?_
  obtain ⟨m2, h⟩ := h
  refine z_sub [1, 2, 0] rfl ?_
  refine w_X4_hasFalse_L2 (fun S h => ?_) (fun S h => ?_) m2 a0 l1 0 S h
  · refine z_iconst (v := 1) dX4_hasFalse_20 rfl ?_
    obtain ⟨hz9, h⟩ := h
    exact z_zreturn ⟨rfl, _, rfl, h⟩ rfl (zbn hz9) (Nat.le_of_ble_eq_true rfl) (Nat.le_of_ble_eq_true rfl) dX4_hasFalse_21
  · refine z_iconst (v := 0) dX4_hasFalse_28 rfl ?_
    obtain ⟨hz10, h⟩ := h
    exact z_zreturn ⟨rfl, _, rfl, h⟩ rfl (zbn hz10) (Nat.le_of_ble_eq_true rfl) (Nat.le_of_ble_eq_true rfl) dX4_hasFalse_29
set_option maxRecDepth 20000 in
set_option maxHeartbeats 4000000 in
theorem w_X4_noteFalse {E : zE} {a0 : Nat} {l1 : Int32} {S : zS} {Q : zS → Prop} {X : String → zS → Prop} (h : p_X4_noteFalse E a0 l1 S Q X) : zM E yX4_noteFalse cX4_noteFalse 2 none ({ frames := 1, cells := 0, slots := 0, locals := 22 } : Room) [.ref a0, .int l1] S (qV Q) X := by
  unfold p_X4_noteFalse at h
  refine zM_of RX4 false (by decide) rfl (fun h => by cases h) (Nat.le_of_ble_eq_true rfl) ?_
  refine z_iload_n 1 dX4_noteFalse_0 rfl rfl ?_
  refine z_if_eq 42 dX4_noteFalse_1 (by decide) (fun c17 => ?_) (fun c17 => ?_)
  · have h := h.1 c17
    exact z_return ⟨rfl, rfl, h⟩ rfl (Nat.le_of_ble_eq_true rfl) (Nat.le_of_ble_eq_true rfl) dX4_noteFalse_42
  · have h := h.2 c17
    refine z_aload_n 0 dX4_noteFalse_4 rfl rfl ?_
    refine z_iload_n 1 dX4_noteFalse_5 rfl rfl ?_
    obtain ⟨hf16, h⟩ := h
    refine z_callVI (ci := 5) (st := []) (w_X4_hasFalse h) hf16.1 hf16.2 (Nat.le_of_ble_eq_true rfl) rfl zw_476 zw_473 zw_474 zw_475 zw_52 zy_X4_hasFalse rfl rfl ⟨Nat.le_of_ble_eq_true rfl, Nat.le_of_ble_eq_true rfl⟩ ⟨(Nat.le_of_ble_eq_true rfl), (Nat.le_of_ble_eq_true rfl)⟩ (Nat.le_of_ble_eq_true rfl) dX4_noteFalse_6 (fun _ _ hx => hx.elim) (fun r2 S1 h => ?_)
    refine z_widen (k' := 0) (n' := 0) (Nat.le_refl _) (Nat.le_refl _) ?_
    refine z_if_ne 42 dX4_noteFalse_9 (by decide) (fun c15 => ?_) (fun c15 => ?_)
    · have h := h.1 c15
      exact z_return ⟨rfl, rfl, h⟩ rfl (Nat.le_of_ble_eq_true rfl) (Nat.le_of_ble_eq_true rfl) dX4_noteFalse_42
    · have h := h.2 c15
      refine z_aload_n 0 dX4_noteFalse_12 rfl rfl ?_
      obtain ⟨hf3, h⟩ := h
      refine z_getI (c := 5) (j := 3) (f := 503) hf3.1 hf3.2 (Nat.le_of_ble_eq_true rfl) rfl zU_X4 (Nat.le_of_ble_eq_true rfl) (Nat.le_of_ble_eq_true rfl) ⟨_, zw_485, Or.inl rfl⟩ rfl rfl dX4_noteFalse_13 ?_
      refine z_sipush (v := 132) dX4_noteFalse_16 rfl ?_
      refine z_icmp_ge 42 dX4_noteFalse_19 (by decide) (fun c14 => ?_) (fun c14 => ?_)
      · have h := h.1 c14
        exact z_return ⟨rfl, rfl, h⟩ rfl (Nat.le_of_ble_eq_true rfl) (Nat.le_of_ble_eq_true rfl) dX4_noteFalse_42
      · have h := h.2 c14
        refine z_aload_n 0 dX4_noteFalse_22 rfl rfl ?_
        refine z_getQ (c := 5) (j := 6) (f := 506) hf3.1 hf3.2 (Nat.le_of_ble_eq_true rfl) rfl zU_X4 (Nat.le_of_ble_eq_true rfl) (Nat.le_of_ble_eq_true rfl) ⟨_, zw_489, Or.inl rfl⟩ rfl rfl dX4_noteFalse_23 ?_
        refine z_aload_n 0 dX4_noteFalse_26 rfl rfl ?_
        refine z_getI (c := 5) (j := 3) (f := 503) hf3.1 hf3.2 (Nat.le_of_ble_eq_true rfl) rfl zU_X4 (Nat.le_of_ble_eq_true rfl) (Nat.le_of_ble_eq_true rfl) ⟨_, zw_485, Or.inl rfl⟩ rfl rfl dX4_noteFalse_27 ?_
        refine z_iload_n 1 dX4_noteFalse_30 rfl rfl ?_
        obtain ⟨b4, hb5, h⟩ := h
        rw [show va_rf (gR S1 506 a0) = Value.ref b4 from by rw [hb5]; rfl]
        obtain ⟨hf6, h⟩ := h
        obtain ⟨j7, hj8, h⟩ := h
        have h := h _ rfl
        refine z_iast (j := j7) hf6.1 hf6.2 hj8.1 hj8.2.1 hj8.2.2 dX4_noteFalse_31 ?_
        obtain ⟨S9, hS10⟩ : ∃ z, z = sA S1 b4 j7 l1 := ⟨_, rfl⟩
        rw [← hS10] at h ⊢
        have hf3 : a0 ∈ gL S9 ∧ gK S9 a0 = 5 := by rw [hS10]; exact hf3
        have hf6 : b4 ∈ gL S9 ∧ gK S9 b4 = 12 := by rw [hS10]; exact hf6
        refine z_aload_n 0 dX4_noteFalse_32 rfl rfl ?_
        refine z_dup dX4_noteFalse_33 rfl ?_
        refine z_getI (c := 5) (j := 3) (f := 503) hf3.1 hf3.2 (Nat.le_of_ble_eq_true rfl) rfl zU_X4 (Nat.le_of_ble_eq_true rfl) (Nat.le_of_ble_eq_true rfl) ⟨_, zw_485, Or.inl rfl⟩ rfl rfl dX4_noteFalse_34 ?_
        refine z_iconst (v := 1) dX4_noteFalse_37 rfl ?_
        refine z_iadd dX4_noteFalse_38 ?_
        have h := h _ rfl
        refine z_putV (c := 5) (j := 3) (ty0 := tyX4) (S' := sI S9 503 a0 ((gI S9 503 a0) + 1)) hf3.1 hf3.2 (Nat.le_of_ble_eq_true rfl) rfl zU_X4 tyX4_ok nmX4 (Nat.le_of_ble_eq_true rfl) (Nat.le_of_ble_eq_true rfl) ⟨_, zw_485, Or.inl rfl⟩ (.inl rfl) rfl rfl rfl (zUpI (v := ((gI S9 503 a0) + 1)) hf3.2 (Nat.le_of_ble_eq_true rfl) (Nat.le_of_ble_eq_true rfl) rfl rfl) dX4_noteFalse_39 ?_
        obtain ⟨S11, hS12⟩ : ∃ z, z = sI S9 503 a0 ((gI S9 503 a0) + 1) := ⟨_, rfl⟩
        rw [← hS12] at h ⊢
        have hf3 : a0 ∈ gL S11 ∧ gK S11 a0 = 5 := by rw [hS12]; exact hf3
        have hf6 : b4 ∈ gL S11 ∧ gK S11 b4 = 12 := by rw [hS12]; exact hf6
        exact z_return ⟨rfl, rfl, h⟩ rfl (Nat.le_of_ble_eq_true rfl) (Nat.le_of_ble_eq_true rfl) dX4_noteFalse_42
set_option maxRecDepth 20000 in
set_option maxHeartbeats 4000000 in
theorem w_X4_gatherFalseRows_L15 {E : zE} {K48 : Nat → Nat → zS → Prop} {Q : zS → Prop} {X : String → zS → Prop} (hK48 : ∀ (a0 : Nat) (a1 : Nat) (S : zS), K48 a0 a1 S → zJ E (RX4, cX4_gatherFalseRows, 6, none, false, [], zTr) ({ frames := 3, cells := 1, slots := 12, locals := 67 } : Room) (zq (qV Q)) (zx X) 48 [(0, .ref a0), (1, .ref a1)] [] [] S 1 12) : ∀ (m15 : Nat) (a0 : Nat) (a1 : Nat) (l2 : Int32) (l3 : Int32) (S : zS), p_X4_gatherFalseRows_L15 E K48 Q X m15 a0 a1 l2 l3 S → zJ E (RX4, cX4_gatherFalseRows, 6, none, false, [], zTr) ({ frames := 3, cells := 1, slots := 12, locals := 67 } : Room) (zq (qV Q)) (zx X) 15 [(0, .ref a0), (1, .ref a1), (2, .int l2), (3, .int l3)] [] [] S 1 12 := by
  intro m15
  induction m15 with
  | zero => intro a0 a1 l2 l3 S h; exact (show False from h).elim
  | succ m15 ih =>
    intro a0 a1 l2 l3 S h
    unfold p_X4_gatherFalseRows_L15 at h
    refine z_iload_n 3 dX4_gatherFalseRows_15 rfl rfl ?_
    refine z_aload_n 0 dX4_gatherFalseRows_16 rfl rfl ?_
    obtain ⟨hf10, h⟩ := h
    refine z_getI (c := 5) (j := 2) (f := 502) hf10.1 hf10.2 (Nat.le_of_ble_eq_true rfl) rfl zU_X4 (Nat.le_of_ble_eq_true rfl) (Nat.le_of_ble_eq_true rfl) ⟨_, zw_482, Or.inl rfl⟩ rfl rfl dX4_gatherFalseRows_17 ?_
    refine z_icmp_ge 48 dX4_gatherFalseRows_20 (by decide) (fun c24 => ?_) (fun c24 => ?_)
    · have h := h.1 c24
      refine z_sub [0, 1] rfl ?_
      exact hK48 a0 a1 S h
    · have h := h.2 c24
      refine z_iload_n 2 dX4_gatherFalseRows_23 rfl rfl ?_
      refine z_aload_n 0 dX4_gatherFalseRows_24 rfl rfl ?_
      refine z_getQ (c := 5) (j := 4) (f := 504) hf10.1 hf10.2 (Nat.le_of_ble_eq_true rfl) rfl zU_X4 (Nat.le_of_ble_eq_true rfl) (Nat.le_of_ble_eq_true rfl) ⟨_, zw_487, Or.inl rfl⟩ rfl rfl dX4_gatherFalseRows_25 ?_
      refine z_iload_n 3 dX4_gatherFalseRows_28 rfl rfl ?_
      obtain ⟨b11, hb12, h⟩ := h
      rw [show va_rf (gR S 504 a0) = Value.ref b11 from by rw [hb12]; rfl]
      obtain ⟨hf13, h⟩ := h
      obtain ⟨j14, hj15, h⟩ := h
      refine z_iald (j := j14) hf13.1 hf13.2 hj15.1 hj15.2.1 hj15.2.2 dX4_gatherFalseRows_29 ?_
      refine z_aload_n 0 dX4_gatherFalseRows_30 rfl rfl ?_
      refine z_getI (c := 5) (j := 1) (f := 501) hf10.1 hf10.2 (Nat.le_of_ble_eq_true rfl) rfl zU_X4 (Nat.le_of_ble_eq_true rfl) (Nat.le_of_ble_eq_true rfl) ⟨_, zw_479, Or.inl rfl⟩ rfl rfl dX4_gatherFalseRows_31 ?_
      refine z_callSI (st := []) (w_X8_afterChange h) zw_450 zw_448 zw_449 zw_48 zy_X8_afterChange rfl rfl ⟨Nat.le_of_ble_eq_true rfl, Nat.le_of_ble_eq_true rfl⟩ ⟨(Nat.le_of_ble_eq_true rfl), (Nat.le_of_ble_eq_true rfl)⟩ (Nat.le_of_ble_eq_true rfl) dX4_gatherFalseRows_34 (fun _ _ hx => hx.elim) (fun r17 S16 h => ?_)
      refine z_widen (k' := 1) (n' := 12) (Nat.le_refl _) (Nat.le_refl _) ?_
      refine z_istore_n (lv' := [(2, .int r17), (0, .ref a0), (1, .ref a1), (3, .int l3)]) dX4_gatherFalseRows_37 rfl (Nat.le_of_ble_eq_true rfl) rfl ?_
      refine z_aload_n 2 dX4_gatherFalseRows_38 rfl rfl ?_
      refine z_iload_n 3 dX4_gatherFalseRows_39 rfl rfl ?_
      refine z_iload_n 0 dX4_gatherFalseRows_40 rfl rfl ?_
      obtain ⟨hf18, h⟩ := h
      obtain ⟨j19, hj20, h⟩ := h
      have h := h _ rfl
      refine z_iast (j := j19) hf18.1 hf18.2 hj20.1 hj20.2.1 hj20.2.2 dX4_gatherFalseRows_41 ?_
      obtain ⟨S21, hS22⟩ : ∃ z, z = sA S16 a1 j19 r17 := ⟨_, rfl⟩
      rw [← hS22] at h ⊢
      have hf18 : a1 ∈ gL S21 ∧ gK S21 a1 = 12 := by rw [hS22]; exact hf18
      refine z_iinc (v := (l3 + 1)) (lv' := [(3, .int (l3 + 1)), (2, .int r17), (0, .ref a0), (1, .ref a1)]) 3 dX4_gatherFalseRows_42 rfl rfl (Nat.le_of_ble_eq_true rfl) rfl ?_
      refine z_goto 15 dX4_gatherFalseRows_45 (by decide) ?_
      refine z_sub [2, 3, 1, 0] rfl ?_
      exact ih a0 a1 r17 (l3 + 1) S21 h
set_option maxRecDepth 20000 in
set_option maxHeartbeats 4000000 in
theorem w_X4_gatherFalseRows_L61 {E : zE} {K105 : Nat → Nat → Int32 → zS → Prop} {Q : zS → Prop} {X : String → zS → Prop} (hK105 : ∀ (a0 : Nat) (a1 : Nat) (l3 : Int32) (S : zS), K105 a0 a1 l3 S → zJ E (RX4, cX4_gatherFalseRows, 6, none, false, [], zTr) ({ frames := 3, cells := 1, slots := 12, locals := 67 } : Room) (zq (qV Q)) (zx X) 105 [(0, .ref a0), (1, .ref a1), (3, .int l3)] [] [] S 1 12) : ∀ (m61 : Nat) (a0 : Nat) (a1 : Nat) (l3 : Int32) (l4 : Int32) (S : zS), p_X4_gatherFalseRows_L61 E K105 Q X m61 a0 a1 l3 l4 S → zJ E (RX4, cX4_gatherFalseRows, 6, none, false, [], zTr) ({ frames := 3, cells := 1, slots := 12, locals := 67 } : Room) (zq (qV Q)) (zx X) 61 [(0, .ref a0), (1, .ref a1), (3, .int l3), (4, .int l4)] [] [] S 1 12 := by
  intro m61
  induction m61 with
  | zero => intro a0 a1 l3 l4 S h; exact (show False from h).elim
  | succ m61 ih =>
    intro a0 a1 l3 l4 S h
    unfold p_X4_gatherFalseRows_L61 at h
    refine z_iload 3 dX4_gatherFalseRows_61 rfl ?_
    refine z_aload_n 0 dX4_gatherFalseRows_63 rfl rfl ?_
    obtain ⟨hf26, h⟩ := h
    refine z_getI (c := 5) (j := 2) (f := 502) hf26.1 hf26.2 (Nat.le_of_ble_eq_true rfl) rfl zU_X4 (Nat.le_of_ble_eq_true rfl) (Nat.le_of_ble_eq_true rfl) ⟨_, zw_482, Or.inl rfl⟩ rfl rfl dX4_gatherFalseRows_64 ?_
    refine z_icmp_ge 105 dX4_gatherFalseRows_67 (by decide) (fun c40 => ?_) (fun c40 => ?_)
    · have h := h.1 c40
      refine z_sub [0, 1, 2] rfl ?_
      exact hK105 a0 a1 l3 S h
    · have h := h.2 c40
      refine z_aload_n 1 dX4_gatherFalseRows_70 rfl rfl ?_
      refine z_iload_n 2 dX4_gatherFalseRows_71 rfl rfl ?_
      obtain ⟨hf27, h⟩ := h
      obtain ⟨j28, hj29, h⟩ := h
      refine z_iald (j := j28) hf27.1 hf27.2 hj29.1 hj29.2.1 hj29.2.2 dX4_gatherFalseRows_72 ?_
      refine z_aload_n 1 dX4_gatherFalseRows_73 rfl rfl ?_
      refine z_iload 3 dX4_gatherFalseRows_74 rfl ?_
      obtain ⟨j30, hj31, h⟩ := h
      refine z_iald (j := j30) hf27.1 hf27.2 hj31.1 hj31.2.1 hj31.2.2 dX4_gatherFalseRows_76 ?_
      refine z_aload_n 0 dX4_gatherFalseRows_77 rfl rfl ?_
      refine z_getI (c := 5) (j := 1) (f := 501) hf26.1 hf26.2 (Nat.le_of_ble_eq_true rfl) rfl zU_X4 (Nat.le_of_ble_eq_true rfl) (Nat.le_of_ble_eq_true rfl) ⟨_, zw_479, Or.inl rfl⟩ rfl rfl dX4_gatherFalseRows_78 ?_
      refine z_callSI (st := []) (w_X8_originOf h) zw_459 zw_457 zw_458 zw_48 zy_X8_originOf rfl rfl ⟨Nat.le_of_ble_eq_true rfl, Nat.le_of_ble_eq_true rfl⟩ ⟨(Nat.le_of_ble_eq_true rfl), (Nat.le_of_ble_eq_true rfl)⟩ (Nat.le_of_ble_eq_true rfl) dX4_gatherFalseRows_81 (fun _ _ hx => hx.elim) (fun r33 S32 h => ?_)
      refine z_widen (k' := 1) (n' := 12) (Nat.le_refl _) (Nat.le_refl _) ?_
      refine z_istore (lv' := [(5, .int r33), (0, .ref a0), (1, .ref a1), (3, .int l3), (4, .int l4)]) dX4_gatherFalseRows_84 (Nat.le_of_ble_eq_true rfl) rfl ?_
      refine z_aload_n 1 dX4_gatherFalseRows_86 rfl rfl ?_
      refine z_iload 0 dX4_gatherFalseRows_87 rfl ?_
      refine z_aload_n 1 dX4_gatherFalseRows_89 rfl rfl ?_
      obtain ⟨hf34, h⟩ := h
      refine z_getI (c := 5) (j := 1) (f := 501) hf34.1 hf34.2 (Nat.le_of_ble_eq_true rfl) rfl zU_X4 (Nat.le_of_ble_eq_true rfl) (Nat.le_of_ble_eq_true rfl) ⟨_, zw_479, Or.inl rfl⟩ rfl rfl dX4_gatherFalseRows_90 ?_
      refine z_callSI (st := [.ref a0]) (w_X8_number h) zw_462 zw_460 zw_461 zw_48 zy_X8_number rfl rfl ⟨Nat.le_of_ble_eq_true rfl, Nat.le_of_ble_eq_true rfl⟩ ⟨(Nat.le_of_ble_eq_true rfl), (Nat.le_of_ble_eq_true rfl)⟩ (Nat.le_of_ble_eq_true rfl) dX4_gatherFalseRows_93 (fun _ _ hx => hx.elim) (fun r36 S35 h => ?_)
      refine z_widen (k' := 1) (n' := 12) (Nat.le_refl _) (Nat.le_refl _) ?_
      obtain ⟨hf39, h⟩ := h
      refine z_callVV (ci := 5) (st := []) (w_X4_noteFalse h) hf39.1 hf39.2 (Nat.le_of_ble_eq_true rfl) rfl zw_472 zw_469 zw_471 zw_3 zw_52 zy_X4_noteFalse rfl rfl ⟨Nat.le_of_ble_eq_true rfl, Nat.le_of_ble_eq_true rfl⟩ ⟨(Nat.le_of_ble_eq_true rfl), (Nat.le_of_ble_eq_true rfl)⟩ (Nat.le_of_ble_eq_true rfl) dX4_gatherFalseRows_96 (fun _ _ hx => hx.elim) (fun S37 h => ?_)
      refine z_widen (k' := 1) (n' := 12) (Nat.le_refl _) (Nat.le_refl _) ?_
      refine z_iinc (v := (l4 + 1)) (lv' := [(4, .int (l4 + 1)), (5, .int r33), (0, .ref a0), (1, .ref a1), (3, .int l3)]) 4 dX4_gatherFalseRows_99 rfl rfl (Nat.le_of_ble_eq_true rfl) rfl ?_
      refine z_goto 61 dX4_gatherFalseRows_102 (by decide) ?_
      refine z_sub [2, 3, 4, 0] rfl ?_
      exact ih a0 a1 l3 (l4 + 1) S37 h
set_option maxRecDepth 20000 in
set_option maxHeartbeats 4000000 in
theorem w_X4_gatherFalseRows_L50 {E : zE} {K111 : zS → Prop} {Q : zS → Prop} {X : String → zS → Prop} (hK111 : ∀  (S : zS), K111  S → zJ E (RX4, cX4_gatherFalseRows, 6, none, false, [], zTr) ({ frames := 3, cells := 1, slots := 12, locals := 67 } : Room) (zq (qV Q)) (zx X) 111 [] [] [] S 1 12) : ∀ (m50 : Nat) (a0 : Nat) (a1 : Nat) (l3 : Int32) (S : zS), p_X4_gatherFalseRows_L50 E K111 Q X m50 a0 a1 l3 S → zJ E (RX4, cX4_gatherFalseRows, 6, none, false, [], zTr) ({ frames := 3, cells := 1, slots := 12, locals := 67 } : Room) (zq (qV Q)) (zx X) 50 [(0, .ref a0), (1, .ref a1), (3, .int l3)] [] [] S 1 12 := by
  intro m50
  induction m50 with
  | zero => intro a0 a1 l3 S h; exact (show False from h).elim
  | succ m50 ih =>
    intro a0 a1 l3 S h
    unfold p_X4_gatherFalseRows_L50 at h
    refine z_iload_n 2 dX4_gatherFalseRows_50 rfl rfl ?_
    refine z_aload_n 0 dX4_gatherFalseRows_51 rfl rfl ?_
    obtain ⟨hf25, h⟩ := h
    refine z_getI (c := 5) (j := 2) (f := 502) hf25.1 hf25.2 (Nat.le_of_ble_eq_true rfl) rfl zU_X4 (Nat.le_of_ble_eq_true rfl) (Nat.le_of_ble_eq_true rfl) ⟨_, zw_482, Or.inl rfl⟩ rfl rfl dX4_gatherFalseRows_52 ?_
    refine z_icmp_ge 111 dX4_gatherFalseRows_55 (by decide) (fun c41 => ?_) (fun c41 => ?_)
    · have h := h.1 c41
      refine z_sub [] rfl ?_
      exact hK111 S h
    · have h := h.2 c41
      refine z_iconst (v := 0) dX4_gatherFalseRows_58 rfl ?_
      refine z_istore (lv' := [(4, .int 0), (0, .ref a0), (1, .ref a1), (3, .int l3)]) dX4_gatherFalseRows_59 (Nat.le_of_ble_eq_true rfl) rfl ?_
      obtain ⟨m61, h⟩ := h
      refine z_sub [1, 2, 3, 0] rfl ?_
      refine w_X4_gatherFalseRows_L61 (fun a0 a1 l3 S h => ?_) m61 a0 a1 l3 0 S h
      refine z_iinc (v := (l3 + 1)) (lv' := [(3, .int (l3 + 1)), (0, .ref a0), (1, .ref a1)]) 2 dX4_gatherFalseRows_105 rfl rfl (Nat.le_of_ble_eq_true rfl) rfl ?_
      refine z_goto 50 dX4_gatherFalseRows_108 (by decide) ?_
      refine z_sub [1, 2, 0] rfl ?_
      exact ih a0 a1 (l3 + 1) S h
set_option maxRecDepth 20000 in
set_option maxHeartbeats 4000000 in
theorem w_X4_gatherFalseRows {E : zE} {a0 : Nat} {S : zS} {Q : zS → Prop} {X : String → zS → Prop} (h : p_X4_gatherFalseRows E a0 S Q X) : zM E yX4_gatherFalseRows cX4_gatherFalseRows 6 none ({ frames := 3, cells := 1, slots := 12, locals := 67 } : Room) [.ref a0] S (qV Q) X := by
  unfold p_X4_gatherFalseRows at h
  refine zM_of RX4 false (by decide) rfl (fun h => by cases h) (Nat.le_of_ble_eq_true rfl) ?_
  refine z_bipush (v := 12) dX4_gatherFalseRows_0 rfl ?_
  refine z_newa (c := 12) (N := 12) (.inl ⟨rfl, rfl⟩) zw_101 rfl (Nat.le_of_ble_eq_true rfl) (Nat.le_of_ble_eq_true rfl) (Nat.le_of_ble_eq_true rfl) dX4_gatherFalseRows_2 (fun q1 hq2 => ?_)
  have h := h q1 hq2 _ rfl
  obtain ⟨S3, hS4⟩ : ∃ z, z = nA S q1 12 12 := ⟨_, rfl⟩
  rw [← hS4] at h ⊢
  refine z_widen (k' := 1) (n' := 12) (Nat.le_refl _) (Nat.le_refl _) ?_
  refine z_astore_n (lv' := [(1, .ref q1), (0, .ref a0)]) dX4_gatherFalseRows_4 rfl (Nat.le_of_ble_eq_true rfl) rfl ?_
  refine z_aload_n 1 dX4_gatherFalseRows_5 rfl rfl ?_
  obtain ⟨hf7, h⟩ := h
  refine z_getI (c := 5) (j := 1) (f := 501) hf7.1 hf7.2 (Nat.le_of_ble_eq_true rfl) rfl zU_X4 (Nat.le_of_ble_eq_true rfl) (Nat.le_of_ble_eq_true rfl) ⟨_, zw_479, Or.inl rfl⟩ rfl rfl dX4_gatherFalseRows_6 ?_
  refine z_callSI (st := []) (w_X8_rounds h) zw_447 zw_445 zw_446 zw_48 zy_X8_rounds rfl rfl ⟨Nat.le_of_ble_eq_true rfl, Nat.le_of_ble_eq_true rfl⟩ ⟨(Nat.le_of_ble_eq_true rfl), (Nat.le_of_ble_eq_true rfl)⟩ (Nat.le_of_ble_eq_true rfl) dX4_gatherFalseRows_9 (fun _ _ hx => hx.elim) (fun r9 S8 h => ?_)
  refine z_widen (k' := 1) (n' := 12) (Nat.le_refl _) (Nat.le_refl _) ?_
  refine z_istore_n (lv' := [(2, .int r9), (1, .ref q1), (0, .ref a0)]) dX4_gatherFalseRows_12 rfl (Nat.le_of_ble_eq_true rfl) rfl ?_
  refine z_iconst (v := 0) dX4_gatherFalseRows_13 rfl ?_
  refine z_istore_n (lv' := [(3, .int 0), (2, .int r9), (1, .ref q1), (0, .ref a0)]) dX4_gatherFalseRows_14 rfl (Nat.le_of_ble_eq_true rfl) rfl ?_
  obtain ⟨m15, h⟩ := h
  refine z_sub [3, 2, 1, 0] rfl ?_
  refine w_X4_gatherFalseRows_L15 (fun a0 a1 S h => ?_) m15 a0 q1 r9 0 S8 h
  refine z_iconst (v := 0) dX4_gatherFalseRows_48 rfl ?_
  refine z_istore_n (lv' := [(3, .int 0), (0, .ref a0), (1, .ref a1)]) dX4_gatherFalseRows_49 rfl (Nat.le_of_ble_eq_true rfl) rfl ?_
  obtain ⟨m50, h⟩ := h
  refine z_sub [1, 2, 0] rfl ?_
  refine w_X4_gatherFalseRows_L50 (fun S h => ?_) m50 a0 a1 0 S h
  exact z_return ⟨rfl, rfl, h⟩ rfl (Nat.le_of_ble_eq_true rfl) (Nat.le_of_ble_eq_true rfl) dX4_gatherFalseRows_111
set_option maxRecDepth 20000 in
set_option maxHeartbeats 4000000 in
theorem w_X4_init_L47 {E : zE} {K71 : Nat → Nat → Int32 → zS → Prop} {Q : zS → Prop} {X : String → zS → Prop} (hK71 : ∀ (a0 : Nat) (a3 : Nat) (l4 : Int32) (S : zS), K71 a0 a3 l4 S → zJ E (RX4, cX4_init, 6, none, true, [], zTr) ({ frames := 4, cells := 4, slots := 159, locals := 92 } : Room) (zq (qV Q)) (zx X) 71 [(0, .ref a0), (3, .ref a3), (4, .int l4)] [] [] S 3 147) : ∀ (m47 : Nat) (a0 : Nat) (a3 : Nat) (l4 : Int32) (l5 : Int32) (S : zS), p_X4_init_L47 E K71 Q X m47 a0 a3 l4 l5 S → zJ E (RX4, cX4_init, 6, none, true, [], zTr) ({ frames := 4, cells := 4, slots := 159, locals := 92 } : Room) (zq (qV Q)) (zx X) 47 [(0, .ref a0), (3, .ref a3), (4, .int l4), (5, .int l5)] [] [] S 3 147 := by
  intro m47
  induction m47 with
  | zero => intro a0 a3 l4 l5 S h; exact (show False from h).elim
  | succ m47 ih =>
    intro a0 a3 l4 l5 S h
    unfold p_X4_init_L47 at h
    refine z_iload 3 dX4_init_47 rfl ?_
    refine z_iload 2 dX4_init_49 rfl ?_
    refine z_icmp_ge 71 dX4_init_51 (by decide) (fun c47 => ?_) (fun c47 => ?_)
    · have h := h.1 c47
      refine z_sub [0, 1, 2] rfl ?_
      exact hK71 a0 a3 l4 S h
    · have h := h.2 c47
      refine z_aload_n 0 dX4_init_54 rfl rfl ?_
      obtain ⟨hf35, h⟩ := h
      refine z_getQ (c := 5) (j := 4) (f := 504) hf35.1 hf35.2 (Nat.le_of_ble_eq_true rfl) rfl zU_X4 (Nat.le_of_ble_eq_true rfl) (Nat.le_of_ble_eq_true rfl) ⟨_, zw_487, Or.inl rfl⟩ rfl rfl dX4_init_55 ?_
      refine z_iload 3 dX4_init_58 rfl ?_
      refine z_aload_n 1 dX4_init_60 rfl rfl ?_
      refine z_iload 3 dX4_init_61 rfl ?_
      obtain ⟨hf36, h⟩ := h
      obtain ⟨j37, hj38, h⟩ := h
      refine z_iald (j := j37) hf36.1 hf36.2 hj38.1 hj38.2.1 hj38.2.2 dX4_init_63 ?_
      obtain ⟨b39, hb40, h⟩ := h
      rw [show va_rf (gR S 504 a0) = Value.ref b39 from by rw [hb40]; rfl]
      obtain ⟨hf41, h⟩ := h
      obtain ⟨j42, hj43, h⟩ := h
      have h := h _ rfl
      refine z_iast (j := j42) hf41.1 hf41.2 hj43.1 hj43.2.1 hj43.2.2 dX4_init_64 ?_
      obtain ⟨S44, hS45⟩ : ∃ z, z = sA S b39 j42 (gA S a3 j37) := ⟨_, rfl⟩
      rw [← hS45] at h ⊢
      have hf35 : a0 ∈ gL S44 ∧ gK S44 a0 = 5 := by rw [hS45]; exact hf35
      have hf36 : a3 ∈ gL S44 ∧ gK S44 a3 = 12 := by rw [hS45]; exact hf36
      have hf41 : b39 ∈ gL S44 ∧ gK S44 b39 = 12 := by rw [hS45]; exact hf41
      refine z_iinc (v := (l5 + 1)) (lv' := [(5, .int (l5 + 1)), (0, .ref a0), (3, .ref a3), (4, .int l4)]) 3 dX4_init_65 rfl rfl (Nat.le_of_ble_eq_true rfl) rfl ?_
      refine z_goto 47 dX4_init_68 (by decide) ?_
      refine z_sub [1, 2, 3, 0] rfl ?_
      exact ih a0 a3 l4 (l5 + 1) S44 h
set_option maxRecDepth 20000 in
set_option maxHeartbeats 4000000 in
theorem w_X4_init_L74 {E : zE} {K99 : Nat → zS → Prop} {Q : zS → Prop} {X : String → zS → Prop} (hK99 : ∀ (a0 : Nat) (S : zS), K99 a0 S → zJ E (RX4, cX4_init, 6, none, true, [], zTr) ({ frames := 4, cells := 4, slots := 159, locals := 92 } : Room) (zq (qV Q)) (zx X) 99 [(0, .ref a0)] [] [] S 3 147) : ∀ (m74 : Nat) (a0 : Nat) (a3 : Nat) (l4 : Int32) (l5 : Int32) (S : zS), p_X4_init_L74 E K99 Q X m74 a0 a3 l4 l5 S → zJ E (RX4, cX4_init, 6, none, true, [], zTr) ({ frames := 4, cells := 4, slots := 159, locals := 92 } : Room) (zq (qV Q)) (zx X) 74 [(0, .ref a0), (3, .ref a3), (4, .int l4), (5, .int l5)] [] [] S 3 147 := by
  intro m74
  induction m74 with
  | zero => intro a0 a3 l4 l5 S h; exact (show False from h).elim
  | succ m74 ih =>
    intro a0 a3 l4 l5 S h
    unfold p_X4_init_L74 at h
    refine z_iload 3 dX4_init_74 rfl ?_
    refine z_iconst (v := 3) dX4_init_76 rfl ?_
    refine z_icmp_ge 99 dX4_init_77 (by decide) (fun c60 => ?_) (fun c60 => ?_)
    · have h := h.1 c60
      refine z_sub [0] rfl ?_
      exact hK99 a0 S h
    · have h := h.2 c60
      refine z_aload_n 0 dX4_init_80 rfl rfl ?_
      obtain ⟨hf48, h⟩ := h
      refine z_getQ (c := 5) (j := 5) (f := 505) hf48.1 hf48.2 (Nat.le_of_ble_eq_true rfl) rfl zU_X4 (Nat.le_of_ble_eq_true rfl) (Nat.le_of_ble_eq_true rfl) ⟨_, zw_488, Or.inl rfl⟩ rfl rfl dX4_init_81 ?_
      refine z_iload 3 dX4_init_84 rfl ?_
      refine z_aload_n 1 dX4_init_86 rfl rfl ?_
      refine z_iload 2 dX4_init_87 rfl ?_
      refine z_iconst (v := 1) dX4_init_89 rfl ?_
      refine z_isub dX4_init_90 ?_
      obtain ⟨hf49, h⟩ := h
      obtain ⟨j50, hj51, h⟩ := h
      refine z_iald (j := j50) hf49.1 hf49.2 hj51.1 hj51.2.1 hj51.2.2 dX4_init_91 ?_
      obtain ⟨b52, hb53, h⟩ := h
      rw [show va_rf (gR S 505 a0) = Value.ref b52 from by rw [hb53]; rfl]
      obtain ⟨hf54, h⟩ := h
      obtain ⟨j55, hj56, h⟩ := h
      have h := h _ rfl
      refine z_iast (j := j55) hf54.1 hf54.2 hj56.1 hj56.2.1 hj56.2.2 dX4_init_92 ?_
      obtain ⟨S57, hS58⟩ : ∃ z, z = sA S b52 j55 (gA S a3 j50) := ⟨_, rfl⟩
      rw [← hS58] at h ⊢
      have hf48 : a0 ∈ gL S57 ∧ gK S57 a0 = 5 := by rw [hS58]; exact hf48
      have hf49 : a3 ∈ gL S57 ∧ gK S57 a3 = 12 := by rw [hS58]; exact hf49
      have hf54 : b52 ∈ gL S57 ∧ gK S57 b52 = 12 := by rw [hS58]; exact hf54
      refine z_iinc (v := (l5 + 1)) (lv' := [(5, .int (l5 + 1)), (0, .ref a0), (3, .ref a3), (4, .int l4)]) 3 dX4_init_93 rfl rfl (Nat.le_of_ble_eq_true rfl) rfl ?_
      refine z_goto 74 dX4_init_96 (by decide) ?_
      refine z_sub [1, 2, 3, 0] rfl ?_
      exact ih a0 a3 l4 (l5 + 1) S57 h
set_option maxRecDepth 20000 in
set_option maxHeartbeats 4000000 in
theorem w_X4_init {E : zE} {a0 : Nat} {l1 : Int32} {l2 : Int32} {a3 : Nat} {l4 : Int32} {S : zS} {Q : zS → Prop} {X : String → zS → Prop} (h : p_X4_init E a0 l1 l2 a3 l4 S Q X) : zM E yX4_init cX4_init 6 none ({ frames := 4, cells := 4, slots := 159, locals := 92 } : Room) [.ref a0, .int l1, .int l2, .ref a3, .int l4] S (qV Q) X := by
  unfold p_X4_init at h
  refine zM_of RX4 true (by decide) rfl (fun h => rfl) (Nat.le_of_ble_eq_true rfl) ?_
  refine z_aload_n 0 dX4_init_0 rfl rfl ?_
  refine z_objInit zw_440 (Nat.le_of_ble_eq_true rfl) (Nat.le_of_ble_eq_true rfl) dX4_init_1 ?_
  refine z_aload_n 0 dX4_init_4 rfl rfl ?_
  refine z_iload_n 1 dX4_init_5 rfl rfl ?_
  obtain ⟨hf1, h⟩ := h
  have h := h _ rfl
  refine z_putV (c := 5) (j := 0) (ty0 := tyX4) (S' := sI S 500 a0 l1) hf1.1 hf1.2 (Nat.le_of_ble_eq_true rfl) rfl zU_X4 tyX4_ok nmX4 (Nat.le_of_ble_eq_true rfl) (Nat.le_of_ble_eq_true rfl) ⟨_, zw_477, Or.inl rfl⟩ (.inr ⟨rfl, rfl⟩) rfl rfl rfl (zUpI (v := l1) hf1.2 (Nat.le_of_ble_eq_true rfl) (Nat.le_of_ble_eq_true rfl) rfl rfl) dX4_init_6 ?_
  obtain ⟨S2, hS3⟩ : ∃ z, z = sI S 500 a0 l1 := ⟨_, rfl⟩
  rw [← hS3] at h ⊢
  have hf1 : a0 ∈ gL S2 ∧ gK S2 a0 = 5 := by rw [hS3]; exact hf1
  refine z_aload_n 0 dX4_init_9 rfl rfl ?_
  refine z_iload_n 2 dX4_init_10 rfl rfl ?_
  have h := h _ rfl
  refine z_putV (c := 5) (j := 1) (ty0 := tyX4) (S' := sI S2 501 a0 l2) hf1.1 hf1.2 (Nat.le_of_ble_eq_true rfl) rfl zU_X4 tyX4_ok nmX4 (Nat.le_of_ble_eq_true rfl) (Nat.le_of_ble_eq_true rfl) ⟨_, zw_479, Or.inl rfl⟩ (.inr ⟨rfl, rfl⟩) rfl rfl rfl (zUpI (v := l2) hf1.2 (Nat.le_of_ble_eq_true rfl) (Nat.le_of_ble_eq_true rfl) rfl rfl) dX4_init_11 ?_
  obtain ⟨S4, hS5⟩ : ∃ z, z = sI S2 501 a0 l2 := ⟨_, rfl⟩
  rw [← hS5] at h ⊢
  have hf1 : a0 ∈ gL S4 ∧ gK S4 a0 = 5 := by rw [hS5]; exact hf1
  refine z_aload_n 0 dX4_init_14 rfl rfl ?_
  refine z_iload 4 dX4_init_15 rfl ?_
  have h := h _ rfl
  refine z_putV (c := 5) (j := 2) (ty0 := tyX4) (S' := sI S4 502 a0 l4) hf1.1 hf1.2 (Nat.le_of_ble_eq_true rfl) rfl zU_X4 tyX4_ok nmX4 (Nat.le_of_ble_eq_true rfl) (Nat.le_of_ble_eq_true rfl) ⟨_, zw_482, Or.inl rfl⟩ (.inr ⟨rfl, rfl⟩) rfl rfl rfl (zUpI (v := l4) hf1.2 (Nat.le_of_ble_eq_true rfl) (Nat.le_of_ble_eq_true rfl) rfl rfl) dX4_init_17 ?_
  obtain ⟨S6, hS7⟩ : ∃ z, z = sI S4 502 a0 l4 := ⟨_, rfl⟩
  rw [← hS7] at h ⊢
  have hf1 : a0 ∈ gL S6 ∧ gK S6 a0 = 5 := by rw [hS7]; exact hf1
  refine z_aload_n 0 dX4_init_20 rfl rfl ?_
  refine z_bipush (v := 12) dX4_init_21 rfl ?_
  refine z_newa (c := 12) (N := 12) (.inl ⟨rfl, rfl⟩) zw_101 rfl (Nat.le_of_ble_eq_true rfl) (Nat.le_of_ble_eq_true rfl) (Nat.le_of_ble_eq_true rfl) dX4_init_23 (fun q8 hq9 => ?_)
  have h := h q8 hq9 _ rfl
  obtain ⟨S10, hS11⟩ : ∃ z, z = nA S6 q8 12 12 := ⟨_, rfl⟩
  rw [← hS11] at h ⊢
  refine z_widen (k' := 1) (n' := 12) (Nat.le_refl _) (Nat.le_refl _) ?_
  obtain ⟨hf14, h⟩ := h
  have h := h _ rfl
  refine z_putV (c := 5) (j := 4) (ty0 := tyX4) (S' := sR S10 504 a0 (some q8)) hf14.1 hf14.2 (Nat.le_of_ble_eq_true rfl) rfl zU_X4 tyX4_ok nmX4 (Nat.le_of_ble_eq_true rfl) (Nat.le_of_ble_eq_true rfl) ⟨_, zw_487, Or.inl rfl⟩ (.inr ⟨rfl, rfl⟩) (zrefn (ty := tyX4 4) (o := (some q8)) (by decide)) (zreff (ty := tyX4 4) (o := (some q8)) (by decide)) rfl (zUpR (v := (some q8)) hf14.2 (Nat.le_of_ble_eq_true rfl) (Nat.le_of_ble_eq_true rfl) rfl rfl) dX4_init_25 ?_
  obtain ⟨S15, hS16⟩ : ∃ z, z = sR S10 504 a0 (some q8) := ⟨_, rfl⟩
  rw [← hS16] at h ⊢
  have hf14 : a0 ∈ gL S15 ∧ gK S15 a0 = 5 := by rw [hS16]; exact hf14
  refine z_aload_n 0 dX4_init_28 rfl rfl ?_
  refine z_iconst (v := 3) dX4_init_29 rfl ?_
  refine z_newa (c := 12) (N := 3) (.inl ⟨rfl, rfl⟩) zw_101 rfl (Nat.le_of_ble_eq_true rfl) (Nat.le_of_ble_eq_true rfl) (Nat.le_of_ble_eq_true rfl) dX4_init_30 (fun q17 hq18 => ?_)
  have h := h q17 hq18 _ rfl
  obtain ⟨S19, hS20⟩ : ∃ z, z = nA S15 q17 12 3 := ⟨_, rfl⟩
  rw [← hS20] at h ⊢
  refine z_widen (k' := 2) (n' := 15) (Nat.le_refl _) (Nat.le_refl _) ?_
  obtain ⟨hf23, h⟩ := h
  have h := h _ rfl
  refine z_putV (c := 5) (j := 5) (ty0 := tyX4) (S' := sR S19 505 a0 (some q17)) hf23.1 hf23.2 (Nat.le_of_ble_eq_true rfl) rfl zU_X4 tyX4_ok nmX4 (Nat.le_of_ble_eq_true rfl) (Nat.le_of_ble_eq_true rfl) ⟨_, zw_488, Or.inl rfl⟩ (.inr ⟨rfl, rfl⟩) (zrefn (ty := tyX4 5) (o := (some q17)) (by decide)) (zreff (ty := tyX4 5) (o := (some q17)) (by decide)) rfl (zUpR (v := (some q17)) hf23.2 (Nat.le_of_ble_eq_true rfl) (Nat.le_of_ble_eq_true rfl) rfl rfl) dX4_init_32 ?_
  obtain ⟨S24, hS25⟩ : ∃ z, z = sR S19 505 a0 (some q17) := ⟨_, rfl⟩
  rw [← hS25] at h ⊢
  have hf23 : a0 ∈ gL S24 ∧ gK S24 a0 = 5 := by rw [hS25]; exact hf23
  refine z_aload_n 0 dX4_init_35 rfl rfl ?_
  refine z_sipush (v := 132) dX4_init_36 rfl ?_
  refine z_newa (c := 12) (N := 132) (.inl ⟨rfl, rfl⟩) zw_101 rfl (Nat.le_of_ble_eq_true rfl) (Nat.le_of_ble_eq_true rfl) (Nat.le_of_ble_eq_true rfl) dX4_init_39 (fun q26 hq27 => ?_)
  have h := h q26 hq27 _ rfl
  obtain ⟨S28, hS29⟩ : ∃ z, z = nA S24 q26 12 132 := ⟨_, rfl⟩
  rw [← hS29] at h ⊢
  refine z_widen (k' := 3) (n' := 147) (Nat.le_refl _) (Nat.le_refl _) ?_
  obtain ⟨hf32, h⟩ := h
  have h := h _ rfl
  refine z_putV (c := 5) (j := 6) (ty0 := tyX4) (S' := sR S28 506 a0 (some q26)) hf32.1 hf32.2 (Nat.le_of_ble_eq_true rfl) rfl zU_X4 tyX4_ok nmX4 (Nat.le_of_ble_eq_true rfl) (Nat.le_of_ble_eq_true rfl) ⟨_, zw_489, Or.inl rfl⟩ (.inr ⟨rfl, rfl⟩) (zrefn (ty := tyX4 6) (o := (some q26)) (by decide)) (zreff (ty := tyX4 6) (o := (some q26)) (by decide)) rfl (zUpR (v := (some q26)) hf32.2 (Nat.le_of_ble_eq_true rfl) (Nat.le_of_ble_eq_true rfl) rfl rfl) dX4_init_41 ?_
  obtain ⟨S33, hS34⟩ : ∃ z, z = sR S28 506 a0 (some q26) := ⟨_, rfl⟩
  rw [← hS34] at h ⊢
  have hf32 : a0 ∈ gL S33 ∧ gK S33 a0 = 5 := by rw [hS34]; exact hf32
  refine z_iconst (v := 0) dX4_init_44 rfl ?_
  refine z_istore (lv' := [(5, .int 0), (0, .ref a0), (1, .int l1), (2, .int l2), (3, .ref a3), (4, .int l4)]) dX4_init_45 (Nat.le_of_ble_eq_true rfl) rfl ?_
  obtain ⟨m47, h⟩ := h
  refine z_sub [1, 4, 5, 0] rfl ?_
  refine w_X4_init_L47 (fun a0 a3 l4 S h => ?_) m47 a0 a3 l4 0 S33 h
  refine z_iconst (v := 0) dX4_init_71 rfl ?_
  refine z_istore (lv' := [(5, .int 0), (0, .ref a0), (3, .ref a3), (4, .int l4)]) dX4_init_72 (Nat.le_of_ble_eq_true rfl) rfl ?_
  obtain ⟨m74, h⟩ := h
  refine z_sub [1, 2, 3, 0] rfl ?_
  refine w_X4_init_L74 (fun a0 S h => ?_) m74 a0 a3 l4 0 S h
  refine z_aload_n 0 dX4_init_99 rfl rfl ?_
  obtain ⟨hf63, h⟩ := h
  refine z_callVV (ci := 5) (st := []) (w_X4_gatherFalseRows h) hf63.1 hf63.2 (Nat.le_of_ble_eq_true rfl) rfl zw_444 zw_441 zw_443 zw_2 zw_52 zy_X4_gatherFalseRows rfl rfl ⟨Nat.le_of_ble_eq_true rfl, Nat.le_of_ble_eq_true rfl⟩ ⟨(Nat.le_of_ble_eq_true rfl), (Nat.le_of_ble_eq_true rfl)⟩ (Nat.le_of_ble_eq_true rfl) dX4_init_100 (fun _ _ hx => hx.elim) (fun S61 h => ?_)
  refine z_widen (k' := 4) (n' := 159) (Nat.le_refl _) (Nat.le_refl _) ?_
  exact z_return ⟨rfl, rfl, h⟩ rfl (Nat.le_of_ble_eq_true rfl) (Nat.le_of_ble_eq_true rfl) dX4_init_103
set_option maxRecDepth 20000 in
set_option maxHeartbeats 4000000 in
theorem w_X4_setLastChange {E : zE} {a0 : Nat} {l1 : Int32} {l2 : Int32} {S : zS} {Q : zS → Prop} {X : String → zS → Prop} (h : p_X4_setLastChange E a0 l1 l2 S Q X) : zM E yX4_setLastChange cX4_setLastChange 3 none ({ frames := 0, cells := 0, slots := 0, locals := 0 } : Room) [.ref a0, .int l1, .int l2] S (qV Q) X := by
  unfold p_X4_setLastChange at h
  refine zM_of RX4 false (by decide) rfl (fun h => by cases h) (Nat.le_of_ble_eq_true rfl) ?_
  refine z_aload_n 0 dX4_setLastChange_0 rfl rfl ?_
  obtain ⟨hf1, h⟩ := h
  refine z_getQ (c := 5) (j := 5) (f := 505) hf1.1 hf1.2 (Nat.le_of_ble_eq_true rfl) rfl zU_X4 (Nat.le_of_ble_eq_true rfl) (Nat.le_of_ble_eq_true rfl) ⟨_, zw_488, Or.inl rfl⟩ rfl rfl dX4_setLastChange_1 ?_
  refine z_iload_n 1 dX4_setLastChange_4 rfl rfl ?_
  refine z_iload_n 2 dX4_setLastChange_5 rfl rfl ?_
  obtain ⟨b2, hb3, h⟩ := h
  rw [show va_rf (gR S 505 a0) = Value.ref b2 from by rw [hb3]; rfl]
  obtain ⟨hf4, h⟩ := h
  obtain ⟨j5, hj6, h⟩ := h
  have h := h _ rfl
  refine z_iast (j := j5) hf4.1 hf4.2 hj6.1 hj6.2.1 hj6.2.2 dX4_setLastChange_6 ?_
  obtain ⟨S7, hS8⟩ : ∃ z, z = sA S b2 j5 l2 := ⟨_, rfl⟩
  rw [← hS8] at h ⊢
  have hf1 : a0 ∈ gL S7 ∧ gK S7 a0 = 5 := by rw [hS8]; exact hf1
  have hf4 : b2 ∈ gL S7 ∧ gK S7 b2 = 12 := by rw [hS8]; exact hf4
  exact z_return ⟨rfl, rfl, h⟩ rfl (Nat.le_of_ble_eq_true rfl) (Nat.le_of_ble_eq_true rfl) dX4_setLastChange_7
set_option maxRecDepth 20000 in
set_option maxHeartbeats 4000000 in
theorem w_X4_lastRow_L5 {E : zE} {K36 : Int32 → zS → Prop} {Q : Int32 → zS → Prop} {X : String → zS → Prop} (hK36 : ∀ (l3 : Int32) (S : zS), K36 l3 S → zJ E (RX4, cX4_lastRow, 5, (some .int), false, [], zTr) ({ frames := 3, cells := 0, slots := 0, locals := 67 } : Room) (zq (qI Q)) (zx X) 36 [(3, .int l3)] [] [] S 0 0) : ∀ (m5 : Nat) (a0 : Nat) (l2 : Int32) (l3 : Int32) (l4 : Int32) (S : zS), p_X4_lastRow_L5 E K36 Q X m5 a0 l2 l3 l4 S → zJ E (RX4, cX4_lastRow, 5, (some .int), false, [], zTr) ({ frames := 3, cells := 0, slots := 0, locals := 67 } : Room) (zq (qI Q)) (zx X) 5 [(0, .ref a0), (2, .int l2), (3, .int l3), (4, .int l4)] [] [] S 0 0 := by
  intro m5
  induction m5 with
  | zero => intro a0 l2 l3 l4 S h; exact (show False from h).elim
  | succ m5 ih =>
    intro a0 l2 l3 l4 S h
    unfold p_X4_lastRow_L5 at h
    refine z_iload 3 dX4_lastRow_5 rfl ?_
    refine z_aload_n 0 dX4_lastRow_7 rfl rfl ?_
    obtain ⟨hf1, h⟩ := h
    refine z_getI (c := 5) (j := 2) (f := 502) hf1.1 hf1.2 (Nat.le_of_ble_eq_true rfl) rfl zU_X4 (Nat.le_of_ble_eq_true rfl) (Nat.le_of_ble_eq_true rfl) ⟨_, zw_482, Or.inl rfl⟩ rfl rfl dX4_lastRow_8 ?_
    refine z_icmp_ge 36 dX4_lastRow_11 (by decide) (fun c7 => ?_) (fun c7 => ?_)
    · have h := h.1 c7
      refine z_sub [2] rfl ?_
      exact hK36 l3 S h
    · have h := h.2 c7
      refine z_iload_n 2 dX4_lastRow_14 rfl rfl ?_
      refine z_aload_n 0 dX4_lastRow_15 rfl rfl ?_
      refine z_iload_n 1 dX4_lastRow_16 rfl rfl ?_
      refine z_iload 3 dX4_lastRow_17 rfl ?_
      refine z_callVI (ci := 5) (st := [.int l3]) (w_X4_changeOf h) hf1.1 hf1.2 (Nat.le_of_ble_eq_true rfl) rfl zw_635 zw_1172 zw_633 zw_634 zw_52 zy_X4_changeOf rfl rfl ⟨Nat.le_of_ble_eq_true rfl, Nat.le_of_ble_eq_true rfl⟩ ⟨(Nat.le_of_ble_eq_true rfl), (Nat.le_of_ble_eq_true rfl)⟩ (Nat.le_of_ble_eq_true rfl) dX4_lastRow_19 (fun _ _ hx => hx.elim) (fun r3 S2 h => ?_)
      refine z_widen (k' := 0) (n' := 0) (Nat.le_refl _) (Nat.le_refl _) ?_
      refine z_aload_n 0 dX4_lastRow_22 rfl rfl ?_
      obtain ⟨hf4, h⟩ := h
      refine z_getI (c := 5) (j := 1) (f := 501) hf4.1 hf4.2 (Nat.le_of_ble_eq_true rfl) rfl zU_X4 (Nat.le_of_ble_eq_true rfl) (Nat.le_of_ble_eq_true rfl) ⟨_, zw_479, Or.inl rfl⟩ rfl rfl dX4_lastRow_23 ?_
      refine z_callSI (st := []) (w_X8_afterChange h) zw_450 zw_448 zw_449 zw_48 zy_X8_afterChange rfl rfl ⟨Nat.le_of_ble_eq_true rfl, Nat.le_of_ble_eq_true rfl⟩ ⟨(Nat.le_of_ble_eq_true rfl), (Nat.le_of_ble_eq_true rfl)⟩ (Nat.le_of_ble_eq_true rfl) dX4_lastRow_26 (fun _ _ hx => hx.elim) (fun r6 S5 h => ?_)
      refine z_widen (k' := 0) (n' := 0) (Nat.le_refl _) (Nat.le_refl _) ?_
      refine z_istore_n (lv' := [(3, .int r6), (0, .ref a0), (2, .int l2), (4, .int l4)]) dX4_lastRow_29 rfl (Nat.le_of_ble_eq_true rfl) rfl ?_
      refine z_iinc (v := (l4 + 1)) (lv' := [(4, .int (l4 + 1)), (3, .int r6), (0, .ref a0), (2, .int l2)]) 3 dX4_lastRow_30 rfl rfl (Nat.le_of_ble_eq_true rfl) rfl ?_
      refine z_goto 5 dX4_lastRow_33 (by decide) ?_
      refine z_sub [2, 3, 1, 0] rfl ?_
      exact ih a0 l2 r6 (l4 + 1) S5 h
set_option maxRecDepth 20000 in
set_option maxHeartbeats 4000000 in
theorem w_X4_lastRow {E : zE} {a0 : Nat} {l1 : Int32} {l2 : Int32} {S : zS} {Q : Int32 → zS → Prop} {X : String → zS → Prop} (h : p_X4_lastRow E a0 l1 l2 S Q X) : zM E yX4_lastRow cX4_lastRow 5 (some .int) ({ frames := 3, cells := 0, slots := 0, locals := 67 } : Room) [.ref a0, .int l1, .int l2] S (qI Q) X := by
  unfold p_X4_lastRow at h
  refine zM_of RX4 false (by decide) rfl (fun h => by cases h) (Nat.le_of_ble_eq_true rfl) ?_
  refine z_iload_n 1 dX4_lastRow_0 rfl rfl ?_
  refine z_istore_n (lv' := [(3, .int l1), (0, .ref a0), (1, .int l1), (2, .int l2)]) dX4_lastRow_1 rfl (Nat.le_of_ble_eq_true rfl) rfl ?_
  refine z_iconst (v := 0) dX4_lastRow_2 rfl ?_
  refine z_istore (lv' := [(4, .int 0), (3, .int l1), (0, .ref a0), (1, .int l1), (2, .int l2)]) dX4_lastRow_3 (Nat.le_of_ble_eq_true rfl) rfl ?_
  obtain ⟨m5, h⟩ := h
  refine z_sub [2, 4, 1, 0] rfl ?_
  refine w_X4_lastRow_L5 (fun l3 S h => ?_) m5 a0 l2 l1 0 S h
  refine z_iload_n 0 dX4_lastRow_36 rfl rfl ?_
  exact z_ireturn ⟨rfl, _, rfl, h⟩ rfl (Nat.le_of_ble_eq_true rfl) (Nat.le_of_ble_eq_true rfl) dX4_lastRow_37
set_option maxRecDepth 20000 in
set_option maxHeartbeats 4000000 in
theorem w_X4_leadsToRounds_L17 {E : zE} {K42 : Int32 → zS → Prop} {Q : Int32 → zS → Prop} {X : String → zS → Prop} (hK42 : ∀ (l3 : Int32) (S : zS), K42 l3 S → zJ E (RX4, cX4_leadsToRounds, 4, (some .int), false, [], zTr) ({ frames := 4, cells := 0, slots := 0, locals := 91 } : Room) (zq (qI Q)) (zx X) 42 [(3, .int l3)] [] [] S 0 0) : ∀ (m17 : Nat) (a0 : Nat) (l1 : Int32) (l2 : Int32) (l3 : Int32) (S : zS), p_X4_leadsToRounds_L17 E K42 Q X m17 a0 l1 l2 l3 S → zJ E (RX4, cX4_leadsToRounds, 4, (some .int), false, [], zTr) ({ frames := 4, cells := 0, slots := 0, locals := 91 } : Room) (zq (qI Q)) (zx X) 17 [(0, .ref a0), (1, .int l1), (2, .int l2), (3, .int l3)] [] [] S 0 0 := by
  intro m17
  induction m17 with
  | zero => intro a0 l1 l2 l3 S h; exact (show False from h).elim
  | succ m17 ih =>
    intro a0 l1 l2 l3 S h
    unfold p_X4_leadsToRounds_L17 at h
    refine z_iload_n 2 dX4_leadsToRounds_17 rfl rfl ?_
    refine z_iload_n 1 dX4_leadsToRounds_18 rfl rfl ?_
    refine z_icmp_eq 42 dX4_leadsToRounds_19 (by decide) (fun c10 => ?_) (fun c10 => ?_)
    · have h := h.1 c10
      refine z_sub [3] rfl ?_
      exact hK42 l3 S h
    · have h := h.2 c10
      refine z_iload_n 3 dX4_leadsToRounds_22 rfl rfl ?_
      refine z_sipush (v := 720) dX4_leadsToRounds_23 rfl ?_
      refine z_icmp_ge 42 dX4_leadsToRounds_26 (by decide) (fun c9 => ?_) (fun c9 => ?_)
      · have h := h.1 c9
        refine z_sub [3] rfl ?_
        exact hK42 l3 S h
      · have h := h.2 c9
        refine z_aload_n 0 dX4_leadsToRounds_29 rfl rfl ?_
        refine z_iload_n 2 dX4_leadsToRounds_30 rfl rfl ?_
        refine z_iconst (v := 0) dX4_leadsToRounds_31 rfl ?_
        obtain ⟨hf8, h⟩ := h
        refine z_callVI (ci := 5) (st := []) (w_X4_lastRow h) hf8.1 hf8.2 (Nat.le_of_ble_eq_true rfl) rfl zw_1171 zw_1188 zw_1169 zw_1170 zw_52 zy_X4_lastRow rfl rfl ⟨Nat.le_of_ble_eq_true rfl, Nat.le_of_ble_eq_true rfl⟩ ⟨(Nat.le_of_ble_eq_true rfl), (Nat.le_of_ble_eq_true rfl)⟩ (Nat.le_of_ble_eq_true rfl) dX4_leadsToRounds_32 (fun _ _ hx => hx.elim) (fun r7 S6 h => ?_)
        refine z_widen (k' := 0) (n' := 0) (Nat.le_refl _) (Nat.le_refl _) ?_
        refine z_istore_n (lv' := [(2, .int r7), (0, .ref a0), (1, .int l1), (3, .int l3)]) dX4_leadsToRounds_35 rfl (Nat.le_of_ble_eq_true rfl) rfl ?_
        refine z_iinc (v := (l3 + 1)) (lv' := [(3, .int (l3 + 1)), (2, .int r7), (0, .ref a0), (1, .int l1)]) 3 dX4_leadsToRounds_36 rfl rfl (Nat.le_of_ble_eq_true rfl) rfl ?_
        refine z_goto 17 dX4_leadsToRounds_39 (by decide) ?_
        refine z_sub [2, 3, 1, 0] rfl ?_
        exact ih a0 l1 r7 (l3 + 1) S6 h
set_option maxRecDepth 20000 in
set_option maxHeartbeats 4000000 in
theorem w_X4_leadsToRounds {E : zE} {a0 : Nat} {S : zS} {Q : Int32 → zS → Prop} {X : String → zS → Prop} (h : p_X4_leadsToRounds E a0 S Q X) : zM E yX4_leadsToRounds cX4_leadsToRounds 4 (some .int) ({ frames := 4, cells := 0, slots := 0, locals := 91 } : Room) [.ref a0] S (qI Q) X := by
  unfold p_X4_leadsToRounds at h
  refine zM_of RX4 false (by decide) rfl (fun h => by cases h) (Nat.le_of_ble_eq_true rfl) ?_
  refine z_aload_n 0 dX4_leadsToRounds_0 rfl rfl ?_
  obtain ⟨hf1, h⟩ := h
  refine z_getI (c := 5) (j := 1) (f := 501) hf1.1 hf1.2 (Nat.le_of_ble_eq_true rfl) rfl zU_X4 (Nat.le_of_ble_eq_true rfl) (Nat.le_of_ble_eq_true rfl) ⟨_, zw_479, Or.inl rfl⟩ rfl rfl dX4_leadsToRounds_1 ?_
  refine z_callSI (st := []) (w_X8_rounds h) zw_447 zw_445 zw_446 zw_48 zy_X8_rounds rfl rfl ⟨Nat.le_of_ble_eq_true rfl, Nat.le_of_ble_eq_true rfl⟩ ⟨(Nat.le_of_ble_eq_true rfl), (Nat.le_of_ble_eq_true rfl)⟩ (Nat.le_of_ble_eq_true rfl) dX4_leadsToRounds_4 (fun _ _ hx => hx.elim) (fun r3 S2 h => ?_)
  refine z_widen (k' := 0) (n' := 0) (Nat.le_refl _) (Nat.le_refl _) ?_
  refine z_istore_n (lv' := [(1, .int r3), (0, .ref a0)]) dX4_leadsToRounds_7 rfl (Nat.le_of_ble_eq_true rfl) rfl ?_
  refine z_aload_n 1 dX4_leadsToRounds_8 rfl rfl ?_
  refine z_iload_n 0 dX4_leadsToRounds_9 rfl rfl ?_
  refine z_iconst (v := 0) dX4_leadsToRounds_10 rfl ?_
  obtain ⟨hf11, h⟩ := h
  refine z_callVI (ci := 5) (st := []) (w_X4_lastRow h) hf11.1 hf11.2 (Nat.le_of_ble_eq_true rfl) rfl zw_1171 zw_1188 zw_1169 zw_1170 zw_52 zy_X4_lastRow rfl rfl ⟨Nat.le_of_ble_eq_true rfl, Nat.le_of_ble_eq_true rfl⟩ ⟨(Nat.le_of_ble_eq_true rfl), (Nat.le_of_ble_eq_true rfl)⟩ (Nat.le_of_ble_eq_true rfl) dX4_leadsToRounds_11 (fun _ _ hx => hx.elim) (fun r5 S4 h => ?_)
  refine z_widen (k' := 0) (n' := 0) (Nat.le_refl _) (Nat.le_refl _) ?_
  refine z_istore_n (lv' := [(2, .int r5), (1, .int r3), (0, .ref a0)]) dX4_leadsToRounds_14 rfl (Nat.le_of_ble_eq_true rfl) rfl ?_
  refine z_iconst (v := 1) dX4_leadsToRounds_15 rfl ?_
  refine z_istore_n (lv' := [(3, .int 1), (2, .int r5), (1, .int r3), (0, .ref a0)]) dX4_leadsToRounds_16 rfl (Nat.le_of_ble_eq_true rfl) rfl ?_
  obtain ⟨m17, h⟩ := h
  refine z_sub [3, 2, 1, 0] rfl ?_
  refine w_X4_leadsToRounds_L17 (fun l3 S h => ?_) m17 a0 r3 r5 1 S4 h
  refine z_iload_n 0 dX4_leadsToRounds_42 rfl rfl ?_
  exact z_ireturn ⟨rfl, _, rfl, h⟩ rfl (Nat.le_of_ble_eq_true rfl) (Nat.le_of_ble_eq_true rfl) dX4_leadsToRounds_43
set_option maxRecDepth 20000 in
set_option maxHeartbeats 4000000 in
theorem w_X5_init {E : zE} {a0 : Nat} {S : zS} {Q : zS → Prop} {X : String → zS → Prop} (h : p_X5_init E a0 S Q X) : zM E yX5_init cX5_init 1 none ({ frames := 1, cells := 1, slots := 720, locals := 12 } : Room) [.ref a0] S (qV Q) X := by
  unfold p_X5_init at h
  refine zM_of RX5 true (by decide) rfl (fun h => rfl) (Nat.le_of_ble_eq_true rfl) ?_
  refine z_aload_n 0 dX5_init_0 rfl rfl ?_
  refine z_objInit zw_96 (Nat.le_of_ble_eq_true rfl) (Nat.le_of_ble_eq_true rfl) dX5_init_1 ?_
  refine z_aload_n 0 dX5_init_4 rfl rfl ?_
  refine z_sipush (v := 720) dX5_init_5 rfl ?_
  refine z_newa (c := 12) (N := 720) (.inl ⟨rfl, rfl⟩) zw_101 rfl (Nat.le_of_ble_eq_true rfl) (Nat.le_of_ble_eq_true rfl) (Nat.le_of_ble_eq_true rfl) dX5_init_8 (fun q1 hq2 => ?_)
  have h := h q1 hq2 _ rfl
  obtain ⟨S3, hS4⟩ : ∃ z, z = nA S q1 12 720 := ⟨_, rfl⟩
  rw [← hS4] at h ⊢
  refine z_widen (k' := 1) (n' := 720) (Nat.le_refl _) (Nat.le_refl _) ?_
  obtain ⟨hf7, h⟩ := h
  have h := h _ rfl
  refine z_putV (c := 6) (j := 0) (ty0 := tyX5) (S' := sR S3 600 a0 (some q1)) hf7.1 hf7.2 (Nat.le_of_ble_eq_true rfl) rfl zU_X5 tyX5_ok nmX5 (Nat.le_of_ble_eq_true rfl) (Nat.le_of_ble_eq_true rfl) ⟨_, zw_97, Or.inl rfl⟩ (.inr ⟨rfl, rfl⟩) (zrefn (ty := tyX5 0) (o := (some q1)) (by decide)) (zreff (ty := tyX5 0) (o := (some q1)) (by decide)) rfl (zUpR (v := (some q1)) hf7.2 (Nat.le_of_ble_eq_true rfl) (Nat.le_of_ble_eq_true rfl) rfl rfl) dX5_init_10 ?_
  obtain ⟨S8, hS9⟩ : ∃ z, z = sR S3 600 a0 (some q1) := ⟨_, rfl⟩
  rw [← hS9] at h ⊢
  have hf7 : a0 ∈ gL S8 ∧ gK S8 a0 = 6 := by rw [hS9]; exact hf7
  exact z_return ⟨rfl, rfl, h⟩ rfl (Nat.le_of_ble_eq_true rfl) (Nat.le_of_ble_eq_true rfl) dX5_init_13
set_option maxRecDepth 20000 in
set_option maxHeartbeats 4000000 in
theorem w_X6_init {E : zE} {a0 : Nat} {a1 : Nat} {a2 : Nat} {l3 : Int32} {l4 : Int32} {S : zS} {Q : zS → Prop} {X : String → zS → Prop} (h : p_X6_init E a0 a1 a2 l3 l4 S Q X) : zM E yX6_init cX6_init 5 none ({ frames := 1, cells := 0, slots := 0, locals := 12 } : Room) [.ref a0, .ref a1, .ref a2, .int l3, .int l4] S (qV Q) X := by
  unfold p_X6_init at h
  refine zM_of RX6 true (by decide) rfl (fun h => rfl) (Nat.le_of_ble_eq_true rfl) ?_
  refine z_aload_n 0 dX6_init_0 rfl rfl ?_
  refine z_objInit zw_973 (Nat.le_of_ble_eq_true rfl) (Nat.le_of_ble_eq_true rfl) dX6_init_1 ?_
  refine z_aload_n 0 dX6_init_4 rfl rfl ?_
  refine z_aload_n 1 dX6_init_5 rfl rfl ?_
  obtain ⟨hf1, h⟩ := h
  have h := h _ rfl
  refine z_putV (c := 7) (j := 0) (ty0 := tyX6) (S' := sR S 700 a0 (some a1)) hf1.1 hf1.2 (Nat.le_of_ble_eq_true rfl) rfl zU_X6 tyX6_ok nmX6 (Nat.le_of_ble_eq_true rfl) (Nat.le_of_ble_eq_true rfl) ⟨_, zw_974, Or.inl rfl⟩ (.inr ⟨rfl, rfl⟩) (zrefn (ty := tyX6 0) (o := (some a1)) (by decide)) (zreff (ty := tyX6 0) (o := (some a1)) (by decide)) rfl (zUpR (v := (some a1)) hf1.2 (Nat.le_of_ble_eq_true rfl) (Nat.le_of_ble_eq_true rfl) rfl rfl) dX6_init_6 ?_
  obtain ⟨S2, hS3⟩ : ∃ z, z = sR S 700 a0 (some a1) := ⟨_, rfl⟩
  rw [← hS3] at h ⊢
  have hf1 : a0 ∈ gL S2 ∧ gK S2 a0 = 7 := by rw [hS3]; exact hf1
  refine z_aload_n 0 dX6_init_9 rfl rfl ?_
  refine z_aload_n 2 dX6_init_10 rfl rfl ?_
  have h := h _ rfl
  refine z_putV (c := 7) (j := 3) (ty0 := tyX6) (S' := sR S2 703 a0 (some a2)) hf1.1 hf1.2 (Nat.le_of_ble_eq_true rfl) rfl zU_X6 tyX6_ok nmX6 (Nat.le_of_ble_eq_true rfl) (Nat.le_of_ble_eq_true rfl) ⟨_, zw_980, Or.inl rfl⟩ (.inr ⟨rfl, rfl⟩) (zrefn (ty := tyX6 3) (o := (some a2)) (by decide)) (zreff (ty := tyX6 3) (o := (some a2)) (by decide)) rfl (zUpR (v := (some a2)) hf1.2 (Nat.le_of_ble_eq_true rfl) (Nat.le_of_ble_eq_true rfl) rfl rfl) dX6_init_11 ?_
  obtain ⟨S4, hS5⟩ : ∃ z, z = sR S2 703 a0 (some a2) := ⟨_, rfl⟩
  rw [← hS5] at h ⊢
  have hf1 : a0 ∈ gL S4 ∧ gK S4 a0 = 7 := by rw [hS5]; exact hf1
  refine z_aload_n 0 dX6_init_14 rfl rfl ?_
  refine z_iload_n 3 dX6_init_15 rfl rfl ?_
  have h := h _ rfl
  refine z_putV (c := 7) (j := 4) (ty0 := tyX6) (S' := sI S4 704 a0 l3) hf1.1 hf1.2 (Nat.le_of_ble_eq_true rfl) rfl zU_X6 tyX6_ok nmX6 (Nat.le_of_ble_eq_true rfl) (Nat.le_of_ble_eq_true rfl) ⟨_, zw_981, Or.inl rfl⟩ (.inr ⟨rfl, rfl⟩) rfl rfl rfl (zUpI (v := l3) hf1.2 (Nat.le_of_ble_eq_true rfl) (Nat.le_of_ble_eq_true rfl) rfl rfl) dX6_init_16 ?_
  obtain ⟨S6, hS7⟩ : ∃ z, z = sI S4 704 a0 l3 := ⟨_, rfl⟩
  rw [← hS7] at h ⊢
  have hf1 : a0 ∈ gL S6 ∧ gK S6 a0 = 7 := by rw [hS7]; exact hf1
  refine z_aload_n 0 dX6_init_19 rfl rfl ?_
  refine z_iload 4 dX6_init_20 rfl ?_
  have h := h _ rfl
  refine z_putV (c := 7) (j := 5) (ty0 := tyX6) (S' := sI S6 705 a0 l4) hf1.1 hf1.2 (Nat.le_of_ble_eq_true rfl) rfl zU_X6 tyX6_ok nmX6 (Nat.le_of_ble_eq_true rfl) (Nat.le_of_ble_eq_true rfl) ⟨_, zw_982, Or.inl rfl⟩ (.inr ⟨rfl, rfl⟩) rfl rfl rfl (zUpI (v := l4) hf1.2 (Nat.le_of_ble_eq_true rfl) (Nat.le_of_ble_eq_true rfl) rfl rfl) dX6_init_22 ?_
  obtain ⟨S8, hS9⟩ : ∃ z, z = sI S6 705 a0 l4 := ⟨_, rfl⟩
  rw [← hS9] at h ⊢
  have hf1 : a0 ∈ gL S8 ∧ gK S8 a0 = 7 := by rw [hS9]; exact hf1
  exact z_return ⟨rfl, rfl, h⟩ rfl (Nat.le_of_ble_eq_true rfl) (Nat.le_of_ble_eq_true rfl) dX6_init_25
set_option maxRecDepth 20000 in
set_option maxHeartbeats 4000000 in
theorem w_X6_isByPeople {E : zE} {a0 : Nat} {l1 : Int32} {S : zS} {Q : Int32 → zS → Prop} {X : String → zS → Prop} (h : p_X6_isByPeople E a0 l1 S Q X) : zM E yX6_isByPeople cX6_isByPeople 2 (some .boolean) ({ frames := 0, cells := 0, slots := 0, locals := 0 } : Room) [.ref a0, .int l1] S (qI Q) X := by
  unfold p_X6_isByPeople at h
  refine zM_of RX6 false (by decide) rfl (fun h => by cases h) (Nat.le_of_ble_eq_true rfl) ?_
  refine z_aload_n 0 dX6_isByPeople_0 rfl rfl ?_
  obtain ⟨hf1, h⟩ := h
  refine z_getI (c := 7) (j := 4) (f := 704) hf1.1 hf1.2 (Nat.le_of_ble_eq_true rfl) rfl zU_X6 (Nat.le_of_ble_eq_true rfl) (Nat.le_of_ble_eq_true rfl) ⟨_, zw_981, Or.inl rfl⟩ rfl rfl dX6_isByPeople_1 ?_
  refine z_iload_n 1 dX6_isByPeople_4 rfl rfl ?_
  refine z_ishr dX6_isByPeople_5 ?_
  refine z_iconst (v := 1) dX6_isByPeople_6 rfl ?_
  refine z_iand dX6_isByPeople_7 ?_
  refine z_iconst (v := 1) dX6_isByPeople_8 rfl ?_
  refine z_icmp_ne 16 dX6_isByPeople_9 (by decide) (fun c4 => ?_) (fun c4 => ?_)
  · have h := h.1 c4
    refine z_iconst (v := 0) dX6_isByPeople_16 rfl ?_
    obtain ⟨hz2, h⟩ := h
    exact z_zreturn ⟨rfl, _, rfl, h⟩ rfl (zbn hz2) (Nat.le_of_ble_eq_true rfl) (Nat.le_of_ble_eq_true rfl) dX6_isByPeople_17
  · have h := h.2 c4
    refine z_iconst (v := 1) dX6_isByPeople_12 rfl ?_
    refine z_goto 17 dX6_isByPeople_13 (by decide) ?_
    obtain ⟨hz3, h⟩ := h
    exact z_zreturn ⟨rfl, _, rfl, h⟩ rfl (zbn hz3) (Nat.le_of_ble_eq_true rfl) (Nat.le_of_ble_eq_true rfl) dX6_isByPeople_17
set_option maxRecDepth 20000 in
set_option maxHeartbeats 4000000 in
theorem w_X6_quarterGap {E : zE} {a0 : Nat} {S : zS} {Q : Int32 → zS → Prop} {X : String → zS → Prop} (h : p_X6_quarterGap E a0 S Q X) : zM E yX6_quarterGap cX6_quarterGap 1 (some .int) ({ frames := 0, cells := 0, slots := 0, locals := 0 } : Room) [.ref a0] S (qI Q) X := by
  unfold p_X6_quarterGap at h
  refine zM_of RX6 false (by decide) rfl (fun h => by cases h) (Nat.le_of_ble_eq_true rfl) ?_
  refine z_aload_n 0 dX6_quarterGap_0 rfl rfl ?_
  obtain ⟨hf1, h⟩ := h
  refine z_getI (c := 7) (j := 5) (f := 705) hf1.1 hf1.2 (Nat.le_of_ble_eq_true rfl) rfl zU_X6 (Nat.le_of_ble_eq_true rfl) (Nat.le_of_ble_eq_true rfl) ⟨_, zw_982, Or.inl rfl⟩ rfl rfl dX6_quarterGap_1 ?_
  refine z_iconst (v := 4) dX6_quarterGap_4 rfl ?_
  refine z_idiv dX6_quarterGap_5 (by decide) ?_
  exact z_ireturn ⟨rfl, _, rfl, h⟩ rfl (Nat.le_of_ble_eq_true rfl) (Nat.le_of_ble_eq_true rfl) dX6_quarterGap_6
set_option maxRecDepth 20000 in
set_option maxHeartbeats 4000000 in
theorem w_X6_awaitsPull {E : zE} {a0 : Nat} {l1 : Int32} {S : zS} {Q : Int32 → zS → Prop} {X : String → zS → Prop} (h : p_X6_awaitsPull E a0 l1 S Q X) : zM E yX6_awaitsPull cX6_awaitsPull 2 (some .boolean) ({ frames := 1, cells := 0, slots := 0, locals := 21 } : Room) [.ref a0, .int l1] S (qI Q) X := by
  unfold p_X6_awaitsPull at h
  refine zM_of RX6 false (by decide) rfl (fun h => by cases h) (Nat.le_of_ble_eq_true rfl) ?_
  refine z_aload_n 0 dX6_awaitsPull_0 rfl rfl ?_
  refine z_iload_n 1 dX6_awaitsPull_1 rfl rfl ?_
  obtain ⟨hf20, h⟩ := h
  refine z_callVI (ci := 7) (st := []) (w_X6_isByPeople h) hf20.1 hf20.2 (Nat.le_of_ble_eq_true rfl) rfl zw_1011 zw_1008 zw_1010 zw_23 zw_56 zy_X6_isByPeople rfl rfl ⟨Nat.le_of_ble_eq_true rfl, Nat.le_of_ble_eq_true rfl⟩ ⟨(Nat.le_of_ble_eq_true rfl), (Nat.le_of_ble_eq_true rfl)⟩ (Nat.le_of_ble_eq_true rfl) dX6_awaitsPull_2 (fun _ _ hx => hx.elim) (fun r2 S1 h => ?_)
  refine z_widen (k' := 0) (n' := 0) (Nat.le_refl _) (Nat.le_refl _) ?_
  refine z_if_eq 31 dX6_awaitsPull_5 (by decide) (fun c19 => ?_) (fun c19 => ?_)
  · have h := h.1 c19
    refine z_iconst (v := 0) dX6_awaitsPull_31 rfl ?_
    obtain ⟨hz3, h⟩ := h
    exact z_zreturn ⟨rfl, _, rfl, h⟩ rfl (zbn hz3) (Nat.le_of_ble_eq_true rfl) (Nat.le_of_ble_eq_true rfl) dX6_awaitsPull_32
  · have h := h.2 c19
    refine z_aload_n 0 dX6_awaitsPull_8 rfl rfl ?_
    obtain ⟨hf4, h⟩ := h
    refine z_getQ (c := 7) (j := 3) (f := 703) hf4.1 hf4.2 (Nat.le_of_ble_eq_true rfl) rfl zU_X6 (Nat.le_of_ble_eq_true rfl) (Nat.le_of_ble_eq_true rfl) ⟨_, zw_980, Or.inl rfl⟩ rfl rfl dX6_awaitsPull_9 ?_
    refine z_iload_n 1 dX6_awaitsPull_12 rfl rfl ?_
    obtain ⟨b5, hb6, h⟩ := h
    rw [show va_rf (gR S1 703 a0) = Value.ref b5 from by rw [hb6]; rfl]
    obtain ⟨hf7, h⟩ := h
    obtain ⟨j8, hj9, h⟩ := h
    refine z_aald (j := j8) hf7.1 rfl hf7.2.1 hf7.2.2 hj9.1 hj9.2.1 hj9.2.2 dX6_awaitsPull_13 ?_
    obtain ⟨b10, hb11, h⟩ := h
    rw [show va_rf (gQ S1 b5 j8) = Value.ref b10 from by rw [hb11]; rfl]
    obtain ⟨hf12, h⟩ := h
    refine z_getI (c := 2) (j := 4) (f := 204) hf12.1 hf12.2 (Nat.le_of_ble_eq_true rfl) rfl zU_X1 (Nat.le_of_ble_eq_true rfl) (Nat.le_of_ble_eq_true rfl) ⟨_, zw_190, Or.inl rfl⟩ rfl rfl dX6_awaitsPull_14 ?_
    refine z_aload_n 0 dX6_awaitsPull_17 rfl rfl ?_
    refine z_getQ (c := 7) (j := 0) (f := 700) hf4.1 hf4.2 (Nat.le_of_ble_eq_true rfl) rfl zU_X6 (Nat.le_of_ble_eq_true rfl) (Nat.le_of_ble_eq_true rfl) ⟨_, zw_974, Or.inl rfl⟩ rfl rfl dX6_awaitsPull_18 ?_
    obtain ⟨b13, hb14, h⟩ := h
    rw [show va_rf (gR S1 700 a0) = Value.ref b13 from by rw [hb14]; rfl]
    obtain ⟨hf15, h⟩ := h
    refine z_getI (c := 9) (j := 2) (f := 902) hf15.1 hf15.2 (Nat.le_of_ble_eq_true rfl) rfl zU_X9 (Nat.le_of_ble_eq_true rfl) (Nat.le_of_ble_eq_true rfl) ⟨_, zw_123, Or.inl rfl⟩ rfl rfl dX6_awaitsPull_21 ?_
    refine z_icmp_ge 31 dX6_awaitsPull_24 (by decide) (fun c18 => ?_) (fun c18 => ?_)
    · have h := h.1 c18
      refine z_iconst (v := 0) dX6_awaitsPull_31 rfl ?_
      obtain ⟨hz16, h⟩ := h
      exact z_zreturn ⟨rfl, _, rfl, h⟩ rfl (zbn hz16) (Nat.le_of_ble_eq_true rfl) (Nat.le_of_ble_eq_true rfl) dX6_awaitsPull_32
    · have h := h.2 c18
      refine z_iconst (v := 1) dX6_awaitsPull_27 rfl ?_
      refine z_goto 32 dX6_awaitsPull_28 (by decide) ?_
      obtain ⟨hz17, h⟩ := h
      exact z_zreturn ⟨rfl, _, rfl, h⟩ rfl (zbn hz17) (Nat.le_of_ble_eq_true rfl) (Nat.le_of_ble_eq_true rfl) dX6_awaitsPull_32
set_option maxRecDepth 20000 in
set_option maxHeartbeats 4000000 in
theorem w_X8_placeOf_L2 {E : zE} {K16 : Int32 → zS → Prop} {K24 : zS → Prop} {Q : Int32 → zS → Prop} {X : String → zS → Prop} (hK16 : ∀ (l3 : Int32) (S : zS), K16 l3 S → zJ E (RX8, cX8_placeOf, 4, (some .int), false, [], zTr) ({ frames := 1, cells := 0, slots := 0, locals := 21 } : Room) (zq (qI Q)) (zx X) 16 [(3, .int l3)] [] [] S 0 0) (hK24 : ∀  (S : zS), K24  S → zJ E (RX8, cX8_placeOf, 4, (some .int), false, [], zTr) ({ frames := 1, cells := 0, slots := 0, locals := 21 } : Room) (zq (qI Q)) (zx X) 24 [] [] [] S 0 0) : ∀ (m2 : Nat) (l0 : Int32) (l1 : Int32) (l2 : Int32) (l3 : Int32) (S : zS), p_X8_placeOf_L2 E K16 K24 Q X m2 l0 l1 l2 l3 S → zJ E (RX8, cX8_placeOf, 4, (some .int), false, [], zTr) ({ frames := 1, cells := 0, slots := 0, locals := 21 } : Room) (zq (qI Q)) (zx X) 2 [(0, .int l0), (1, .int l1), (2, .int l2), (3, .int l3)] [] [] S 0 0 := by
  intro m2
  induction m2 with
  | zero => intro l0 l1 l2 l3 S h; exact (show False from h).elim
  | succ m2 ih =>
    intro l0 l1 l2 l3 S h
    unfold p_X8_placeOf_L2 at h
    refine z_iload_n 3 dX8_placeOf_2 rfl rfl ?_
    refine z_iload_n 2 dX8_placeOf_3 rfl rfl ?_
    refine z_icmp_ge 24 dX8_placeOf_4 (by decide) (fun c4 => ?_) (fun c4 => ?_)
    · have h := h.1 c4
      refine z_sub [] rfl ?_
      exact hK24 S h
    · have h := h.2 c4
      refine z_iload_n 0 dX8_placeOf_7 rfl rfl ?_
      refine z_iload_n 3 dX8_placeOf_8 rfl rfl ?_
      refine z_callSI (st := []) (w_X8_bellIn h) zw_456 zw_454 zw_455 zw_48 zy_X8_bellIn rfl rfl ⟨Nat.le_of_ble_eq_true rfl, Nat.le_of_ble_eq_true rfl⟩ ⟨(Nat.le_of_ble_eq_true rfl), (Nat.le_of_ble_eq_true rfl)⟩ (Nat.le_of_ble_eq_true rfl) dX8_placeOf_9 (fun _ _ hx => hx.elim) (fun r2 S1 h => ?_)
      refine z_widen (k' := 0) (n' := 0) (Nat.le_refl _) (Nat.le_refl _) ?_
      refine z_iload_n 1 dX8_placeOf_12 rfl rfl ?_
      refine z_icmp_ne 18 dX8_placeOf_13 (by decide) (fun c3 => ?_) (fun c3 => ?_)
      · have h := h.1 c3
        refine z_iinc (v := (l3 + 1)) (lv' := [(3, .int (l3 + 1)), (0, .int l0), (1, .int l1), (2, .int l2)]) 3 dX8_placeOf_18 rfl rfl (Nat.le_of_ble_eq_true rfl) rfl ?_
        refine z_goto 2 dX8_placeOf_21 (by decide) ?_
        refine z_sub [1, 2, 3, 0] rfl ?_
        exact ih l0 l1 l2 (l3 + 1) S1 h
      · have h := h.2 c3
        refine z_sub [3] rfl ?_
        exact hK16 l3 S1 h
set_option maxRecDepth 20000 in
set_option maxHeartbeats 4000000 in
theorem w_X8_placeOf {E : zE} {l0 : Int32} {l1 : Int32} {l2 : Int32} {S : zS} {Q : Int32 → zS → Prop} {X : String → zS → Prop} (h : p_X8_placeOf E l0 l1 l2 S Q X) : zM E yX8_placeOf cX8_placeOf 4 (some .int) ({ frames := 1, cells := 0, slots := 0, locals := 21 } : Room) [.int l0, .int l1, .int l2] S (qI Q) X := by
  unfold p_X8_placeOf at h
  refine zM_of RX8 false (by decide) rfl (fun h => by cases h) (Nat.le_of_ble_eq_true rfl) ?_
  refine z_iconst (v := 0) dX8_placeOf_0 rfl ?_
  refine z_istore_n (lv' := [(3, .int 0), (0, .int l0), (1, .int l1), (2, .int l2)]) dX8_placeOf_1 rfl (Nat.le_of_ble_eq_true rfl) rfl ?_
  obtain ⟨m2, h⟩ := h
  refine z_sub [1, 2, 3, 0] rfl ?_
  refine w_X8_placeOf_L2 (fun l3 S h => ?_) (fun S h => ?_) m2 l0 l1 l2 0 S h
  · refine z_iload_n 0 dX8_placeOf_16 rfl rfl ?_
    exact z_ireturn ⟨rfl, _, rfl, h⟩ rfl (Nat.le_of_ble_eq_true rfl) (Nat.le_of_ble_eq_true rfl) dX8_placeOf_17
  · refine z_iconst (v := (-1)) dX8_placeOf_24 rfl ?_
    exact z_ireturn ⟨rfl, _, rfl, h⟩ rfl (Nat.le_of_ble_eq_true rfl) (Nat.le_of_ble_eq_true rfl) dX8_placeOf_25
set_option maxRecDepth 20000 in
set_option maxHeartbeats 4000000 in
theorem w_X6_dueAt {E : zE} {a0 : Nat} {l1 : Int32} {l2 : Int32} {S : zS} {Q : Int32 → zS → Prop} {X : String → zS → Prop} (h : p_X6_dueAt E a0 l1 l2 S Q X) : zM E yX6_dueAt cX6_dueAt 3 (some .int) ({ frames := 0, cells := 0, slots := 0, locals := 0 } : Room) [.ref a0, .int l1, .int l2] S (qI Q) X := by
  unfold p_X6_dueAt at h
  refine zM_of RX6 false (by decide) rfl (fun h => by cases h) (Nat.le_of_ble_eq_true rfl) ?_
  refine z_aload_n 0 dX6_dueAt_0 rfl rfl ?_
  obtain ⟨hf1, h⟩ := h
  refine z_getI (c := 7) (j := 5) (f := 705) hf1.1 hf1.2 (Nat.le_of_ble_eq_true rfl) rfl zU_X6 (Nat.le_of_ble_eq_true rfl) (Nat.le_of_ble_eq_true rfl) ⟨_, zw_982, Or.inl rfl⟩ rfl rfl dX6_dueAt_1 ?_
  refine z_aload_n 0 dX6_dueAt_4 rfl rfl ?_
  refine z_getQ (c := 7) (j := 0) (f := 700) hf1.1 hf1.2 (Nat.le_of_ble_eq_true rfl) rfl zU_X6 (Nat.le_of_ble_eq_true rfl) (Nat.le_of_ble_eq_true rfl) ⟨_, zw_974, Or.inl rfl⟩ rfl rfl dX6_dueAt_5 ?_
  obtain ⟨b2, hb3, h⟩ := h
  rw [show va_rf (gR S 700 a0) = Value.ref b2 from by rw [hb3]; rfl]
  obtain ⟨hf4, h⟩ := h
  refine z_getI (c := 9) (j := 1) (f := 901) hf4.1 hf4.2 (Nat.le_of_ble_eq_true rfl) rfl zU_X9 (Nat.le_of_ble_eq_true rfl) (Nat.le_of_ble_eq_true rfl) ⟨_, zw_121, Or.inl rfl⟩ rfl rfl dX6_dueAt_8 ?_
  refine z_iload_n 1 dX6_dueAt_11 rfl rfl ?_
  refine z_imul dX6_dueAt_12 ?_
  refine z_iload_n 2 dX6_dueAt_13 rfl rfl ?_
  refine z_iadd dX6_dueAt_14 ?_
  refine z_iload_n 1 dX6_dueAt_15 rfl rfl ?_
  refine z_iconst (v := 2) dX6_dueAt_16 rfl ?_
  refine z_idiv dX6_dueAt_17 (by decide) ?_
  refine z_iadd dX6_dueAt_18 ?_
  refine z_imul dX6_dueAt_19 ?_
  refine z_aload_n 0 dX6_dueAt_20 rfl rfl ?_
  refine z_getI (c := 7) (j := 2) (f := 702) hf1.1 hf1.2 (Nat.le_of_ble_eq_true rfl) rfl zU_X6 (Nat.le_of_ble_eq_true rfl) (Nat.le_of_ble_eq_true rfl) ⟨_, zw_978, Or.inl rfl⟩ rfl rfl dX6_dueAt_21 ?_
  refine z_iadd dX6_dueAt_24 ?_
  exact z_ireturn ⟨rfl, _, rfl, h⟩ rfl (Nat.le_of_ble_eq_true rfl) (Nat.le_of_ble_eq_true rfl) dX6_dueAt_25
set_option maxRecDepth 20000 in
set_option maxHeartbeats 4000000 in
theorem w_X6_nextDue {E : zE} {a0 : Nat} {l1 : Int32} {S : zS} {Q : Int32 → zS → Prop} {X : String → zS → Prop} (h : p_X6_nextDue E a0 l1 S Q X) : zM E yX6_nextDue cX6_nextDue 3 (some .int) ({ frames := 2, cells := 0, slots := 0, locals := 44 } : Room) [.ref a0, .int l1] S (qI Q) X := by
  unfold p_X6_nextDue at h
  refine zM_of RX6 false (by decide) rfl (fun h => by cases h) (Nat.le_of_ble_eq_true rfl) ?_
  refine z_aload_n 0 dX6_nextDue_0 rfl rfl ?_
  obtain ⟨hf1, h⟩ := h
  refine z_getQ (c := 7) (j := 3) (f := 703) hf1.1 hf1.2 (Nat.le_of_ble_eq_true rfl) rfl zU_X6 (Nat.le_of_ble_eq_true rfl) (Nat.le_of_ble_eq_true rfl) ⟨_, zw_980, Or.inl rfl⟩ rfl rfl dX6_nextDue_1 ?_
  refine z_iload_n 1 dX6_nextDue_4 rfl rfl ?_
  obtain ⟨b2, hb3, h⟩ := h
  rw [show va_rf (gR S 703 a0) = Value.ref b2 from by rw [hb3]; rfl]
  obtain ⟨hf4, h⟩ := h
  obtain ⟨j5, hj6, h⟩ := h
  refine z_aald (j := j5) hf4.1 rfl hf4.2.1 hf4.2.2 hj6.1 hj6.2.1 hj6.2.2 dX6_nextDue_5 ?_
  obtain ⟨b7, hb8, h⟩ := h
  rw [show va_rf (gQ S b2 j5) = Value.ref b7 from by rw [hb8]; rfl]
  obtain ⟨hf9, h⟩ := h
  refine z_getI (c := 2) (j := 4) (f := 204) hf9.1 hf9.2 (Nat.le_of_ble_eq_true rfl) rfl zU_X1 (Nat.le_of_ble_eq_true rfl) (Nat.le_of_ble_eq_true rfl) ⟨_, zw_190, Or.inl rfl⟩ rfl rfl dX6_nextDue_6 ?_
  refine z_istore_n (lv' := [(2, .int (gI S 204 b7)), (0, .ref a0), (1, .int l1)]) dX6_nextDue_9 rfl (Nat.le_of_ble_eq_true rfl) rfl ?_
  refine z_aload_n 1 dX6_nextDue_10 rfl rfl ?_
  refine z_iload_n 0 dX6_nextDue_11 rfl rfl ?_
  refine z_aload_n 1 dX6_nextDue_12 rfl rfl ?_
  refine z_getQ (c := 7) (j := 0) (f := 700) hf1.1 hf1.2 (Nat.le_of_ble_eq_true rfl) rfl zU_X6 (Nat.le_of_ble_eq_true rfl) (Nat.le_of_ble_eq_true rfl) ⟨_, zw_974, Or.inl rfl⟩ rfl rfl dX6_nextDue_13 ?_
  obtain ⟨b10, hb11, h⟩ := h
  rw [show va_rf (gR S 700 a0) = Value.ref b10 from by rw [hb11]; rfl]
  obtain ⟨hf12, h⟩ := h
  refine z_getQ (c := 9) (j := 8) (f := 908) hf12.1 hf12.2 (Nat.le_of_ble_eq_true rfl) rfl zU_X9 (Nat.le_of_ble_eq_true rfl) (Nat.le_of_ble_eq_true rfl) ⟨_, zw_139, Or.inl rfl⟩ rfl rfl dX6_nextDue_16 ?_
  refine z_iload_n 0 dX6_nextDue_19 rfl rfl ?_
  obtain ⟨b13, hb14, h⟩ := h
  rw [show va_rf (gR S 908 b10) = Value.ref b13 from by rw [hb14]; rfl]
  obtain ⟨hf15, h⟩ := h
  obtain ⟨j16, hj17, h⟩ := h
  refine z_iald (j := j16) hf15.1 hf15.2 hj17.1 hj17.2.1 hj17.2.2 dX6_nextDue_20 ?_
  refine z_iload_n 2 dX6_nextDue_21 rfl rfl ?_
  refine z_aload_n 1 dX6_nextDue_22 rfl rfl ?_
  refine z_getQ (c := 7) (j := 0) (f := 700) hf1.1 hf1.2 (Nat.le_of_ble_eq_true rfl) rfl zU_X6 (Nat.le_of_ble_eq_true rfl) (Nat.le_of_ble_eq_true rfl) ⟨_, zw_974, Or.inl rfl⟩ rfl rfl dX6_nextDue_23 ?_
  obtain ⟨b18, hb19, h⟩ := h
  rw [show va_rf (gR S 700 a0) = Value.ref b18 from by rw [hb19]; rfl]
  obtain ⟨hf20, h⟩ := h
  refine z_getI (c := 9) (j := 1) (f := 901) hf20.1 hf20.2 (Nat.le_of_ble_eq_true rfl) rfl zU_X9 (Nat.le_of_ble_eq_true rfl) (Nat.le_of_ble_eq_true rfl) ⟨_, zw_121, Or.inl rfl⟩ rfl rfl dX6_nextDue_26 ?_
  refine z_callSI (st := [.int (gI S 204 b7), .ref a0]) (w_X8_placeOf h) zw_1112 zw_1110 zw_1111 zw_48 zy_X8_placeOf rfl rfl ⟨Nat.le_of_ble_eq_true rfl, Nat.le_of_ble_eq_true rfl⟩ ⟨(Nat.le_of_ble_eq_true rfl), (Nat.le_of_ble_eq_true rfl)⟩ (Nat.le_of_ble_eq_true rfl) dX6_nextDue_29 (fun _ _ hx => hx.elim) (fun r22 S21 h => ?_)
  refine z_widen (k' := 0) (n' := 0) (Nat.le_refl _) (Nat.le_refl _) ?_
  obtain ⟨hf25, h⟩ := h
  refine z_callVI (ci := 7) (st := []) (w_X6_dueAt h) hf25.1 hf25.2 (Nat.le_of_ble_eq_true rfl) rfl zw_1032 zw_1029 zw_1031 zw_25 zw_56 zy_X6_dueAt rfl rfl ⟨Nat.le_of_ble_eq_true rfl, Nat.le_of_ble_eq_true rfl⟩ ⟨(Nat.le_of_ble_eq_true rfl), (Nat.le_of_ble_eq_true rfl)⟩ (Nat.le_of_ble_eq_true rfl) dX6_nextDue_32 (fun _ _ hx => hx.elim) (fun r24 S23 h => ?_)
  refine z_widen (k' := 0) (n' := 0) (Nat.le_refl _) (Nat.le_refl _) ?_
  exact z_ireturn ⟨rfl, _, rfl, h⟩ rfl (Nat.le_of_ble_eq_true rfl) (Nat.le_of_ble_eq_true rfl) dX6_nextDue_35
set_option maxRecDepth 20000 in
set_option maxHeartbeats 4000000 in
theorem w_X6_canWait {E : zE} {a0 : Nat} {l1 : Int32} {l2 : Int32} {S : zS} {Q : Int32 → zS → Prop} {X : String → zS → Prop} (h : p_X6_canWait E a0 l1 l2 S Q X) : zM E yX6_canWait cX6_canWait 3 (some .boolean) ({ frames := 0, cells := 0, slots := 0, locals := 0 } : Room) [.ref a0, .int l1, .int l2] S (qI Q) X := by
  unfold p_X6_canWait at h
  refine zM_of RX6 false (by decide) rfl (fun h => by cases h) (Nat.le_of_ble_eq_true rfl) ?_
  refine z_iload_n 1 dX6_canWait_0 rfl rfl ?_
  refine z_iload_n 2 dX6_canWait_1 rfl rfl ?_
  refine z_icmp_le 23 dX6_canWait_2 (by decide) (fun c6 => ?_) (fun c6 => ?_)
  · have h := h.1 c6
    refine z_iconst (v := 1) dX6_canWait_23 rfl ?_
    refine z_goto 28 dX6_canWait_24 (by decide) ?_
    obtain ⟨hz1, h⟩ := h
    exact z_zreturn ⟨rfl, _, rfl, h⟩ rfl (zbn hz1) (Nat.le_of_ble_eq_true rfl) (Nat.le_of_ble_eq_true rfl) dX6_canWait_28
  · have h := h.2 c6
    refine z_aload_n 0 dX6_canWait_5 rfl rfl ?_
    obtain ⟨hf2, h⟩ := h
    refine z_getI (c := 7) (j := 2) (f := 702) hf2.1 hf2.2 (Nat.le_of_ble_eq_true rfl) rfl zU_X6 (Nat.le_of_ble_eq_true rfl) (Nat.le_of_ble_eq_true rfl) ⟨_, zw_978, Or.inl rfl⟩ rfl rfl dX6_canWait_6 ?_
    refine z_i2l dX6_canWait_9 rfl ?_
    refine z_iload_n 1 dX6_canWait_10 rfl rfl ?_
    refine z_i2l dX6_canWait_11 rfl ?_
    refine z_ladd dX6_canWait_12 ?_
    refine z_iload_n 2 dX6_canWait_13 rfl rfl ?_
    refine z_i2l dX6_canWait_14 rfl ?_
    refine z_lsub dX6_canWait_15 ?_
    refine z_ldc2 zw_1121 dX6_canWait_16 ?_
    refine z_lcmp dX6_canWait_19 ?_
    refine z_if_gt 27 dX6_canWait_20 (by decide) (fun c5 => ?_) (fun c5 => ?_)
    · have h := h.1 c5
      refine z_iconst (v := 0) dX6_canWait_27 rfl ?_
      obtain ⟨hz3, h⟩ := h
      exact z_zreturn ⟨rfl, _, rfl, h⟩ rfl (zbn hz3) (Nat.le_of_ble_eq_true rfl) (Nat.le_of_ble_eq_true rfl) dX6_canWait_28
    · have h := h.2 c5
      refine z_iconst (v := 1) dX6_canWait_23 rfl ?_
      refine z_goto 28 dX6_canWait_24 (by decide) ?_
      obtain ⟨hz4, h⟩ := h
      exact z_zreturn ⟨rfl, _, rfl, h⟩ rfl (zbn hz4) (Nat.le_of_ble_eq_true rfl) (Nat.le_of_ble_eq_true rfl) dX6_canWait_28
set_option maxRecDepth 20000 in
set_option maxHeartbeats 4000000 in
theorem w_X6_waitFor {E : zE} {a0 : Nat} {l1 : Int32} {l2 : Int32} {S : zS} {Q : zS → Prop} {X : String → zS → Prop} (h : p_X6_waitFor E a0 l1 l2 S Q X) : zM E yX6_waitFor cX6_waitFor 3 none ({ frames := 0, cells := 0, slots := 0, locals := 0 } : Room) [.ref a0, .int l1, .int l2] S (qV Q) X := by
  unfold p_X6_waitFor at h
  refine zM_of RX6 false (by decide) rfl (fun h => by cases h) (Nat.le_of_ble_eq_true rfl) ?_
  refine z_iload_n 1 dX6_waitFor_0 rfl rfl ?_
  refine z_iload_n 2 dX6_waitFor_1 rfl rfl ?_
  refine z_icmp_le 17 dX6_waitFor_2 (by decide) (fun c4 => ?_) (fun c4 => ?_)
  · have h := h.1 c4
    exact z_return ⟨rfl, rfl, h⟩ rfl (Nat.le_of_ble_eq_true rfl) (Nat.le_of_ble_eq_true rfl) dX6_waitFor_17
  · have h := h.2 c4
    refine z_aload_n 0 dX6_waitFor_5 rfl rfl ?_
    refine z_dup dX6_waitFor_6 rfl ?_
    obtain ⟨hf1, h⟩ := h
    refine z_getI (c := 7) (j := 2) (f := 702) hf1.1 hf1.2 (Nat.le_of_ble_eq_true rfl) rfl zU_X6 (Nat.le_of_ble_eq_true rfl) (Nat.le_of_ble_eq_true rfl) ⟨_, zw_978, Or.inl rfl⟩ rfl rfl dX6_waitFor_7 ?_
    refine z_iload_n 1 dX6_waitFor_10 rfl rfl ?_
    refine z_iload_n 2 dX6_waitFor_11 rfl rfl ?_
    refine z_isub dX6_waitFor_12 ?_
    refine z_iadd dX6_waitFor_13 ?_
    have h := h _ rfl
    refine z_putV (c := 7) (j := 2) (ty0 := tyX6) (S' := sI S 702 a0 ((gI S 702 a0) + (l1 - l2))) hf1.1 hf1.2 (Nat.le_of_ble_eq_true rfl) rfl zU_X6 tyX6_ok nmX6 (Nat.le_of_ble_eq_true rfl) (Nat.le_of_ble_eq_true rfl) ⟨_, zw_978, Or.inl rfl⟩ (.inl rfl) rfl rfl rfl (zUpI (v := ((gI S 702 a0) + (l1 - l2))) hf1.2 (Nat.le_of_ble_eq_true rfl) (Nat.le_of_ble_eq_true rfl) rfl rfl) dX6_waitFor_14 ?_
    obtain ⟨S2, hS3⟩ : ∃ z, z = sI S 702 a0 ((gI S 702 a0) + (l1 - l2)) := ⟨_, rfl⟩
    rw [← hS3] at h ⊢
    have hf1 : a0 ∈ gL S2 ∧ gK S2 a0 = 7 := by rw [hS3]; exact hf1
    exact z_return ⟨rfl, rfl, h⟩ rfl (Nat.le_of_ble_eq_true rfl) (Nat.le_of_ble_eq_true rfl) dX6_waitFor_17
set_option maxRecDepth 20000 in
set_option maxHeartbeats 4000000 in
theorem w_X6_areAllRowsDone {E : zE} {a0 : Nat} {S : zS} {Q : Int32 → zS → Prop} {X : String → zS → Prop} (h : p_X6_areAllRowsDone E a0 S Q X) : zM E yX6_areAllRowsDone cX6_areAllRowsDone 1 (some .boolean) ({ frames := 0, cells := 0, slots := 0, locals := 0 } : Room) [.ref a0] S (qI Q) X := by
  unfold p_X6_areAllRowsDone at h
  refine zM_of RX6 false (by decide) rfl (fun h => by cases h) (Nat.le_of_ble_eq_true rfl) ?_
  refine z_aload_n 0 dX6_areAllRowsDone_0 rfl rfl ?_
  obtain ⟨hf1, h⟩ := h
  refine z_getI (c := 7) (j := 1) (f := 701) hf1.1 hf1.2 (Nat.le_of_ble_eq_true rfl) rfl zU_X6 (Nat.le_of_ble_eq_true rfl) (Nat.le_of_ble_eq_true rfl) ⟨_, zw_976, Or.inl rfl⟩ rfl rfl dX6_areAllRowsDone_1 ?_
  refine z_aload_n 0 dX6_areAllRowsDone_4 rfl rfl ?_
  refine z_getQ (c := 7) (j := 0) (f := 700) hf1.1 hf1.2 (Nat.le_of_ble_eq_true rfl) rfl zU_X6 (Nat.le_of_ble_eq_true rfl) (Nat.le_of_ble_eq_true rfl) ⟨_, zw_974, Or.inl rfl⟩ rfl rfl dX6_areAllRowsDone_5 ?_
  obtain ⟨b2, hb3, h⟩ := h
  rw [show va_rf (gR S 700 a0) = Value.ref b2 from by rw [hb3]; rfl]
  obtain ⟨hf4, h⟩ := h
  refine z_getI (c := 9) (j := 2) (f := 902) hf4.1 hf4.2 (Nat.le_of_ble_eq_true rfl) rfl zU_X9 (Nat.le_of_ble_eq_true rfl) (Nat.le_of_ble_eq_true rfl) ⟨_, zw_123, Or.inl rfl⟩ rfl rfl dX6_areAllRowsDone_8 ?_
  refine z_icmp_lt 18 dX6_areAllRowsDone_11 (by decide) (fun c7 => ?_) (fun c7 => ?_)
  · have h := h.1 c7
    refine z_iconst (v := 0) dX6_areAllRowsDone_18 rfl ?_
    obtain ⟨hz5, h⟩ := h
    exact z_zreturn ⟨rfl, _, rfl, h⟩ rfl (zbn hz5) (Nat.le_of_ble_eq_true rfl) (Nat.le_of_ble_eq_true rfl) dX6_areAllRowsDone_19
  · have h := h.2 c7
    refine z_iconst (v := 1) dX6_areAllRowsDone_14 rfl ?_
    refine z_goto 19 dX6_areAllRowsDone_15 (by decide) ?_
    obtain ⟨hz6, h⟩ := h
    exact z_zreturn ⟨rfl, _, rfl, h⟩ rfl (zbn hz6) (Nat.le_of_ble_eq_true rfl) (Nat.le_of_ble_eq_true rfl) dX6_areAllRowsDone_19
set_option maxRecDepth 20000 in
set_option maxHeartbeats 4000000 in
theorem w_X6_isNextRowReady_L11 {E : zE} {K46 : zS → Prop} {K54 : zS → Prop} {Q : Int32 → zS → Prop} {X : String → zS → Prop} (hK46 : ∀  (S : zS), K46  S → zJ E (RX6, cX6_isNextRowReady, 2, (some .boolean), false, [], zTr) ({ frames := 1, cells := 0, slots := 0, locals := 21 } : Room) (zq (qI Q)) (zx X) 46 [] [] [] S 0 0) (hK54 : ∀  (S : zS), K54  S → zJ E (RX6, cX6_isNextRowReady, 2, (some .boolean), false, [], zTr) ({ frames := 1, cells := 0, slots := 0, locals := 21 } : Room) (zq (qI Q)) (zx X) 54 [] [] [] S 0 0) : ∀ (m11 : Nat) (a0 : Nat) (l1 : Int32) (S : zS), p_X6_isNextRowReady_L11 E K46 K54 Q X m11 a0 l1 S → zJ E (RX6, cX6_isNextRowReady, 2, (some .boolean), false, [], zTr) ({ frames := 1, cells := 0, slots := 0, locals := 21 } : Room) (zq (qI Q)) (zx X) 11 [(0, .ref a0), (1, .int l1)] [] [] S 0 0 := by
  intro m11
  induction m11 with
  | zero => intro a0 l1 S h; exact (show False from h).elim
  | succ m11 ih =>
    intro a0 l1 S h
    unfold p_X6_isNextRowReady_L11 at h
    refine z_iload_n 1 dX6_isNextRowReady_11 rfl rfl ?_
    refine z_aload_n 0 dX6_isNextRowReady_12 rfl rfl ?_
    obtain ⟨hf3, h⟩ := h
    refine z_getQ (c := 7) (j := 0) (f := 700) hf3.1 hf3.2 (Nat.le_of_ble_eq_true rfl) rfl zU_X6 (Nat.le_of_ble_eq_true rfl) (Nat.le_of_ble_eq_true rfl) ⟨_, zw_974, Or.inl rfl⟩ rfl rfl dX6_isNextRowReady_13 ?_
    obtain ⟨b4, hb5, h⟩ := h
    rw [show va_rf (gR S 700 a0) = Value.ref b4 from by rw [hb5]; rfl]
    obtain ⟨hf6, h⟩ := h
    refine z_getI (c := 9) (j := 1) (f := 901) hf6.1 hf6.2 (Nat.le_of_ble_eq_true rfl) rfl zU_X9 (Nat.le_of_ble_eq_true rfl) (Nat.le_of_ble_eq_true rfl) ⟨_, zw_121, Or.inl rfl⟩ rfl rfl dX6_isNextRowReady_16 ?_
    refine z_icmp_ge 54 dX6_isNextRowReady_19 (by decide) (fun c20 => ?_) (fun c20 => ?_)
    · have h := h.1 c20
      refine z_sub [] rfl ?_
      exact hK54 S h
    · have h := h.2 c20
      refine z_aload_n 0 dX6_isNextRowReady_22 rfl rfl ?_
      refine z_iload_n 1 dX6_isNextRowReady_23 rfl rfl ?_
      refine z_callVI (ci := 7) (st := []) (w_X6_isByPeople h) hf3.1 hf3.2 (Nat.le_of_ble_eq_true rfl) rfl zw_1011 zw_1008 zw_1010 zw_23 zw_56 zy_X6_isByPeople rfl rfl ⟨Nat.le_of_ble_eq_true rfl, Nat.le_of_ble_eq_true rfl⟩ ⟨(Nat.le_of_ble_eq_true rfl), (Nat.le_of_ble_eq_true rfl)⟩ (Nat.le_of_ble_eq_true rfl) dX6_isNextRowReady_24 (fun _ _ hx => hx.elim) (fun r8 S7 h => ?_)
      refine z_widen (k' := 0) (n' := 0) (Nat.le_refl _) (Nat.le_refl _) ?_
      refine z_if_eq 48 dX6_isNextRowReady_27 (by decide) (fun c19 => ?_) (fun c19 => ?_)
      · have h := h.1 c19
        refine z_iinc (v := (l1 + 1)) (lv' := [(1, .int (l1 + 1)), (0, .ref a0)]) 1 dX6_isNextRowReady_48 rfl rfl (Nat.le_of_ble_eq_true rfl) rfl ?_
        refine z_goto 11 dX6_isNextRowReady_51 (by decide) ?_
        refine z_sub [1, 0] rfl ?_
        exact ih a0 (l1 + 1) S7 h
      · have h := h.2 c19
        refine z_aload_n 0 dX6_isNextRowReady_30 rfl rfl ?_
        obtain ⟨hf9, h⟩ := h
        refine z_getQ (c := 7) (j := 3) (f := 703) hf9.1 hf9.2 (Nat.le_of_ble_eq_true rfl) rfl zU_X6 (Nat.le_of_ble_eq_true rfl) (Nat.le_of_ble_eq_true rfl) ⟨_, zw_980, Or.inl rfl⟩ rfl rfl dX6_isNextRowReady_31 ?_
        refine z_iload_n 1 dX6_isNextRowReady_34 rfl rfl ?_
        obtain ⟨b10, hb11, h⟩ := h
        rw [show va_rf (gR S7 703 a0) = Value.ref b10 from by rw [hb11]; rfl]
        obtain ⟨hf12, h⟩ := h
        obtain ⟨j13, hj14, h⟩ := h
        refine z_aald (j := j13) hf12.1 rfl hf12.2.1 hf12.2.2 hj14.1 hj14.2.1 hj14.2.2 dX6_isNextRowReady_35 ?_
        obtain ⟨b15, hb16, h⟩ := h
        rw [show va_rf (gQ S7 b10 j13) = Value.ref b15 from by rw [hb16]; rfl]
        obtain ⟨hf17, h⟩ := h
        refine z_getI (c := 2) (j := 4) (f := 204) hf17.1 hf17.2 (Nat.le_of_ble_eq_true rfl) rfl zU_X1 (Nat.le_of_ble_eq_true rfl) (Nat.le_of_ble_eq_true rfl) ⟨_, zw_190, Or.inl rfl⟩ rfl rfl dX6_isNextRowReady_36 ?_
        refine z_aload_n 0 dX6_isNextRowReady_39 rfl rfl ?_
        refine z_getI (c := 7) (j := 1) (f := 701) hf9.1 hf9.2 (Nat.le_of_ble_eq_true rfl) rfl zU_X6 (Nat.le_of_ble_eq_true rfl) (Nat.le_of_ble_eq_true rfl) ⟨_, zw_976, Or.inl rfl⟩ rfl rfl dX6_isNextRowReady_40 ?_
        refine z_icmp_gt 48 dX6_isNextRowReady_43 (by decide) (fun c18 => ?_) (fun c18 => ?_)
        · have h := h.1 c18
          refine z_iinc (v := (l1 + 1)) (lv' := [(1, .int (l1 + 1)), (0, .ref a0)]) 1 dX6_isNextRowReady_48 rfl rfl (Nat.le_of_ble_eq_true rfl) rfl ?_
          refine z_goto 11 dX6_isNextRowReady_51 (by decide) ?_
          refine z_sub [1, 0] rfl ?_
          exact ih a0 (l1 + 1) S7 h
        · have h := h.2 c18
          refine z_sub [] rfl ?_
          exact hK46 S7 h
set_option maxRecDepth 20000 in
set_option maxHeartbeats 4000000 in
theorem w_X6_isNextRowReady {E : zE} {a0 : Nat} {S : zS} {Q : Int32 → zS → Prop} {X : String → zS → Prop} (h : p_X6_isNextRowReady E a0 S Q X) : zM E yX6_isNextRowReady cX6_isNextRowReady 2 (some .boolean) ({ frames := 1, cells := 0, slots := 0, locals := 21 } : Room) [.ref a0] S (qI Q) X := by
  unfold p_X6_isNextRowReady at h
  refine zM_of RX6 false (by decide) rfl (fun h => by cases h) (Nat.le_of_ble_eq_true rfl) ?_
  refine z_aload_n 0 dX6_isNextRowReady_0 rfl rfl ?_
  obtain ⟨hf25, h⟩ := h
  refine z_callVI (ci := 7) (st := []) (w_X6_areAllRowsDone h) hf25.1 hf25.2 (Nat.le_of_ble_eq_true rfl) rfl zw_1007 zw_1004 zw_1005 zw_1006 zw_56 zy_X6_areAllRowsDone rfl rfl ⟨Nat.le_of_ble_eq_true rfl, Nat.le_of_ble_eq_true rfl⟩ ⟨(Nat.le_of_ble_eq_true rfl), (Nat.le_of_ble_eq_true rfl)⟩ (Nat.le_of_ble_eq_true rfl) dX6_isNextRowReady_1 (fun _ _ hx => hx.elim) (fun r2 S1 h => ?_)
  refine z_widen (k' := 0) (n' := 0) (Nat.le_refl _) (Nat.le_refl _) ?_
  refine z_if_eq 9 dX6_isNextRowReady_4 (by decide) (fun c24 => ?_) (fun c24 => ?_)
  · have h := h.1 c24
    refine z_iconst (v := 0) dX6_isNextRowReady_9 rfl ?_
    refine z_istore_n (lv' := [(1, .int 0), (0, .ref a0)]) dX6_isNextRowReady_10 rfl (Nat.le_of_ble_eq_true rfl) rfl ?_
    obtain ⟨m11, h⟩ := h
    refine z_sub [1, 0] rfl ?_
    refine w_X6_isNextRowReady_L11 (fun S h => ?_) (fun S h => ?_) m11 a0 0 S1 h
    · refine z_iconst (v := 0) dX6_isNextRowReady_46 rfl ?_
      obtain ⟨hz21, h⟩ := h
      exact z_zreturn ⟨rfl, _, rfl, h⟩ rfl (zbn hz21) (Nat.le_of_ble_eq_true rfl) (Nat.le_of_ble_eq_true rfl) dX6_isNextRowReady_47
    · refine z_iconst (v := 1) dX6_isNextRowReady_54 rfl ?_
      obtain ⟨hz22, h⟩ := h
      exact z_zreturn ⟨rfl, _, rfl, h⟩ rfl (zbn hz22) (Nat.le_of_ble_eq_true rfl) (Nat.le_of_ble_eq_true rfl) dX6_isNextRowReady_55
  · have h := h.2 c24
    refine z_iconst (v := 0) dX6_isNextRowReady_7 rfl ?_
    obtain ⟨hz23, h⟩ := h
    exact z_zreturn ⟨rfl, _, rfl, h⟩ rfl (zbn hz23) (Nat.le_of_ble_eq_true rfl) (Nat.le_of_ble_eq_true rfl) dX6_isNextRowReady_8
set_option maxRecDepth 20000 in
set_option maxHeartbeats 4000000 in
theorem w_X6_timeOfBlow {E : zE} {a0 : Nat} {l1 : Int32} {S : zS} {Q : Int32 → zS → Prop} {X : String → zS → Prop} (h : p_X6_timeOfBlow E a0 l1 S Q X) : zM E yX6_timeOfBlow cX6_timeOfBlow 3 (some .int) ({ frames := 1, cells := 0, slots := 0, locals := 22 } : Room) [.ref a0, .int l1] S (qI Q) X := by
  unfold p_X6_timeOfBlow at h
  refine zM_of RX6 false (by decide) rfl (fun h => by cases h) (Nat.le_of_ble_eq_true rfl) ?_
  refine z_aload_n 0 dX6_timeOfBlow_0 rfl rfl ?_
  obtain ⟨hf1, h⟩ := h
  refine z_getQ (c := 7) (j := 0) (f := 700) hf1.1 hf1.2 (Nat.le_of_ble_eq_true rfl) rfl zU_X6 (Nat.le_of_ble_eq_true rfl) (Nat.le_of_ble_eq_true rfl) ⟨_, zw_974, Or.inl rfl⟩ rfl rfl dX6_timeOfBlow_1 ?_
  obtain ⟨b2, hb3, h⟩ := h
  rw [show va_rf (gR S 700 a0) = Value.ref b2 from by rw [hb3]; rfl]
  obtain ⟨hf4, h⟩ := h
  refine z_getQ (c := 9) (j := 8) (f := 908) hf4.1 hf4.2 (Nat.le_of_ble_eq_true rfl) rfl zU_X9 (Nat.le_of_ble_eq_true rfl) (Nat.le_of_ble_eq_true rfl) ⟨_, zw_139, Or.inl rfl⟩ rfl rfl dX6_timeOfBlow_4 ?_
  refine z_aload_n 0 dX6_timeOfBlow_7 rfl rfl ?_
  refine z_getI (c := 7) (j := 1) (f := 701) hf1.1 hf1.2 (Nat.le_of_ble_eq_true rfl) rfl zU_X6 (Nat.le_of_ble_eq_true rfl) (Nat.le_of_ble_eq_true rfl) ⟨_, zw_976, Or.inl rfl⟩ rfl rfl dX6_timeOfBlow_8 ?_
  obtain ⟨b5, hb6, h⟩ := h
  rw [show va_rf (gR S 908 b2) = Value.ref b5 from by rw [hb6]; rfl]
  obtain ⟨hf7, h⟩ := h
  obtain ⟨j8, hj9, h⟩ := h
  refine z_iald (j := j8) hf7.1 hf7.2 hj9.1 hj9.2.1 hj9.2.2 dX6_timeOfBlow_11 ?_
  refine z_iload_n 1 dX6_timeOfBlow_12 rfl rfl ?_
  refine z_callSI (st := []) (w_X8_bellIn h) zw_456 zw_1020 zw_455 zw_48 zy_X8_bellIn rfl rfl ⟨Nat.le_of_ble_eq_true rfl, Nat.le_of_ble_eq_true rfl⟩ ⟨(Nat.le_of_ble_eq_true rfl), (Nat.le_of_ble_eq_true rfl)⟩ (Nat.le_of_ble_eq_true rfl) dX6_timeOfBlow_13 (fun _ _ hx => hx.elim) (fun r11 S10 h => ?_)
  refine z_widen (k' := 0) (n' := 0) (Nat.le_refl _) (Nat.le_refl _) ?_
  refine z_istore_n (lv' := [(2, .int r11), (0, .ref a0), (1, .int l1)]) dX6_timeOfBlow_16 rfl (Nat.le_of_ble_eq_true rfl) rfl ?_
  refine z_aload_n 1 dX6_timeOfBlow_17 rfl rfl ?_
  refine z_iload_n 0 dX6_timeOfBlow_18 rfl rfl ?_
  obtain ⟨hf40, h⟩ := h
  refine z_callVI (ci := 7) (st := []) (w_X6_isByPeople h) hf40.1 hf40.2 (Nat.le_of_ble_eq_true rfl) rfl zw_1011 zw_1008 zw_1010 zw_23 zw_56 zy_X6_isByPeople rfl rfl ⟨Nat.le_of_ble_eq_true rfl, Nat.le_of_ble_eq_true rfl⟩ ⟨(Nat.le_of_ble_eq_true rfl), (Nat.le_of_ble_eq_true rfl)⟩ (Nat.le_of_ble_eq_true rfl) dX6_timeOfBlow_19 (fun _ _ hx => hx.elim) (fun r13 S12 h => ?_)
  refine z_widen (k' := 0) (n' := 0) (Nat.le_refl _) (Nat.le_refl _) ?_
  refine z_if_eq 39 dX6_timeOfBlow_22 (by decide) (fun c39 => ?_) (fun c39 => ?_)
  · have h := h.1 c39
    refine z_aload_n 1 dX6_timeOfBlow_39 rfl rfl ?_
    obtain ⟨hf14, h⟩ := h
    refine z_getQ (c := 7) (j := 3) (f := 703) hf14.1 hf14.2 (Nat.le_of_ble_eq_true rfl) rfl zU_X6 (Nat.le_of_ble_eq_true rfl) (Nat.le_of_ble_eq_true rfl) ⟨_, zw_980, Or.inl rfl⟩ rfl rfl dX6_timeOfBlow_40 ?_
    refine z_iload_n 0 dX6_timeOfBlow_43 rfl rfl ?_
    obtain ⟨b15, hb16, h⟩ := h
    rw [show va_rf (gR S12 703 a0) = Value.ref b15 from by rw [hb16]; rfl]
    obtain ⟨hf17, h⟩ := h
    obtain ⟨j18, hj19, h⟩ := h
    refine z_aald (j := j18) hf17.1 rfl hf17.2.1 hf17.2.2 hj19.1 hj19.2.1 hj19.2.2 dX6_timeOfBlow_44 ?_
    refine z_aload_n 1 dX6_timeOfBlow_45 rfl rfl ?_
    refine z_getI (c := 7) (j := 1) (f := 701) hf14.1 hf14.2 (Nat.le_of_ble_eq_true rfl) rfl zU_X6 (Nat.le_of_ble_eq_true rfl) (Nat.le_of_ble_eq_true rfl) ⟨_, zw_976, Or.inl rfl⟩ rfl rfl dX6_timeOfBlow_46 ?_
    obtain ⟨b20, hb21, h⟩ := h
    rw [show va_rf (gQ S12 b15 j18) = Value.ref b20 from by rw [hb21]; rfl]
    obtain ⟨hf27, h⟩ := h
    refine z_callVV (ci := 2) (st := []) (w_X1_strike h) hf27.1 hf27.2 (Nat.le_of_ble_eq_true rfl) rfl zw_1028 zw_1025 zw_1026 zw_1027 zw_38 zy_X1_strike rfl rfl ⟨Nat.le_of_ble_eq_true rfl, Nat.le_of_ble_eq_true rfl⟩ ⟨(Nat.le_of_ble_eq_true rfl), (Nat.le_of_ble_eq_true rfl)⟩ (Nat.le_of_ble_eq_true rfl) dX6_timeOfBlow_49 (fun _ _ hx => hx.elim) (fun S22 h => ?_)
    refine z_widen (k' := 0) (n' := 0) (Nat.le_refl _) (Nat.le_refl _) ?_
    refine z_aload_n 1 dX6_timeOfBlow_52 rfl rfl ?_
    refine z_aload_n 1 dX6_timeOfBlow_53 rfl rfl ?_
    obtain ⟨hf24, h⟩ := h
    refine z_getI (c := 7) (j := 1) (f := 701) hf24.1 hf24.2 (Nat.le_of_ble_eq_true rfl) rfl zU_X6 (Nat.le_of_ble_eq_true rfl) (Nat.le_of_ble_eq_true rfl) ⟨_, zw_976, Or.inl rfl⟩ rfl rfl dX6_timeOfBlow_54 ?_
    refine z_iload_n 2 dX6_timeOfBlow_57 rfl rfl ?_
    refine z_callVI (ci := 7) (st := []) (w_X6_dueAt h) hf24.1 hf24.2 (Nat.le_of_ble_eq_true rfl) rfl zw_1032 zw_1029 zw_1031 zw_25 zw_56 zy_X6_dueAt rfl rfl ⟨Nat.le_of_ble_eq_true rfl, Nat.le_of_ble_eq_true rfl⟩ ⟨(Nat.le_of_ble_eq_true rfl), (Nat.le_of_ble_eq_true rfl)⟩ (Nat.le_of_ble_eq_true rfl) dX6_timeOfBlow_58 (fun _ _ hx => hx.elim) (fun r26 S25 h => ?_)
    refine z_widen (k' := 0) (n' := 0) (Nat.le_refl _) (Nat.le_refl _) ?_
    exact z_ireturn ⟨rfl, _, rfl, h⟩ rfl (Nat.le_of_ble_eq_true rfl) (Nat.le_of_ble_eq_true rfl) dX6_timeOfBlow_61
  · have h := h.2 c39
    refine z_aload_n 1 dX6_timeOfBlow_25 rfl rfl ?_
    obtain ⟨hf28, h⟩ := h
    refine z_getQ (c := 7) (j := 3) (f := 703) hf28.1 hf28.2 (Nat.le_of_ble_eq_true rfl) rfl zU_X6 (Nat.le_of_ble_eq_true rfl) (Nat.le_of_ble_eq_true rfl) ⟨_, zw_980, Or.inl rfl⟩ rfl rfl dX6_timeOfBlow_26 ?_
    refine z_iload_n 0 dX6_timeOfBlow_29 rfl rfl ?_
    obtain ⟨b29, hb30, h⟩ := h
    rw [show va_rf (gR S12 703 a0) = Value.ref b29 from by rw [hb30]; rfl]
    obtain ⟨hf31, h⟩ := h
    obtain ⟨j32, hj33, h⟩ := h
    refine z_aald (j := j32) hf31.1 rfl hf31.2.1 hf31.2.2 hj33.1 hj33.2.1 hj33.2.2 dX6_timeOfBlow_30 ?_
    refine z_aload_n 1 dX6_timeOfBlow_31 rfl rfl ?_
    refine z_getI (c := 7) (j := 1) (f := 701) hf28.1 hf28.2 (Nat.le_of_ble_eq_true rfl) rfl zU_X6 (Nat.le_of_ble_eq_true rfl) (Nat.le_of_ble_eq_true rfl) ⟨_, zw_976, Or.inl rfl⟩ rfl rfl dX6_timeOfBlow_32 ?_
    obtain ⟨b34, hb35, h⟩ := h
    rw [show va_rf (gQ S12 b29 j32) = Value.ref b34 from by rw [hb35]; rfl]
    obtain ⟨hf38, h⟩ := h
    refine z_callVI (ci := 2) (st := []) (w_X1_pullTime h) hf38.1 hf38.2 (Nat.le_of_ble_eq_true rfl) rfl zw_1024 zw_1021 zw_1022 zw_1023 zw_38 zy_X1_pullTime rfl rfl ⟨Nat.le_of_ble_eq_true rfl, Nat.le_of_ble_eq_true rfl⟩ ⟨(Nat.le_of_ble_eq_true rfl), (Nat.le_of_ble_eq_true rfl)⟩ (Nat.le_of_ble_eq_true rfl) dX6_timeOfBlow_35 (fun _ _ hx => hx.elim) (fun r37 S36 h => ?_)
    refine z_widen (k' := 0) (n' := 0) (Nat.le_refl _) (Nat.le_refl _) ?_
    exact z_ireturn ⟨rfl, _, rfl, h⟩ rfl (Nat.le_of_ble_eq_true rfl) (Nat.le_of_ble_eq_true rfl) dX6_timeOfBlow_38
set_option maxRecDepth 20000 in
set_option maxHeartbeats 4000000 in
theorem w_X6_doNextRow_L6 {E : zE} {K47 : Nat → Int32 → zS → Prop} {Q : Int32 → zS → Prop} {X : String → zS → Prop} (hK47 : ∀ (a0 : Nat) (l1 : Int32) (S : zS), K47 a0 l1 S → zJ E (RX6, cX6_doNextRow, 5, (some .boolean), false, [], zTr) ({ frames := 2, cells := 0, slots := 0, locals := 44 } : Room) (zq (qI Q)) (zx X) 47 [(0, .ref a0), (1, .int l1)] [] [] S 0 0) : ∀ (m6 : Nat) (a0 : Nat) (l1 : Int32) (l2 : Int32) (l3 : Int32) (S : zS), p_X6_doNextRow_L6 E K47 Q X m6 a0 l1 l2 l3 S → zJ E (RX6, cX6_doNextRow, 5, (some .boolean), false, [], zTr) ({ frames := 2, cells := 0, slots := 0, locals := 44 } : Room) (zq (qI Q)) (zx X) 6 [(0, .ref a0), (1, .int l1), (2, .int l2), (3, .int l3)] [] [] S 0 0 := by
  intro m6
  induction m6 with
  | zero => intro a0 l1 l2 l3 S h; exact (show False from h).elim
  | succ m6 ih =>
    intro a0 l1 l2 l3 S h
    unfold p_X6_doNextRow_L6 at h
    refine z_iload_n 3 dX6_doNextRow_6 rfl rfl ?_
    refine z_aload_n 0 dX6_doNextRow_7 rfl rfl ?_
    obtain ⟨hf1, h⟩ := h
    refine z_getQ (c := 7) (j := 0) (f := 700) hf1.1 hf1.2 (Nat.le_of_ble_eq_true rfl) rfl zU_X6 (Nat.le_of_ble_eq_true rfl) (Nat.le_of_ble_eq_true rfl) ⟨_, zw_974, Or.inl rfl⟩ rfl rfl dX6_doNextRow_8 ?_
    obtain ⟨b2, hb3, h⟩ := h
    rw [show va_rf (gR S 700 a0) = Value.ref b2 from by rw [hb3]; rfl]
    obtain ⟨hf4, h⟩ := h
    refine z_getI (c := 9) (j := 1) (f := 901) hf4.1 hf4.2 (Nat.le_of_ble_eq_true rfl) rfl zU_X9 (Nat.le_of_ble_eq_true rfl) (Nat.le_of_ble_eq_true rfl) ⟨_, zw_121, Or.inl rfl⟩ rfl rfl dX6_doNextRow_11 ?_
    refine z_icmp_ge 47 dX6_doNextRow_14 (by decide) (fun c8 => ?_) (fun c8 => ?_)
    · have h := h.1 c8
      refine z_sub [0, 1] rfl ?_
      exact hK47 a0 l1 S h
    · have h := h.2 c8
      refine z_aload_n 0 dX6_doNextRow_17 rfl rfl ?_
      refine z_iload_n 3 dX6_doNextRow_18 rfl rfl ?_
      refine z_callVI (ci := 7) (st := []) (w_X6_timeOfBlow h) hf1.1 hf1.2 (Nat.le_of_ble_eq_true rfl) rfl zw_1019 zw_1016 zw_1018 zw_24 zw_56 zy_X6_timeOfBlow rfl rfl ⟨Nat.le_of_ble_eq_true rfl, Nat.le_of_ble_eq_true rfl⟩ ⟨(Nat.le_of_ble_eq_true rfl), (Nat.le_of_ble_eq_true rfl)⟩ (Nat.le_of_ble_eq_true rfl) dX6_doNextRow_19 (fun _ _ hx => hx.elim) (fun r6 S5 h => ?_)
      refine z_widen (k' := 0) (n' := 0) (Nat.le_refl _) (Nat.le_refl _) ?_
      refine z_istore (lv' := [(4, .int r6), (0, .ref a0), (1, .int l1), (2, .int l2), (3, .int l3)]) dX6_doNextRow_22 (Nat.le_of_ble_eq_true rfl) rfl ?_
      refine z_iload_n 2 dX6_doNextRow_24 rfl rfl ?_
      refine z_iload 0 dX6_doNextRow_25 rfl ?_
      refine z_iload_n 3 dX6_doNextRow_27 rfl rfl ?_
      refine z_icmp_gt 35 dX6_doNextRow_28 (by decide) (fun c7 => ?_) (fun c7 => ?_)
      · have h := h.1 c7
        refine z_iconst (v := 0) dX6_doNextRow_35 rfl ?_
        refine z_ior dX6_doNextRow_36 ?_
        refine z_istore_n (lv' := [(1, .int (l1 ||| 0)), (4, .int r6), (0, .ref a0), (2, .int l2), (3, .int l3)]) dX6_doNextRow_37 rfl (Nat.le_of_ble_eq_true rfl) rfl ?_
        refine z_iload 1 dX6_doNextRow_38 rfl ?_
        refine z_istore_n (lv' := [(2, .int r6), (1, .int (l1 ||| 0)), (4, .int r6), (0, .ref a0), (3, .int l3)]) dX6_doNextRow_40 rfl (Nat.le_of_ble_eq_true rfl) rfl ?_
        refine z_iinc (v := (l3 + 1)) (lv' := [(3, .int (l3 + 1)), (2, .int r6), (1, .int (l1 ||| 0)), (4, .int r6), (0, .ref a0)]) 4 dX6_doNextRow_41 rfl rfl (Nat.le_of_ble_eq_true rfl) rfl ?_
        refine z_goto 6 dX6_doNextRow_44 (by decide) ?_
        refine z_sub [4, 2, 1, 0] rfl ?_
        exact ih a0 (l1 ||| 0) r6 (l3 + 1) S5 h
      · have h := h.2 c7
        refine z_iconst (v := 1) dX6_doNextRow_31 rfl ?_
        refine z_goto 36 dX6_doNextRow_32 (by decide) ?_
        refine z_ior dX6_doNextRow_36 ?_
        refine z_istore_n (lv' := [(1, .int (l1 ||| 1)), (4, .int r6), (0, .ref a0), (2, .int l2), (3, .int l3)]) dX6_doNextRow_37 rfl (Nat.le_of_ble_eq_true rfl) rfl ?_
        refine z_iload 1 dX6_doNextRow_38 rfl ?_
        refine z_istore_n (lv' := [(2, .int r6), (1, .int (l1 ||| 1)), (4, .int r6), (0, .ref a0), (3, .int l3)]) dX6_doNextRow_40 rfl (Nat.le_of_ble_eq_true rfl) rfl ?_
        refine z_iinc (v := (l3 + 1)) (lv' := [(3, .int (l3 + 1)), (2, .int r6), (1, .int (l1 ||| 1)), (4, .int r6), (0, .ref a0)]) 4 dX6_doNextRow_41 rfl rfl (Nat.le_of_ble_eq_true rfl) rfl ?_
        refine z_goto 6 dX6_doNextRow_44 (by decide) ?_
        refine z_sub [4, 2, 1, 0] rfl ?_
        exact ih a0 (l1 ||| 1) r6 (l3 + 1) S5 h
set_option maxRecDepth 20000 in
set_option maxHeartbeats 4000000 in
theorem w_X6_doNextRow {E : zE} {a0 : Nat} {S : zS} {Q : Int32 → zS → Prop} {X : String → zS → Prop} (h : p_X6_doNextRow E a0 S Q X) : zM E yX6_doNextRow cX6_doNextRow 5 (some .boolean) ({ frames := 2, cells := 0, slots := 0, locals := 44 } : Room) [.ref a0] S (qI Q) X := by
  unfold p_X6_doNextRow at h
  refine zM_of RX6 false (by decide) rfl (fun h => by cases h) (Nat.le_of_ble_eq_true rfl) ?_
  refine z_iconst (v := 0) dX6_doNextRow_0 rfl ?_
  refine z_istore_n (lv' := [(1, .int 0), (0, .ref a0)]) dX6_doNextRow_1 rfl (Nat.le_of_ble_eq_true rfl) rfl ?_
  refine z_iconst (v := (-1)) dX6_doNextRow_2 rfl ?_
  refine z_istore_n (lv' := [(2, .int (-1)), (1, .int 0), (0, .ref a0)]) dX6_doNextRow_3 rfl (Nat.le_of_ble_eq_true rfl) rfl ?_
  refine z_iconst (v := 0) dX6_doNextRow_4 rfl ?_
  refine z_istore_n (lv' := [(3, .int 0), (2, .int (-1)), (1, .int 0), (0, .ref a0)]) dX6_doNextRow_5 rfl (Nat.le_of_ble_eq_true rfl) rfl ?_
  obtain ⟨m6, h⟩ := h
  refine z_sub [3, 2, 1, 0] rfl ?_
  refine w_X6_doNextRow_L6 (fun a0 l1 S h => ?_) m6 a0 0 (-1) 0 S h
  refine z_aload_n 0 dX6_doNextRow_47 rfl rfl ?_
  refine z_dup dX6_doNextRow_48 rfl ?_
  obtain ⟨hf9, h⟩ := h
  refine z_getI (c := 7) (j := 1) (f := 701) hf9.1 hf9.2 (Nat.le_of_ble_eq_true rfl) rfl zU_X6 (Nat.le_of_ble_eq_true rfl) (Nat.le_of_ble_eq_true rfl) ⟨_, zw_976, Or.inl rfl⟩ rfl rfl dX6_doNextRow_49 ?_
  refine z_iconst (v := 1) dX6_doNextRow_52 rfl ?_
  refine z_iadd dX6_doNextRow_53 ?_
  have h := h _ rfl
  refine z_putV (c := 7) (j := 1) (ty0 := tyX6) (S' := sI S 701 a0 ((gI S 701 a0) + 1)) hf9.1 hf9.2 (Nat.le_of_ble_eq_true rfl) rfl zU_X6 tyX6_ok nmX6 (Nat.le_of_ble_eq_true rfl) (Nat.le_of_ble_eq_true rfl) ⟨_, zw_976, Or.inl rfl⟩ (.inl rfl) rfl rfl rfl (zUpI (v := ((gI S 701 a0) + 1)) hf9.2 (Nat.le_of_ble_eq_true rfl) (Nat.le_of_ble_eq_true rfl) rfl rfl) dX6_doNextRow_54 ?_
  obtain ⟨S10, hS11⟩ : ∃ z, z = sI S 701 a0 ((gI S 701 a0) + 1) := ⟨_, rfl⟩
  rw [← hS11] at h ⊢
  have hf9 : a0 ∈ gL S10 ∧ gK S10 a0 = 7 := by rw [hS11]; exact hf9
  refine z_iload_n 1 dX6_doNextRow_57 rfl rfl ?_
  obtain ⟨hz12, h⟩ := h
  exact z_zreturn ⟨rfl, _, rfl, h⟩ rfl (zbn hz12) (Nat.le_of_ble_eq_true rfl) (Nat.le_of_ble_eq_true rfl) dX6_doNextRow_58
set_option maxRecDepth 20000 in
set_option maxHeartbeats 4000000 in
theorem w_X8_count_L4 {E : zE} {K19 : Int32 → zS → Prop} {Q : Int32 → zS → Prop} {X : String → zS → Prop} (hK19 : ∀ (l1 : Int32) (S : zS), K19 l1 S → zJ E (RX8, cX8_count, 3, (some .int), false, [], zTr) ({ frames := 0, cells := 0, slots := 0, locals := 0 } : Room) (zq (qI Q)) (zx X) 19 [(1, .int l1)] [] [] S 0 0) : ∀ (m4 : Nat) (l0 : Int32) (l1 : Int32) (l2 : Int32) (S : zS), p_X8_count_L4 E K19 Q X m4 l0 l1 l2 S → zJ E (RX8, cX8_count, 3, (some .int), false, [], zTr) ({ frames := 0, cells := 0, slots := 0, locals := 0 } : Room) (zq (qI Q)) (zx X) 4 [(0, .int l0), (1, .int l1), (2, .int l2)] [] [] S 0 0 := by
  intro m4
  induction m4 with
  | zero => intro l0 l1 l2 S h; exact (show False from h).elim
  | succ m4 ih =>
    intro l0 l1 l2 S h
    unfold p_X8_count_L4 at h
    refine z_iload_n 2 dX8_count_4 rfl rfl ?_
    refine z_iload_n 0 dX8_count_5 rfl rfl ?_
    refine z_icmp_gt 19 dX8_count_6 (by decide) (fun c1 => ?_) (fun c1 => ?_)
    · have h := h.1 c1
      refine z_sub [1] rfl ?_
      exact hK19 l1 S h
    · have h := h.2 c1
      refine z_iload_n 1 dX8_count_9 rfl rfl ?_
      refine z_iload_n 2 dX8_count_10 rfl rfl ?_
      refine z_imul dX8_count_11 ?_
      refine z_istore_n (lv' := [(1, .int (l1 * l2)), (0, .int l0), (2, .int l2)]) dX8_count_12 rfl (Nat.le_of_ble_eq_true rfl) rfl ?_
      refine z_iinc (v := (l2 + 1)) (lv' := [(2, .int (l2 + 1)), (1, .int (l1 * l2)), (0, .int l0)]) 2 dX8_count_13 rfl rfl (Nat.le_of_ble_eq_true rfl) rfl ?_
      refine z_goto 4 dX8_count_16 (by decide) ?_
      refine z_sub [2, 1, 0] rfl ?_
      exact ih l0 (l1 * l2) (l2 + 1) S h
set_option maxRecDepth 20000 in
set_option maxHeartbeats 4000000 in
theorem w_X8_count {E : zE} {l0 : Int32} {S : zS} {Q : Int32 → zS → Prop} {X : String → zS → Prop} (h : p_X8_count E l0 S Q X) : zM E yX8_count cX8_count 3 (some .int) ({ frames := 0, cells := 0, slots := 0, locals := 0 } : Room) [.int l0] S (qI Q) X := by
  unfold p_X8_count at h
  refine zM_of RX8 false (by decide) rfl (fun h => by cases h) (Nat.le_of_ble_eq_true rfl) ?_
  refine z_iconst (v := 1) dX8_count_0 rfl ?_
  refine z_istore_n (lv' := [(1, .int 1), (0, .int l0)]) dX8_count_1 rfl (Nat.le_of_ble_eq_true rfl) rfl ?_
  refine z_iconst (v := 2) dX8_count_2 rfl ?_
  refine z_istore_n (lv' := [(2, .int 2), (1, .int 1), (0, .int l0)]) dX8_count_3 rfl (Nat.le_of_ble_eq_true rfl) rfl ?_
  obtain ⟨m4, h⟩ := h
  refine z_sub [2, 1, 0] rfl ?_
  refine w_X8_count_L4 (fun l1 S h => ?_) m4 l0 1 2 S h
  refine z_iload_n 0 dX8_count_19 rfl rfl ?_
  exact z_ireturn ⟨rfl, _, rfl, h⟩ rfl (Nat.le_of_ble_eq_true rfl) (Nat.le_of_ble_eq_true rfl) dX8_count_20
set_option maxRecDepth 20000 in
set_option maxHeartbeats 4000000 in
theorem w_X8_isChange_L22 {E : zE} {K49 : zS → Prop} {K57 : Int32 → zS → Prop} {Q : Int32 → zS → Prop} {X : String → zS → Prop} (hK49 : ∀  (S : zS), K49  S → zJ E (RX8, cX8_isChange, 5, (some .boolean), false, [], zTr) ({ frames := 1, cells := 0, slots := 0, locals := 21 } : Room) (zq (qI Q)) (zx X) 49 [] [] [] S 0 0) (hK57 : ∀ (l3 : Int32) (S : zS), K57 l3 S → zJ E (RX8, cX8_isChange, 5, (some .boolean), false, [], zTr) ({ frames := 1, cells := 0, slots := 0, locals := 21 } : Room) (zq (qI Q)) (zx X) 57 [(3, .int l3)] [] [] S 0 0) : ∀ (m22 : Nat) (l0 : Int32) (l1 : Int32) (l3 : Int32) (l4 : Int32) (S : zS), p_X8_isChange_L22 E K49 K57 Q X m22 l0 l1 l3 l4 S → zJ E (RX8, cX8_isChange, 5, (some .boolean), false, [], zTr) ({ frames := 1, cells := 0, slots := 0, locals := 21 } : Room) (zq (qI Q)) (zx X) 22 [(0, .int l0), (1, .int l1), (3, .int l3), (4, .int l4)] [] [] S 0 0 := by
  intro m22
  induction m22 with
  | zero => intro l0 l1 l3 l4 S h; exact (show False from h).elim
  | succ m22 ih =>
    intro l0 l1 l3 l4 S h
    unfold p_X8_isChange_L22 at h
    refine z_iload 3 dX8_isChange_22 rfl ?_
    refine z_iload_n 1 dX8_isChange_24 rfl rfl ?_
    refine z_icmp_ge 57 dX8_isChange_25 (by decide) (fun c6 => ?_) (fun c6 => ?_)
    · have h := h.1 c6
      refine z_sub [2] rfl ?_
      exact hK57 l3 S h
    · have h := h.2 c6
      refine z_iload_n 0 dX8_isChange_28 rfl rfl ?_
      refine z_iload 3 dX8_isChange_29 rfl ?_
      refine z_callSI (st := []) (w_X8_isMade h) zw_433 zw_431 zw_432 zw_48 zy_X8_isMade rfl rfl ⟨Nat.le_of_ble_eq_true rfl, Nat.le_of_ble_eq_true rfl⟩ ⟨(Nat.le_of_ble_eq_true rfl), (Nat.le_of_ble_eq_true rfl)⟩ (Nat.le_of_ble_eq_true rfl) dX8_isChange_31 (fun _ _ hx => hx.elim) (fun r3 S2 h => ?_)
      refine z_widen (k' := 0) (n' := 0) (Nat.le_refl _) (Nat.le_refl _) ?_
      refine z_if_ne 43 dX8_isChange_34 (by decide) (fun c5 => ?_) (fun c5 => ?_)
      · have h := h.1 c5
        refine z_iload_n 2 dX8_isChange_43 rfl rfl ?_
        refine z_iconst (v := 2) dX8_isChange_44 rfl ?_
        refine z_irem dX8_isChange_45 (by decide) ?_
        refine z_if_eq 51 dX8_isChange_46 (by decide) (fun c4 => ?_) (fun c4 => ?_)
        · have h := h.1 c4
          refine z_iinc (v := (l4 + 1)) (lv' := [(4, .int (l4 + 1)), (0, .int l0), (1, .int l1), (3, .int l3)]) 3 dX8_isChange_51 rfl rfl (Nat.le_of_ble_eq_true rfl) rfl ?_
          refine z_goto 22 dX8_isChange_54 (by decide) ?_
          refine z_sub [1, 2, 3, 0] rfl ?_
          exact ih l0 l1 l3 (l4 + 1) S2 h
        · have h := h.2 c4
          refine z_sub [] rfl ?_
          exact hK49 S2 h
      · have h := h.2 c5
        refine z_iinc (v := (l3 + 1)) (lv' := [(3, .int (l3 + 1)), (0, .int l0), (1, .int l1), (4, .int l4)]) 2 dX8_isChange_37 rfl rfl (Nat.le_of_ble_eq_true rfl) rfl ?_
        refine z_goto 51 dX8_isChange_40 (by decide) ?_
        refine z_iinc (v := (l4 + 1)) (lv' := [(4, .int (l4 + 1)), (3, .int (l3 + 1)), (0, .int l0), (1, .int l1)]) 3 dX8_isChange_51 rfl rfl (Nat.le_of_ble_eq_true rfl) rfl ?_
        refine z_goto 22 dX8_isChange_54 (by decide) ?_
        refine z_sub [2, 3, 1, 0] rfl ?_
        exact ih l0 l1 (l3 + 1) (l4 + 1) S2 h
set_option maxRecDepth 20000 in
set_option maxHeartbeats 4000000 in
theorem w_X8_isChange {E : zE} {l0 : Int32} {l1 : Int32} {S : zS} {Q : Int32 → zS → Prop} {X : String → zS → Prop} (h : p_X8_isChange E l0 l1 S Q X) : zM E yX8_isChange cX8_isChange 5 (some .boolean) ({ frames := 1, cells := 0, slots := 0, locals := 21 } : Room) [.int l0, .int l1] S (qI Q) X := by
  unfold p_X8_isChange at h
  refine zM_of RX8 false (by decide) rfl (fun h => by cases h) (Nat.le_of_ble_eq_true rfl) ?_
  refine z_iconst (v := 1) dX8_isChange_0 rfl ?_
  refine z_iload_n 1 dX8_isChange_1 rfl rfl ?_
  refine z_ishl dX8_isChange_2 ?_
  refine z_iconst (v := 1) dX8_isChange_3 rfl ?_
  refine z_isub dX8_isChange_4 ?_
  refine z_istore_n (lv' := [(2, .int ((1 <<< (l1 &&& 31)) - 1)), (0, .int l0), (1, .int l1)]) dX8_isChange_5 rfl (Nat.le_of_ble_eq_true rfl) rfl ?_
  refine z_iload_n 1 dX8_isChange_6 rfl rfl ?_
  refine z_if_lt 15 dX8_isChange_7 (by decide) (fun c13 => ?_) (fun c13 => ?_)
  · have h := h.1 c13
    refine z_iconst (v := 0) dX8_isChange_15 rfl ?_
    obtain ⟨hz1, h⟩ := h
    exact z_zreturn ⟨rfl, _, rfl, h⟩ rfl (zbn hz1) (Nat.le_of_ble_eq_true rfl) (Nat.le_of_ble_eq_true rfl) dX8_isChange_16
  · have h := h.2 c13
    refine z_iload_n 1 dX8_isChange_10 rfl rfl ?_
    refine z_iload_n 0 dX8_isChange_11 rfl rfl ?_
    refine z_icmp_lt 17 dX8_isChange_12 (by decide) (fun c12 => ?_) (fun c12 => ?_)
    · have h := h.1 c12
      refine z_iconst (v := 0) dX8_isChange_17 rfl ?_
      refine z_istore_n (lv' := [(3, .int 0), (2, .int ((1 <<< (l1 &&& 31)) - 1)), (0, .int l0), (1, .int l1)]) dX8_isChange_18 rfl (Nat.le_of_ble_eq_true rfl) rfl ?_
      refine z_iconst (v := 0) dX8_isChange_19 rfl ?_
      refine z_istore (lv' := [(4, .int 0), (3, .int 0), (2, .int ((1 <<< (l1 &&& 31)) - 1)), (0, .int l0), (1, .int l1)]) dX8_isChange_20 (Nat.le_of_ble_eq_true rfl) rfl ?_
      obtain ⟨m22, h⟩ := h
      refine z_sub [3, 4, 1, 0] rfl ?_
      refine w_X8_isChange_L22 (fun S h => ?_) (fun l3 S h => ?_) m22 l0 l1 0 0 S h
      · refine z_iconst (v := 0) dX8_isChange_49 rfl ?_
        obtain ⟨hz7, h⟩ := h
        exact z_zreturn ⟨rfl, _, rfl, h⟩ rfl (zbn hz7) (Nat.le_of_ble_eq_true rfl) (Nat.le_of_ble_eq_true rfl) dX8_isChange_50
      · refine z_iload_n 0 dX8_isChange_57 rfl rfl ?_
        refine z_iconst (v := 2) dX8_isChange_58 rfl ?_
        refine z_irem dX8_isChange_59 (by decide) ?_
        refine z_if_ne 67 dX8_isChange_60 (by decide) (fun c10 => ?_) (fun c10 => ?_)
        · have h := h.1 c10
          refine z_iconst (v := 0) dX8_isChange_67 rfl ?_
          obtain ⟨hz8, h⟩ := h
          exact z_zreturn ⟨rfl, _, rfl, h⟩ rfl (zbn hz8) (Nat.le_of_ble_eq_true rfl) (Nat.le_of_ble_eq_true rfl) dX8_isChange_68
        · have h := h.2 c10
          refine z_iconst (v := 1) dX8_isChange_63 rfl ?_
          refine z_goto 68 dX8_isChange_64 (by decide) ?_
          obtain ⟨hz9, h⟩ := h
          exact z_zreturn ⟨rfl, _, rfl, h⟩ rfl (zbn hz9) (Nat.le_of_ble_eq_true rfl) (Nat.le_of_ble_eq_true rfl) dX8_isChange_68
    · have h := h.2 c12
      refine z_iconst (v := 0) dX8_isChange_15 rfl ?_
      obtain ⟨hz11, h⟩ := h
      exact z_zreturn ⟨rfl, _, rfl, h⟩ rfl (zbn hz11) (Nat.le_of_ble_eq_true rfl) (Nat.le_of_ble_eq_true rfl) dX8_isChange_16
