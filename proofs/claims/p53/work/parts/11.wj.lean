set_option maxRecDepth 20000 in
set_option maxHeartbeats 4000000 in
theorem w_Jxa1e45_init_da8c8 {E : zE} {a0 : Nat} {S : zS} {Q : zS → Prop} {X : String → zS → Prop} (h : p_Jxa1e45_init_da8c8 E a0 S Q X) : zM E yJxa1e45_init_da8c8 cJxa1e45_init_da8c8 1 none ({ frames := 1, cells := 0, slots := 0, locals := 12 } : Room) [.ref a0] S (qV Q) X := by
  unfold p_Jxa1e45_init_da8c8 at h
  refine zM_of RJxa1e45 true (by decide) rfl (fun h => rfl) (Nat.le_of_ble_eq_true rfl) ?_
  refine z_aload_n 0 dJxa1e45_init_da8c8_0 rfl rfl ?_
  refine z_objInit zw_76 (Nat.le_of_ble_eq_true rfl) (Nat.le_of_ble_eq_true rfl) dJxa1e45_init_da8c8_1 ?_
  exact z_return ⟨rfl, rfl, h⟩ rfl (Nat.le_of_ble_eq_true rfl) (Nat.le_of_ble_eq_true rfl) dJxa1e45_init_da8c8_4
set_option maxRecDepth 20000 in
set_option maxHeartbeats 4000000 in
theorem w_Jxc12de_init_da8c8 {E : zE} {a0 : Nat} {S : zS} {Q : zS → Prop} {X : String → zS → Prop} (h : p_Jxc12de_init_da8c8 E a0 S Q X) : zM E yJxc12de_init_da8c8 cJxc12de_init_da8c8 1 none ({ frames := 2, cells := 0, slots := 0, locals := 32 } : Room) [.ref a0] S (qV Q) X := by
  unfold p_Jxc12de_init_da8c8 at h
  refine zM_of RJxc12de true (by decide) rfl (fun h => rfl) (Nat.le_of_ble_eq_true rfl) ?_
  refine z_aload_n 0 dJxc12de_init_da8c8_0 rfl rfl ?_
  refine z_callIV (st := []) (w_Jxa1e45_init_da8c8 h) zw_75 zw_73 zw_74 zw_31 rfl zy_Jxa1e45_init_da8c8 rfl rfl ⟨Nat.le_of_ble_eq_true rfl, Nat.le_of_ble_eq_true rfl⟩ ⟨(Nat.le_of_ble_eq_true rfl), (Nat.le_of_ble_eq_true rfl)⟩ (Nat.le_of_ble_eq_true rfl) dJxc12de_init_da8c8_1 (fun _ _ hx => hx.elim) (fun S1 h => ?_)
  refine z_widen (k' := 0) (n' := 0) (Nat.le_refl _) (Nat.le_refl _) ?_
  refine z_aload_n 0 dJxc12de_init_da8c8_4 rfl rfl ?_
  refine z_iconst (v := 0) dJxc12de_init_da8c8_5 rfl ?_
  obtain ⟨hf3, h⟩ := h
  have h := h _ rfl
  refine z_putV (c := 0) (j := 0) (ty0 := tyJx4a65c) (S' := sI S1 0 a0 0) hf3.1 hf3.2 (Nat.le_of_ble_eq_true rfl) rfl zU_Jx4a65c tyJx4a65c_ok nmJx4a65c (Nat.le_of_ble_eq_true rfl) (Nat.le_of_ble_eq_true rfl) ⟨_, zw_81, Or.inl rfl⟩ (.inl rfl) rfl rfl rfl (zUpI (v := 0) hf3.2 (Nat.le_of_ble_eq_true rfl) (Nat.le_of_ble_eq_true rfl) rfl rfl) dJxc12de_init_da8c8_6 ?_
  obtain ⟨S4, hS5⟩ : ∃ z, z = sI S1 0 a0 0 := ⟨_, rfl⟩
  rw [← hS5] at h ⊢
  have hf3 : a0 ∈ gL S4 ∧ gK S4 a0 = 0 := by rw [hS5]; exact hf3
  exact z_return ⟨rfl, rfl, h⟩ rfl (Nat.le_of_ble_eq_true rfl) (Nat.le_of_ble_eq_true rfl) dJxc12de_init_da8c8_9
set_option maxRecDepth 20000 in
set_option maxHeartbeats 4000000 in
theorem w_Jx4a65c_init_da8c8 {E : zE} {a0 : Nat} {S : zS} {Q : zS → Prop} {X : String → zS → Prop} (h : p_Jx4a65c_init_da8c8 E a0 S Q X) : zM E yJx4a65c_init_da8c8 cJx4a65c_init_da8c8 1 none ({ frames := 3, cells := 0, slots := 0, locals := 52 } : Room) [.ref a0] S (qV Q) X := by
  unfold p_Jx4a65c_init_da8c8 at h
  refine zM_of RJx4a65c true (by decide) rfl (fun h => rfl) (Nat.le_of_ble_eq_true rfl) ?_
  refine z_aload_n 0 dJx4a65c_init_da8c8_0 rfl rfl ?_
  refine z_callIV (st := []) (w_Jxc12de_init_da8c8 h) zw_72 zw_70 zw_71 zw_32 rfl zy_Jxc12de_init_da8c8 rfl rfl ⟨Nat.le_of_ble_eq_true rfl, Nat.le_of_ble_eq_true rfl⟩ ⟨(Nat.le_of_ble_eq_true rfl), (Nat.le_of_ble_eq_true rfl)⟩ (Nat.le_of_ble_eq_true rfl) dJx4a65c_init_da8c8_1 (fun _ _ hx => hx.elim) (fun S1 h => ?_)
  refine z_widen (k' := 0) (n' := 0) (Nat.le_refl _) (Nat.le_refl _) ?_
  refine z_aload_n 0 dJx4a65c_init_da8c8_4 rfl rfl ?_
  refine z_gets0 zw_77 dJx4a65c_init_da8c8_5 ?_
  obtain ⟨hf3, h⟩ := h
  have h := h _ rfl
  refine z_putV (c := 0) (j := 1) (ty0 := tyJx4a65c) (S' := sR S1 1 a0 (some E.2.2.2.2.1)) hf3.1 hf3.2 (Nat.le_of_ble_eq_true rfl) rfl zU_Jx4a65c tyJx4a65c_ok nmJx4a65c (Nat.le_of_ble_eq_true rfl) (Nat.le_of_ble_eq_true rfl) ⟨_, zw_79, Or.inl rfl⟩ (.inl rfl) (zrefn (ty := tyJx4a65c 1) (o := (some E.2.2.2.2.1)) (by decide)) (zreff (ty := tyJx4a65c 1) (o := (some E.2.2.2.2.1)) (by decide)) rfl (zUpR (v := (some E.2.2.2.2.1)) hf3.2 (Nat.le_of_ble_eq_true rfl) (Nat.le_of_ble_eq_true rfl) rfl rfl) dJx4a65c_init_da8c8_8 ?_
  obtain ⟨S4, hS5⟩ : ∃ z, z = sR S1 1 a0 (some E.2.2.2.2.1) := ⟨_, rfl⟩
  rw [← hS5] at h ⊢
  have hf3 : a0 ∈ gL S4 ∧ gK S4 a0 = 0 := by rw [hS5]; exact hf3
  exact z_return ⟨rfl, rfl, h⟩ rfl (Nat.le_of_ble_eq_true rfl) (Nat.le_of_ble_eq_true rfl) dJx4a65c_init_da8c8_11
set_option maxRecDepth 20000 in
set_option maxHeartbeats 4000000 in
theorem w_Jx4a65c_clear_da8c8_L27 {E : zE} {K42 : zS → Prop} {Q : zS → Prop} {X : String → zS → Prop} (hK42 : ∀  (S : zS), K42  S → zJ E (RJx4a65c, cJx4a65c_clear_da8c8, 4, none, false, [], zTr) ({ frames := 0, cells := 0, slots := 0, locals := 0 } : Room) (zq (qV Q)) (zx X) 42 [] [] [] S 0 0) : ∀ (m27 : Nat) (o1 : Option Nat) (l2 : Int32) (l3 : Int32) (S : zS), p_Jx4a65c_clear_da8c8_L27 E K42 Q X m27 o1 l2 l3 S → zJ E (RJx4a65c, cJx4a65c_clear_da8c8, 4, none, false, [], zTr) ({ frames := 0, cells := 0, slots := 0, locals := 0 } : Room) (zq (qV Q)) (zx X) 27 [(1, va_rf o1), (2, .int l2), (3, .int l3)] [] [] S 0 0 := by
  intro m27
  induction m27 with
  | zero => intro o1 l2 l3 S h; exact (show False from h).elim
  | succ m27 ih =>
    intro o1 l2 l3 S h
    unfold p_Jx4a65c_clear_da8c8_L27 at h
    refine z_iload_n 2 dJx4a65c_clear_da8c8_27 rfl rfl ?_
    refine z_iload_n 1 dJx4a65c_clear_da8c8_28 rfl rfl ?_
    refine z_icmp_ge 42 dJx4a65c_clear_da8c8_29 (by decide) (fun c14 => ?_) (fun c14 => ?_)
    · have h := h.1 c14
      refine z_sub [] rfl ?_
      exact hK42 S h
    · have h := h.2 c14
      refine z_aload_nQ 0 dJx4a65c_clear_da8c8_32 rfl rfl ?_
      refine z_iload_n 2 dJx4a65c_clear_da8c8_33 rfl rfl ?_
      refine z_null dJx4a65c_clear_da8c8_34 ?_
      obtain ⟨b6, hb7, h⟩ := h
      rw [show va_rf o1 = Value.ref b6 from by rw [hb7]; rfl]
      obtain ⟨hf8, h⟩ := h
      obtain ⟨j9, hj10, h⟩ := h
      have h := h _ rfl
      refine z_aastN (j := j9) hf8.1 hf8.2 hj10.1 hj10.2.1 hj10.2.2 dJx4a65c_clear_da8c8_35 ?_
      obtain ⟨S11, hS12⟩ : ∃ z, z = sQ S b6 j9 none := ⟨_, rfl⟩
      rw [← hS12] at h ⊢
      have hf8 : b6 ∈ gL S11 ∧ gK S11 b6 = 16 := by rw [hS12]; exact hf8
      refine z_iinc (v := (l3 + 1)) (lv' := [(3, .int (l3 + 1)), (1, .ref b6), (2, .int l2)]) 2 dJx4a65c_clear_da8c8_36 rfl rfl (Nat.le_of_ble_eq_true rfl) rfl ?_
      refine z_goto 27 dJx4a65c_clear_da8c8_39 (by decide) ?_
      refine z_sub [1, 2, 0] rfl ?_
      exact ih (some b6) l2 (l3 + 1) S11 h
set_option maxRecDepth 20000 in
set_option maxHeartbeats 4000000 in
theorem w_Jx4a65c_clear_da8c8 {E : zE} {a0 : Nat} {S : zS} {Q : zS → Prop} {X : String → zS → Prop} (h : p_Jx4a65c_clear_da8c8 E a0 S Q X) : zM E yJx4a65c_clear_da8c8 cJx4a65c_clear_da8c8 4 none ({ frames := 0, cells := 0, slots := 0, locals := 0 } : Room) [.ref a0] S (qV Q) X := by
  unfold p_Jx4a65c_clear_da8c8 at h
  refine zM_of RJx4a65c false (by decide) rfl (fun h => by cases h) (Nat.le_of_ble_eq_true rfl) ?_
  refine z_aload_n 0 dJx4a65c_clear_da8c8_0 rfl rfl ?_
  refine z_dup dJx4a65c_clear_da8c8_1 rfl ?_
  obtain ⟨hf1, h⟩ := h
  refine z_getI (c := 0) (j := 0) (f := 0) hf1.1 hf1.2 (Nat.le_of_ble_eq_true rfl) rfl zU_Jx4a65c (Nat.le_of_ble_eq_true rfl) (Nat.le_of_ble_eq_true rfl) ⟨_, zw_82, Or.inr zw_83⟩ rfl rfl dJx4a65c_clear_da8c8_2 ?_
  refine z_iconst (v := 1) dJx4a65c_clear_da8c8_5 rfl ?_
  refine z_iadd dJx4a65c_clear_da8c8_6 ?_
  have h := h _ rfl
  refine z_putV (c := 0) (j := 0) (ty0 := tyJx4a65c) (S' := sI S 0 a0 ((gI S 0 a0) + 1)) hf1.1 hf1.2 (Nat.le_of_ble_eq_true rfl) rfl zU_Jx4a65c tyJx4a65c_ok nmJx4a65c (Nat.le_of_ble_eq_true rfl) (Nat.le_of_ble_eq_true rfl) ⟨_, zw_82, Or.inr zw_83⟩ (.inl rfl) rfl rfl rfl (zUpI (v := ((gI S 0 a0) + 1)) hf1.2 (Nat.le_of_ble_eq_true rfl) (Nat.le_of_ble_eq_true rfl) rfl rfl) dJx4a65c_clear_da8c8_7 ?_
  obtain ⟨S2, hS3⟩ : ∃ z, z = sI S 0 a0 ((gI S 0 a0) + 1) := ⟨_, rfl⟩
  rw [← hS3] at h ⊢
  have hf1 : a0 ∈ gL S2 ∧ gK S2 a0 = 0 := by rw [hS3]; exact hf1
  refine z_aload_n 0 dJx4a65c_clear_da8c8_10 rfl rfl ?_
  refine z_getQ (c := 0) (j := 1) (f := 1) hf1.1 hf1.2 (Nat.le_of_ble_eq_true rfl) rfl zU_Jx4a65c (Nat.le_of_ble_eq_true rfl) (Nat.le_of_ble_eq_true rfl) ⟨_, zw_79, Or.inl rfl⟩ rfl rfl dJx4a65c_clear_da8c8_11 ?_
  refine z_astore_nQ (lv' := [(1, va_rf (gR S2 1 a0)), (0, .ref a0)]) dJx4a65c_clear_da8c8_14 rfl (Nat.le_of_ble_eq_true rfl) rfl ?_
  refine z_aload_n 1 dJx4a65c_clear_da8c8_15 rfl rfl ?_
  refine z_getI (c := 0) (j := 2) (f := 2) hf1.1 hf1.2 (Nat.le_of_ble_eq_true rfl) rfl zU_Jx4a65c (Nat.le_of_ble_eq_true rfl) (Nat.le_of_ble_eq_true rfl) ⟨_, zw_80, Or.inl rfl⟩ rfl rfl dJx4a65c_clear_da8c8_16 ?_
  refine z_istore_n (lv' := [(2, .int (gI S2 2 a0)), (1, va_rf (gR S2 1 a0)), (0, .ref a0)]) dJx4a65c_clear_da8c8_19 rfl (Nat.le_of_ble_eq_true rfl) (by generalize (gR S2 1 a0) = z9; cases z9 <;> rfl) ?_
  refine z_aload_n 2 dJx4a65c_clear_da8c8_20 rfl rfl ?_
  refine z_iconst (v := 0) dJx4a65c_clear_da8c8_21 rfl ?_
  refine z_dup_x1 dJx4a65c_clear_da8c8_22 rfl rfl ?_
  have h := h _ rfl
  refine z_putV (c := 0) (j := 2) (ty0 := tyJx4a65c) (S' := sI S2 2 a0 0) hf1.1 hf1.2 (Nat.le_of_ble_eq_true rfl) rfl zU_Jx4a65c tyJx4a65c_ok nmJx4a65c (Nat.le_of_ble_eq_true rfl) (Nat.le_of_ble_eq_true rfl) ⟨_, zw_80, Or.inl rfl⟩ (.inl rfl) rfl rfl rfl (zUpI (v := 0) hf1.2 (Nat.le_of_ble_eq_true rfl) (Nat.le_of_ble_eq_true rfl) rfl rfl) dJx4a65c_clear_da8c8_23 ?_
  obtain ⟨S4, hS5⟩ : ∃ z, z = sI S2 2 a0 0 := ⟨_, rfl⟩
  rw [← hS5] at h ⊢
  have hf1 : a0 ∈ gL S4 ∧ gK S4 a0 = 0 := by rw [hS5]; exact hf1
  refine z_istore_n (lv' := [(3, .int 0), (2, .int (gI S2 2 a0)), (1, va_rf (gR S2 1 a0)), (0, .ref a0)]) dJx4a65c_clear_da8c8_26 rfl (Nat.le_of_ble_eq_true rfl) rfl ?_
  obtain ⟨m27, h⟩ := h
  refine z_sub [2, 1, 0] rfl ?_
  refine w_Jx4a65c_clear_da8c8_L27 (fun S h => ?_) m27 (gR S2 1 a0) (gI S2 2 a0) 0 S4 h
  exact z_return ⟨rfl, rfl, h⟩ rfl (Nat.le_of_ble_eq_true rfl) (Nat.le_of_ble_eq_true rfl) dJx4a65c_clear_da8c8_42
set_option maxRecDepth 20000 in
set_option maxHeartbeats 4000000 in
theorem w_Jx4a65c_size_8abf5 {E : zE} {a0 : Nat} {S : zS} {Q : Int32 → zS → Prop} {X : String → zS → Prop} (h : p_Jx4a65c_size_8abf5 E a0 S Q X) : zM E yJx4a65c_size_8abf5 cJx4a65c_size_8abf5 1 (some .int) ({ frames := 0, cells := 0, slots := 0, locals := 0 } : Room) [.ref a0] S (qI Q) X := by
  unfold p_Jx4a65c_size_8abf5 at h
  refine zM_of RJx4a65c false (by decide) rfl (fun h => by cases h) (Nat.le_of_ble_eq_true rfl) ?_
  refine z_aload_n 0 dJx4a65c_size_8abf5_0 rfl rfl ?_
  obtain ⟨hf1, h⟩ := h
  refine z_getI (c := 0) (j := 2) (f := 2) hf1.1 hf1.2 (Nat.le_of_ble_eq_true rfl) rfl zU_Jx4a65c (Nat.le_of_ble_eq_true rfl) (Nat.le_of_ble_eq_true rfl) ⟨_, zw_80, Or.inl rfl⟩ rfl rfl dJx4a65c_size_8abf5_1 ?_
  exact z_ireturn ⟨rfl, _, rfl, h⟩ rfl (Nat.le_of_ble_eq_true rfl) (Nat.le_of_ble_eq_true rfl) dJx4a65c_size_8abf5_4
set_option maxRecDepth 20000 in
set_option maxHeartbeats 4000000 in
theorem w_J8_newLength_cabcc {E : zE} {l0 : Int32} {l1 : Int32} {l2 : Int32} {S : zS} {Q : Int32 → zS → Prop} {X : String → zS → Prop} (h : p_J8_newLength_cabcc E l0 l1 l2 S Q X) : zM E yJ8_newLength_cabcc cJ8_newLength_cabcc 4 (some .int) ({ frames := 1, cells := 0, slots := 0, locals := 14 } : Room) [.int l0, .int l1, .int l2] S (qI Q) X := by
  unfold p_J8_newLength_cabcc at h
  refine zM_of RJ8 false (by decide) rfl (fun h => by cases h) (Nat.le_of_ble_eq_true rfl) ?_
  refine z_iload_n 0 dJ8_newLength_cabcc_0 rfl rfl ?_
  refine z_iload_n 1 dJ8_newLength_cabcc_1 rfl rfl ?_
  refine z_iload_n 2 dJ8_newLength_cabcc_2 rfl rfl ?_
  refine z_mmax zw_524 zw_525 zw_50 zw_526 (Nat.le_of_ble_eq_true rfl) (Nat.le_of_ble_eq_true rfl) (Nat.le_of_ble_eq_true rfl) (Nat.le_of_ble_eq_true rfl) dJ8_newLength_cabcc_3 ?_
  refine z_iadd dJ8_newLength_cabcc_6 ?_
  refine z_istore_n (lv' := [(3, .int (l0 + (if l1 < l2 then l2 else l1))), (0, .int l0), (1, .int l1), (2, .int l2)]) dJ8_newLength_cabcc_7 rfl (Nat.le_of_ble_eq_true rfl) rfl ?_
  refine z_iconst (v := 0) dJ8_newLength_cabcc_8 rfl ?_
  refine z_iload_n 0 dJ8_newLength_cabcc_9 rfl rfl ?_
  refine z_icmp_ge 21 dJ8_newLength_cabcc_10 (by decide) (fun c2 => ?_) (fun c2 => ?_)
  · have h := h.1 c2
    refine z_iload_n 1 dJ8_newLength_cabcc_21 rfl rfl ?_
    refine z_iload_n 2 dJ8_newLength_cabcc_22 rfl rfl ?_
    exact h.elim
  · have h := h.2 c2
    refine z_iload_n 0 dJ8_newLength_cabcc_13 rfl rfl ?_
    refine z_ldc zw_527 dJ8_newLength_cabcc_14 ?_
    refine z_icmp_gt 21 dJ8_newLength_cabcc_16 (by decide) (fun c1 => ?_) (fun c1 => ?_)
    · have h := h.1 c1
      refine z_iload_n 1 dJ8_newLength_cabcc_21 rfl rfl ?_
      refine z_iload_n 2 dJ8_newLength_cabcc_22 rfl rfl ?_
      exact h.elim
    · have h := h.2 c1
      refine z_iload_n 0 dJ8_newLength_cabcc_19 rfl rfl ?_
      exact z_ireturn ⟨rfl, _, rfl, h⟩ rfl (Nat.le_of_ble_eq_true rfl) (Nat.le_of_ble_eq_true rfl) dJ8_newLength_cabcc_20
set_option maxRecDepth 20000 in
set_option maxHeartbeats 4000000 in
theorem w_J7_copyOf_6403c {E : zE} {a0 : Nat} {l1 : Int32} {a2 : Nat} {S : zS} {Q : Option Nat → zS → Prop} {X : String → zS → Prop} (h : p_J7_copyOf_6403c E a0 l1 a2 S Q X) : zM E yJ7_copyOf_6403c cJ7_copyOf_6403c 4 (some (.array (.object "java/lang/Object"))) ({ frames := 1, cells := 1, slots := 22, locals := 40 } : Room) [.ref a0, .int l1, .ref a2] S (qR Q) X := by
  unfold p_J7_copyOf_6403c at h
  refine zM_of RJ7 false (by decide) rfl (fun h => by cases h) (Nat.le_of_ble_eq_true rfl) ?_
  refine z_aload_n 2 dJ7_copyOf_6403c_0 rfl rfl ?_
  refine z_ldcM zw_555 dJ7_copyOf_6403c_1 ?_
  refine z_acmp_ne (rx := (some a2)) (ry := (some (E.2.2.2.2.2 0))) 13 dJ7_copyOf_6403c_3 (by decide) (fun c27 => ?_) (fun c27 => ?_)
  · have h := h.1 c27
    refine z_aload_n 2 dJ7_copyOf_6403c_13 rfl rfl ?_
    exact h.elim
  · have h := h.2 c27
    refine z_iload_n 1 dJ7_copyOf_6403c_6 rfl rfl ?_
    obtain ⟨j5, hj6, h⟩ := h
    refine z_newq (c := 16) (N := j5) (by decide) zw_557 hj6.1 (Nat.lt_of_le_of_lt hj6.2 (Nat.le_of_ble_eq_true rfl)) (Nat.le_of_ble_eq_true rfl) (Nat.le_trans (Nat.add_le_add_left hj6.2 _) (Nat.le_of_ble_eq_true rfl)) dJ7_copyOf_6403c_7 (fun q1 hq2 => ?_)
    have h := h q1 hq2 _ rfl
    obtain ⟨S3, hS4⟩ : ∃ z, z = nA S q1 16 j5 := ⟨_, rfl⟩
    rw [← hS4] at h ⊢
    refine z_widen (k' := 1) (n' := 22) (Nat.le_refl _) (Nat.add_le_add_left hj6.2 _) ?_
    refine z_goto 24 dJ7_copyOf_6403c_10 (by decide) ?_
    refine z_astore_n (lv' := [(3, .ref q1), (0, .ref a0), (1, .int l1), (2, .ref a2)]) dJ7_copyOf_6403c_24 rfl (Nat.le_of_ble_eq_true rfl) rfl ?_
    refine z_aload_n 1 dJ7_copyOf_6403c_25 rfl rfl ?_
    refine z_iconst (v := 0) dJ7_copyOf_6403c_26 rfl ?_
    refine z_aload_n 0 dJ7_copyOf_6403c_27 rfl rfl ?_
    refine z_iconst (v := 0) dJ7_copyOf_6403c_28 rfl ?_
    refine z_aload_n 1 dJ7_copyOf_6403c_29 rfl rfl ?_
    rcases h with ⟨he26, h⟩ | h
    · refine z_len0E he26 rfl dJ7_copyOf_6403c_30 ?_
      refine z_iload_n 2 dJ7_copyOf_6403c_31 rfl rfl ?_
      refine z_mmin zw_558 zw_559 zw_50 zw_560 (Nat.le_of_ble_eq_true rfl) (Nat.le_of_ble_eq_true rfl) (Nat.le_of_ble_eq_true rfl) (Nat.le_of_ble_eq_true rfl) dJ7_copyOf_6403c_32 ?_
      obtain ⟨hf24, h⟩ := h
      obtain ⟨hf25, h⟩ := h
      obtain ⟨sp17, dp18, n19, ci20, hc21, h⟩ := h
      have h := h _ rfl
      refine z_acopy (ci := ci20) hf24.1 hf24.2 hf25.1 hf25.2 hc21.1 hc21.2.1 hc21.2.2.1 hc21.2.2.2.1 hc21.2.2.2.2.1 hc21.2.2.2.2.2.1 hc21.2.2.2.2.2.2.1 hc21.2.2.2.2.2.2.2.1 hc21.2.2.2.2.2.2.2.2 zw_561 zw_563 zw_562 zw_55 (Nat.le_of_ble_eq_true rfl) (Nat.le_of_ble_eq_true rfl) dJ7_copyOf_6403c_35 ?_
      obtain ⟨S22, hS23⟩ : ∃ z, z = sC S3 q1 (va_cpy (gQ S3 a0) (gQ S3 q1) sp17 dp18 n19) := ⟨_, rfl⟩
      rw [← hS23] at h ⊢
      have hf24 : a0 ∈ gL S22 ∧ gK S22 a0 = 16 := by rw [hS23]; exact hf24
      have hf25 : q1 ∈ gL S22 ∧ gK S22 q1 = 16 := by rw [hS23]; exact hf25
      refine z_aload_n 0 dJ7_copyOf_6403c_38 rfl rfl ?_
      exact z_areturn (v := va_rf (some q1)) ⟨rfl, _, rfl, h⟩ rfl (.inr ⟨_, rfl⟩) (va_rf_or _) (Nat.le_of_ble_eq_true rfl) (Nat.le_of_ble_eq_true rfl) dJ7_copyOf_6403c_39
    · obtain ⟨hl7, h⟩ := h
      refine z_alen hl7.1 rfl hl7.2.1 hl7.2.2 rfl dJ7_copyOf_6403c_30 ?_
      refine z_iload_n 2 dJ7_copyOf_6403c_31 rfl rfl ?_
      refine z_mmin zw_558 zw_559 zw_50 zw_560 (Nat.le_of_ble_eq_true rfl) (Nat.le_of_ble_eq_true rfl) (Nat.le_of_ble_eq_true rfl) (Nat.le_of_ble_eq_true rfl) dJ7_copyOf_6403c_32 ?_
      obtain ⟨hf15, h⟩ := h
      obtain ⟨hf16, h⟩ := h
      obtain ⟨sp8, dp9, n10, ci11, hc12, h⟩ := h
      have h := h _ rfl
      refine z_acopy (ci := ci11) hf15.1 hf15.2 hf16.1 hf16.2 hc12.1 hc12.2.1 hc12.2.2.1 hc12.2.2.2.1 hc12.2.2.2.2.1 hc12.2.2.2.2.2.1 hc12.2.2.2.2.2.2.1 hc12.2.2.2.2.2.2.2.1 hc12.2.2.2.2.2.2.2.2 zw_561 zw_563 zw_562 zw_55 (Nat.le_of_ble_eq_true rfl) (Nat.le_of_ble_eq_true rfl) dJ7_copyOf_6403c_35 ?_
      obtain ⟨S13, hS14⟩ : ∃ z, z = sC S3 q1 (va_cpy (gQ S3 a0) (gQ S3 q1) sp8 dp9 n10) := ⟨_, rfl⟩
      rw [← hS14] at h ⊢
      have hf15 : a0 ∈ gL S13 ∧ gK S13 a0 = 16 := by rw [hS14]; exact hf15
      have hf16 : q1 ∈ gL S13 ∧ gK S13 q1 = 16 := by rw [hS14]; exact hf16
      refine z_aload_n 0 dJ7_copyOf_6403c_38 rfl rfl ?_
      exact z_areturn (v := va_rf (some q1)) ⟨rfl, _, rfl, h⟩ rfl (.inr ⟨_, rfl⟩) (va_rf_or _) (Nat.le_of_ble_eq_true rfl) (Nat.le_of_ble_eq_true rfl) dJ7_copyOf_6403c_39
set_option maxRecDepth 20000 in
set_option maxHeartbeats 4000000 in
theorem w_J7_copyOf_1904c {E : zE} {a0 : Nat} {l1 : Int32} {S : zS} {Q : Option Nat → zS → Prop} {X : String → zS → Prop} (h : p_J7_copyOf_1904c E a0 l1 S Q X) : zM E yJ7_copyOf_1904c cJ7_copyOf_1904c 2 (some (.array (.object "java/lang/Object"))) ({ frames := 2, cells := 1, slots := 22, locals := 63 } : Room) [.ref a0, .int l1] S (qR Q) X := by
  unfold p_J7_copyOf_1904c at h
  refine zM_of RJ7 false (by decide) rfl (fun h => by cases h) (Nat.le_of_ble_eq_true rfl) ?_
  refine z_aload_n 0 dJ7_copyOf_1904c_0 rfl rfl ?_
  refine z_iload_n 1 dJ7_copyOf_1904c_1 rfl rfl ?_
  refine z_aload_n 0 dJ7_copyOf_1904c_2 rfl rfl ?_
  obtain ⟨hf1, h⟩ := h
  refine z_getC hf1.1 hf1.2 zw_534 zw_1381 zw_535 zw_551 (Nat.le_of_ble_eq_true rfl) (Nat.le_of_ble_eq_true rfl) dJ7_copyOf_1904c_3 ?_
  refine z_callSR (st := []) (w_J7_copyOf_6403c h) zw_554 zw_552 zw_553 zw_54 zy_J7_copyOf_6403c rfl rfl ⟨Nat.le_of_ble_eq_true rfl, Nat.le_of_ble_eq_true rfl⟩ ⟨(Nat.le_of_ble_eq_true rfl), (Nat.le_of_ble_eq_true rfl)⟩ (Nat.le_of_ble_eq_true rfl) dJ7_copyOf_1904c_6 (fun _ _ hx => hx.elim) (fun r3 S2 h => ?_)
  refine z_widen (k' := 1) (n' := 22) (Nat.le_refl _) (Nat.le_refl _) ?_
  exact z_areturn (v := va_rf r3) ⟨rfl, _, rfl, h⟩ rfl (.inr ⟨_, rfl⟩) (va_rf_or _) (Nat.le_of_ble_eq_true rfl) (Nat.le_of_ble_eq_true rfl) dJ7_copyOf_1904c_9
set_option maxRecDepth 20000 in
set_option maxHeartbeats 4000000 in
theorem w_Jx4a65c_grow_92f84_J20 {E : zE}  {Q : Option Nat → zS → Prop} {X : String → zS → Prop}  (a0 : Nat) (l1 : Int32) (l2 : Int32) (S : zS) (h : p_Jx4a65c_grow_92f84_J20 E  Q X a0 l1 l2 S) : zJ E (RJx4a65c, cJx4a65c_grow_92f84, 4, (some (.array (.object "java/lang/Object"))), false, [], zTr) ({ frames := 3, cells := 1, slots := 22, locals := 84 } : Room) (zq (qR Q)) (zx X) 20 [(0, .ref a0), (1, .int l1), (2, .int l2)] [] [] S 0 0 := by
  unfold p_Jx4a65c_grow_92f84_J20 at h
  refine z_iload_n 2 dJx4a65c_grow_92f84_20 rfl rfl ?_
  refine z_iload_n 1 dJx4a65c_grow_92f84_21 rfl rfl ?_
  refine z_iload_n 2 dJx4a65c_grow_92f84_22 rfl rfl ?_
  refine z_isub dJx4a65c_grow_92f84_23 ?_
  refine z_iload_n 2 dJx4a65c_grow_92f84_24 rfl rfl ?_
  refine z_iconst (v := 1) dJx4a65c_grow_92f84_25 rfl ?_
  refine z_ishr dJx4a65c_grow_92f84_26 ?_
  refine z_callSI (st := []) (w_J8_newLength_cabcc h) zw_523 zw_521 zw_522 zw_53 zy_J8_newLength_cabcc rfl rfl ⟨Nat.le_of_ble_eq_true rfl, Nat.le_of_ble_eq_true rfl⟩ ⟨(Nat.le_of_ble_eq_true rfl), (Nat.le_of_ble_eq_true rfl)⟩ (Nat.le_of_ble_eq_true rfl) dJx4a65c_grow_92f84_27 (fun _ _ hx => hx.elim) (fun r6 S5 h => ?_)
  refine z_widen (k' := 0) (n' := 0) (Nat.le_refl _) (Nat.le_refl _) ?_
  refine z_istore_n (lv' := [(3, .int r6), (0, .ref a0), (1, .int l1), (2, .int l2)]) dJx4a65c_grow_92f84_30 rfl (Nat.le_of_ble_eq_true rfl) rfl ?_
  refine z_aload_n 1 dJx4a65c_grow_92f84_31 rfl rfl ?_
  refine z_aload_n 1 dJx4a65c_grow_92f84_32 rfl rfl ?_
  obtain ⟨hf7, h⟩ := h
  refine z_getQ (c := 0) (j := 1) (f := 1) hf7.1 hf7.2 (Nat.le_of_ble_eq_true rfl) rfl zU_Jx4a65c (Nat.le_of_ble_eq_true rfl) (Nat.le_of_ble_eq_true rfl) ⟨_, zw_79, Or.inl rfl⟩ rfl rfl dJx4a65c_grow_92f84_33 ?_
  refine z_iload_n 0 dJx4a65c_grow_92f84_36 rfl rfl ?_
  obtain ⟨b8, hb9, h⟩ := h
  rw [show va_rf (gR S5 1 a0) = Value.ref b8 from by rw [hb9]; rfl]
  refine z_callSR (st := [.ref a0]) (w_J7_copyOf_1904c h) zw_533 zw_531 zw_532 zw_54 zy_J7_copyOf_1904c rfl rfl ⟨Nat.le_of_ble_eq_true rfl, Nat.le_of_ble_eq_true rfl⟩ ⟨(Nat.le_of_ble_eq_true rfl), (Nat.le_of_ble_eq_true rfl)⟩ (Nat.le_of_ble_eq_true rfl) dJx4a65c_grow_92f84_37 (fun _ _ hx => hx.elim) (fun r11 S10 h => ?_)
  refine z_widen (k' := 1) (n' := 22) (Nat.le_refl _) (Nat.le_refl _) ?_
  refine z_dup_x1 dJx4a65c_grow_92f84_40 (zcat _) rfl ?_
  obtain ⟨hf12, h⟩ := h
  have h := h _ rfl
  refine z_putV (c := 0) (j := 1) (ty0 := tyJx4a65c) (S' := sR S10 1 a0 r11) hf12.1 hf12.2 (Nat.le_of_ble_eq_true rfl) rfl zU_Jx4a65c tyJx4a65c_ok nmJx4a65c (Nat.le_of_ble_eq_true rfl) (Nat.le_of_ble_eq_true rfl) ⟨_, zw_79, Or.inl rfl⟩ (.inl rfl) (zrefn (ty := tyJx4a65c 1) (o := r11) (by decide)) (zreff (ty := tyJx4a65c 1) (o := r11) (by decide)) rfl (zUpR (v := r11) hf12.2 (Nat.le_of_ble_eq_true rfl) (Nat.le_of_ble_eq_true rfl) rfl rfl) dJx4a65c_grow_92f84_41 ?_
  obtain ⟨S13, hS14⟩ : ∃ z, z = sR S10 1 a0 r11 := ⟨_, rfl⟩
  rw [← hS14] at h ⊢
  have hf12 : a0 ∈ gL S13 ∧ gK S13 a0 = 0 := by rw [hS14]; exact hf12
  exact z_areturn (v := va_rf r11) ⟨rfl, _, rfl, h⟩ rfl (.inr ⟨_, rfl⟩) (va_rf_or _) (Nat.le_of_ble_eq_true rfl) (Nat.le_of_ble_eq_true rfl) dJx4a65c_grow_92f84_44
set_option maxRecDepth 20000 in
set_option maxHeartbeats 4000000 in
theorem w_Jx4a65c_grow_92f84 {E : zE} {a0 : Nat} {l1 : Int32} {S : zS} {Q : Option Nat → zS → Prop} {X : String → zS → Prop} (h : p_Jx4a65c_grow_92f84 E a0 l1 S Q X) : zM E yJx4a65c_grow_92f84 cJx4a65c_grow_92f84 4 (some (.array (.object "java/lang/Object"))) ({ frames := 3, cells := 1, slots := 22, locals := 84 } : Room) [.ref a0, .int l1] S (qR Q) X := by
  unfold p_Jx4a65c_grow_92f84 at h
  refine zM_of RJx4a65c false (by decide) rfl (fun h => by cases h) (Nat.le_of_ble_eq_true rfl) ?_
  refine z_aload_n 0 dJx4a65c_grow_92f84_0 rfl rfl ?_
  obtain ⟨hf1, h⟩ := h
  refine z_getQ (c := 0) (j := 1) (f := 1) hf1.1 hf1.2 (Nat.le_of_ble_eq_true rfl) rfl zU_Jx4a65c (Nat.le_of_ble_eq_true rfl) (Nat.le_of_ble_eq_true rfl) ⟨_, zw_79, Or.inl rfl⟩ rfl rfl dJx4a65c_grow_92f84_1 ?_
  obtain ⟨b2, hb3, h⟩ := h
  rw [show va_rf (gR S 1 a0) = Value.ref b2 from by rw [hb3]; rfl]
  rcases h with ⟨he37, h⟩ | h
  · refine z_len0E he37 rfl dJx4a65c_grow_92f84_4 ?_
    refine z_istore_n (lv' := [(2, .int 0), (0, .ref a0), (1, .int l1)]) dJx4a65c_grow_92f84_5 rfl (Nat.le_of_ble_eq_true rfl) rfl ?_
    refine z_iload_n 0 dJx4a65c_grow_92f84_6 rfl rfl ?_
    refine z_if_gt 20 dJx4a65c_grow_92f84_7 (by decide) (fun c36 => ?_) (fun c36 => ?_)
    · have h := h.1 c36
      refine z_sub [1, 2, 0] rfl ?_
      refine w_Jx4a65c_grow_92f84_J20 a0 l1 0 S h
    · have h := h.2 c36
      refine z_aload_n 1 dJx4a65c_grow_92f84_10 rfl rfl ?_
      refine z_getQ (c := 0) (j := 1) (f := 1) hf1.1 hf1.2 (Nat.le_of_ble_eq_true rfl) rfl zU_Jx4a65c (Nat.le_of_ble_eq_true rfl) (Nat.le_of_ble_eq_true rfl) ⟨_, zw_79, Or.inl rfl⟩ rfl rfl dJx4a65c_grow_92f84_11 ?_
      refine z_gets0 zw_77 dJx4a65c_grow_92f84_14 ?_
      refine z_acmp_eq (rx := (gR S 1 a0)) (ry := (some E.2.2.2.2.1)) 45 dJx4a65c_grow_92f84_17 (by decide) (fun c35 => ?_) (fun c35 => ?_)
      · have h := h.1 c35
        refine z_aload_n 1 dJx4a65c_grow_92f84_45 rfl rfl ?_
        refine z_bipush (v := 10) dJx4a65c_grow_92f84_46 rfl ?_
        refine z_iload_n 2 dJx4a65c_grow_92f84_48 rfl rfl ?_
        refine z_mmax zw_564 zw_525 zw_50 zw_526 (Nat.le_of_ble_eq_true rfl) (Nat.le_of_ble_eq_true rfl) (Nat.le_of_ble_eq_true rfl) (Nat.le_of_ble_eq_true rfl) dJx4a65c_grow_92f84_49 ?_
        obtain ⟨j30, hj31, h⟩ := h
        refine z_newq (c := 16) (N := j30) (by decide) zw_565 hj31.1 (Nat.lt_of_le_of_lt hj31.2 (Nat.le_of_ble_eq_true rfl)) (Nat.le_of_ble_eq_true rfl) (Nat.le_trans (Nat.add_le_add_left hj31.2 _) (Nat.le_of_ble_eq_true rfl)) dJx4a65c_grow_92f84_52 (fun q26 hq27 => ?_)
        have h := h q26 hq27 _ rfl
        obtain ⟨S28, hS29⟩ : ∃ z, z = nA S q26 16 j30 := ⟨_, rfl⟩
        rw [← hS29] at h ⊢
        refine z_widen (k' := 1) (n' := 22) (Nat.le_refl _) (Nat.add_le_add_left hj31.2 _) ?_
        refine z_dup_x1 dJx4a65c_grow_92f84_55 rfl rfl ?_
        obtain ⟨hf32, h⟩ := h
        have h := h _ rfl
        refine z_putV (c := 0) (j := 1) (ty0 := tyJx4a65c) (S' := sR S28 1 a0 (some q26)) hf32.1 hf32.2 (Nat.le_of_ble_eq_true rfl) rfl zU_Jx4a65c tyJx4a65c_ok nmJx4a65c (Nat.le_of_ble_eq_true rfl) (Nat.le_of_ble_eq_true rfl) ⟨_, zw_79, Or.inl rfl⟩ (.inl rfl) (zrefn (ty := tyJx4a65c 1) (o := (some q26)) (by decide)) (zreff (ty := tyJx4a65c 1) (o := (some q26)) (by decide)) rfl (zUpR (v := (some q26)) hf32.2 (Nat.le_of_ble_eq_true rfl) (Nat.le_of_ble_eq_true rfl) rfl rfl) dJx4a65c_grow_92f84_56 ?_
        obtain ⟨S33, hS34⟩ : ∃ z, z = sR S28 1 a0 (some q26) := ⟨_, rfl⟩
        rw [← hS34] at h ⊢
        have hf32 : a0 ∈ gL S33 ∧ gK S33 a0 = 0 := by rw [hS34]; exact hf32
        exact z_areturn (v := va_rf (some q26)) ⟨rfl, _, rfl, h⟩ rfl (.inr ⟨_, rfl⟩) (va_rf_or _) (Nat.le_of_ble_eq_true rfl) (Nat.le_of_ble_eq_true rfl) dJx4a65c_grow_92f84_59
      · have h := h.2 c35
        refine z_sub [1, 2, 0] rfl ?_
        refine w_Jx4a65c_grow_92f84_J20 a0 l1 0 S h
  · obtain ⟨hl4, h⟩ := h
    refine z_alen hl4.1 rfl hl4.2.1 hl4.2.2 rfl dJx4a65c_grow_92f84_4 ?_
    refine z_istore_n (lv' := [(2, .int (nI (gN S b2))), (0, .ref a0), (1, .int l1)]) dJx4a65c_grow_92f84_5 rfl (Nat.le_of_ble_eq_true rfl) rfl ?_
    refine z_iload_n 0 dJx4a65c_grow_92f84_6 rfl rfl ?_
    refine z_if_gt 20 dJx4a65c_grow_92f84_7 (by decide) (fun c25 => ?_) (fun c25 => ?_)
    · have h := h.1 c25
      refine z_sub [1, 2, 0] rfl ?_
      refine w_Jx4a65c_grow_92f84_J20 a0 l1 (nI (gN S b2)) S h
    · have h := h.2 c25
      refine z_aload_n 1 dJx4a65c_grow_92f84_10 rfl rfl ?_
      refine z_getQ (c := 0) (j := 1) (f := 1) hf1.1 hf1.2 (Nat.le_of_ble_eq_true rfl) rfl zU_Jx4a65c (Nat.le_of_ble_eq_true rfl) (Nat.le_of_ble_eq_true rfl) ⟨_, zw_79, Or.inl rfl⟩ rfl rfl dJx4a65c_grow_92f84_11 ?_
      refine z_gets0 zw_77 dJx4a65c_grow_92f84_14 ?_
      refine z_acmp_eq (rx := (gR S 1 a0)) (ry := (some E.2.2.2.2.1)) 45 dJx4a65c_grow_92f84_17 (by decide) (fun c24 => ?_) (fun c24 => ?_)
      · have h := h.1 c24
        refine z_aload_n 1 dJx4a65c_grow_92f84_45 rfl rfl ?_
        refine z_bipush (v := 10) dJx4a65c_grow_92f84_46 rfl ?_
        refine z_iload_n 2 dJx4a65c_grow_92f84_48 rfl rfl ?_
        refine z_mmax zw_564 zw_525 zw_50 zw_526 (Nat.le_of_ble_eq_true rfl) (Nat.le_of_ble_eq_true rfl) (Nat.le_of_ble_eq_true rfl) (Nat.le_of_ble_eq_true rfl) dJx4a65c_grow_92f84_49 ?_
        obtain ⟨j19, hj20, h⟩ := h
        refine z_newq (c := 16) (N := j19) (by decide) zw_565 hj20.1 (Nat.lt_of_le_of_lt hj20.2 (Nat.le_of_ble_eq_true rfl)) (Nat.le_of_ble_eq_true rfl) (Nat.le_trans (Nat.add_le_add_left hj20.2 _) (Nat.le_of_ble_eq_true rfl)) dJx4a65c_grow_92f84_52 (fun q15 hq16 => ?_)
        have h := h q15 hq16 _ rfl
        obtain ⟨S17, hS18⟩ : ∃ z, z = nA S q15 16 j19 := ⟨_, rfl⟩
        rw [← hS18] at h ⊢
        refine z_widen (k' := 1) (n' := 22) (Nat.le_refl _) (Nat.add_le_add_left hj20.2 _) ?_
        refine z_dup_x1 dJx4a65c_grow_92f84_55 rfl rfl ?_
        obtain ⟨hf21, h⟩ := h
        have h := h _ rfl
        refine z_putV (c := 0) (j := 1) (ty0 := tyJx4a65c) (S' := sR S17 1 a0 (some q15)) hf21.1 hf21.2 (Nat.le_of_ble_eq_true rfl) rfl zU_Jx4a65c tyJx4a65c_ok nmJx4a65c (Nat.le_of_ble_eq_true rfl) (Nat.le_of_ble_eq_true rfl) ⟨_, zw_79, Or.inl rfl⟩ (.inl rfl) (zrefn (ty := tyJx4a65c 1) (o := (some q15)) (by decide)) (zreff (ty := tyJx4a65c 1) (o := (some q15)) (by decide)) rfl (zUpR (v := (some q15)) hf21.2 (Nat.le_of_ble_eq_true rfl) (Nat.le_of_ble_eq_true rfl) rfl rfl) dJx4a65c_grow_92f84_56 ?_
        obtain ⟨S22, hS23⟩ : ∃ z, z = sR S17 1 a0 (some q15) := ⟨_, rfl⟩
        rw [← hS23] at h ⊢
        have hf21 : a0 ∈ gL S22 ∧ gK S22 a0 = 0 := by rw [hS23]; exact hf21
        exact z_areturn (v := va_rf (some q15)) ⟨rfl, _, rfl, h⟩ rfl (.inr ⟨_, rfl⟩) (va_rf_or _) (Nat.le_of_ble_eq_true rfl) (Nat.le_of_ble_eq_true rfl) dJx4a65c_grow_92f84_59
      · have h := h.2 c24
        refine z_sub [1, 2, 0] rfl ?_
        refine w_Jx4a65c_grow_92f84_J20 a0 l1 (nI (gN S b2)) S h
set_option maxRecDepth 20000 in
set_option maxHeartbeats 4000000 in
theorem w_Jx4a65c_grow_d5877 {E : zE} {a0 : Nat} {S : zS} {Q : Option Nat → zS → Prop} {X : String → zS → Prop} (h : p_Jx4a65c_grow_d5877 E a0 S Q X) : zM E yJx4a65c_grow_d5877 cJx4a65c_grow_d5877 1 (some (.array (.object "java/lang/Object"))) ({ frames := 4, cells := 1, slots := 22, locals := 107 } : Room) [.ref a0] S (qR Q) X := by
  unfold p_Jx4a65c_grow_d5877 at h
  refine zM_of RJx4a65c false (by decide) rfl (fun h => by cases h) (Nat.le_of_ble_eq_true rfl) ?_
  refine z_aload_n 0 dJx4a65c_grow_d5877_0 rfl rfl ?_
  refine z_aload_n 0 dJx4a65c_grow_d5877_1 rfl rfl ?_
  obtain ⟨hf1, h⟩ := h
  refine z_getI (c := 0) (j := 2) (f := 2) hf1.1 hf1.2 (Nat.le_of_ble_eq_true rfl) rfl zU_Jx4a65c (Nat.le_of_ble_eq_true rfl) (Nat.le_of_ble_eq_true rfl) ⟨_, zw_80, Or.inl rfl⟩ rfl rfl dJx4a65c_grow_d5877_2 ?_
  refine z_iconst (v := 1) dJx4a65c_grow_d5877_5 rfl ?_
  refine z_iadd dJx4a65c_grow_d5877_6 ?_
  refine z_callVR (ci := 0) (st := []) (w_Jx4a65c_grow_92f84 h) hf1.1 hf1.2 (Nat.le_of_ble_eq_true rfl) rfl zw_520 zw_517 zw_519 zw_6 zw_33 zy_Jx4a65c_grow_92f84 rfl rfl ⟨Nat.le_of_ble_eq_true rfl, Nat.le_of_ble_eq_true rfl⟩ ⟨(Nat.le_of_ble_eq_true rfl), (Nat.le_of_ble_eq_true rfl)⟩ (Nat.le_of_ble_eq_true rfl) dJx4a65c_grow_d5877_7 (fun _ _ hx => hx.elim) (fun r3 S2 h => ?_)
  refine z_widen (k' := 1) (n' := 22) (Nat.le_refl _) (Nat.le_refl _) ?_
  exact z_areturn (v := va_rf r3) ⟨rfl, _, rfl, h⟩ rfl (.inr ⟨_, rfl⟩) (va_rf_or _) (Nat.le_of_ble_eq_true rfl) (Nat.le_of_ble_eq_true rfl) dJx4a65c_grow_d5877_10
set_option maxRecDepth 20000 in
set_option maxHeartbeats 4000000 in
theorem w_Jx4a65c_add_72be8 {E : zE} {a0 : Nat} {a1 : Nat} {a2 : Nat} {l3 : Int32} {S : zS} {Q : zS → Prop} {X : String → zS → Prop} (h : p_Jx4a65c_add_72be8 E a0 a1 a2 l3 S Q X) : zM E yJx4a65c_add_72be8 cJx4a65c_add_72be8 4 none ({ frames := 5, cells := 1, slots := 22, locals := 127 } : Room) [.ref a0, .ref a1, .ref a2, .int l3] S (qV Q) X := by
  unfold p_Jx4a65c_add_72be8 at h
  refine zM_of RJx4a65c false (by decide) rfl (fun h => by cases h) (Nat.le_of_ble_eq_true rfl) ?_
  refine z_iload_n 3 dJx4a65c_add_72be8_0 rfl rfl ?_
  refine z_aload_n 2 dJx4a65c_add_72be8_1 rfl rfl ?_
  rcases h with ⟨he50, h⟩ | h
  · refine z_len0E he50 rfl dJx4a65c_add_72be8_2 ?_
    refine z_icmp_ne 11 dJx4a65c_add_72be8_3 (by decide) (fun c49 => ?_) (fun c49 => ?_)
    · have h := h.1 c49
      refine z_aload_n 2 dJx4a65c_add_72be8_11 rfl rfl ?_
      refine z_iload_n 3 dJx4a65c_add_72be8_12 rfl rfl ?_
      refine z_aload_n 1 dJx4a65c_add_72be8_13 rfl rfl ?_
      obtain ⟨hf26, h⟩ := h
      obtain ⟨j27, hj28, h⟩ := h
      obtain ⟨hx34, h⟩ := h
      have h := h _ rfl
      refine z_aastO (j := j27) (ci := gK S a1) hf26.1 hf26.2 hx34.2 hx34.1 rfl hj28.1 hj28.2.1 hj28.2.2 dJx4a65c_add_72be8_14 ?_
      obtain ⟨S29, hS30⟩ : ∃ z, z = sQ S a2 j27 (some a1) := ⟨_, rfl⟩
      rw [← hS30] at h ⊢
      have hf26 : a2 ∈ gL S29 ∧ gK S29 a2 = 16 := by rw [hS30]; exact hf26
      refine z_aload_n 0 dJx4a65c_add_72be8_15 rfl rfl ?_
      refine z_iload_n 3 dJx4a65c_add_72be8_16 rfl rfl ?_
      refine z_iconst (v := 1) dJx4a65c_add_72be8_17 rfl ?_
      refine z_iadd dJx4a65c_add_72be8_18 ?_
      obtain ⟨hf31, h⟩ := h
      have h := h _ rfl
      refine z_putV (c := 0) (j := 2) (ty0 := tyJx4a65c) (S' := sI S29 2 a0 (l3 + 1)) hf31.1 hf31.2 (Nat.le_of_ble_eq_true rfl) rfl zU_Jx4a65c tyJx4a65c_ok nmJx4a65c (Nat.le_of_ble_eq_true rfl) (Nat.le_of_ble_eq_true rfl) ⟨_, zw_80, Or.inl rfl⟩ (.inl rfl) rfl rfl rfl (zUpI (v := (l3 + 1)) hf31.2 (Nat.le_of_ble_eq_true rfl) (Nat.le_of_ble_eq_true rfl) rfl rfl) dJx4a65c_add_72be8_19 ?_
      obtain ⟨S32, hS33⟩ : ∃ z, z = sI S29 2 a0 (l3 + 1) := ⟨_, rfl⟩
      rw [← hS33] at h ⊢
      have hf31 : a0 ∈ gL S32 ∧ gK S32 a0 = 0 := by rw [hS33]; exact hf31
      have hf26 : a2 ∈ gL S32 ∧ gK S32 a2 = 16 := by rw [hS33]; exact hf26
      exact z_return ⟨rfl, rfl, h⟩ rfl (Nat.le_of_ble_eq_true rfl) (Nat.le_of_ble_eq_true rfl) dJx4a65c_add_72be8_22
    · have h := h.2 c49
      refine z_aload_n 0 dJx4a65c_add_72be8_6 rfl rfl ?_
      obtain ⟨hf48, h⟩ := h
      refine z_callVR (ci := 0) (st := []) (w_Jx4a65c_grow_d5877 h) hf48.1 hf48.2 (Nat.le_of_ble_eq_true rfl) rfl zw_516 zw_513 zw_515 zw_5 zw_33 zy_Jx4a65c_grow_d5877 rfl rfl ⟨Nat.le_of_ble_eq_true rfl, Nat.le_of_ble_eq_true rfl⟩ ⟨(Nat.le_of_ble_eq_true rfl), (Nat.le_of_ble_eq_true rfl)⟩ (Nat.le_of_ble_eq_true rfl) dJx4a65c_add_72be8_7 (fun _ _ hx => hx.elim) (fun r36 S35 h => ?_)
      refine z_widen (k' := 1) (n' := 22) (Nat.le_refl _) (Nat.le_refl _) ?_
      refine z_astore_nQ (lv' := [(2, va_rf r36), (0, .ref a0), (1, .ref a1), (3, .int l3)]) dJx4a65c_add_72be8_10 rfl (Nat.le_of_ble_eq_true rfl) rfl ?_
      refine z_aload_nQ 0 dJx4a65c_add_72be8_11 rfl rfl ?_
      refine z_iload_n 3 dJx4a65c_add_72be8_12 rfl rfl ?_
      refine z_aload_n 2 dJx4a65c_add_72be8_13 rfl rfl ?_
      obtain ⟨b37, hb38, h⟩ := h
      rw [show va_rf r36 = Value.ref b37 from by rw [hb38]; rfl]
      obtain ⟨hf39, h⟩ := h
      obtain ⟨j40, hj41, h⟩ := h
      obtain ⟨hx47, h⟩ := h
      have h := h _ rfl
      refine z_aastO (j := j40) (ci := gK S35 a1) hf39.1 hf39.2 hx47.2 hx47.1 rfl hj41.1 hj41.2.1 hj41.2.2 dJx4a65c_add_72be8_14 ?_
      obtain ⟨S42, hS43⟩ : ∃ z, z = sQ S35 b37 j40 (some a1) := ⟨_, rfl⟩
      rw [← hS43] at h ⊢
      have hf39 : b37 ∈ gL S42 ∧ gK S42 b37 = 16 := by rw [hS43]; exact hf39
      refine z_aload_n 1 dJx4a65c_add_72be8_15 rfl rfl ?_
      refine z_iload_n 3 dJx4a65c_add_72be8_16 rfl rfl ?_
      refine z_iconst (v := 1) dJx4a65c_add_72be8_17 rfl ?_
      refine z_iadd dJx4a65c_add_72be8_18 ?_
      obtain ⟨hf44, h⟩ := h
      have h := h _ rfl
      refine z_putV (c := 0) (j := 2) (ty0 := tyJx4a65c) (S' := sI S42 2 a0 (l3 + 1)) hf44.1 hf44.2 (Nat.le_of_ble_eq_true rfl) rfl zU_Jx4a65c tyJx4a65c_ok nmJx4a65c (Nat.le_of_ble_eq_true rfl) (Nat.le_of_ble_eq_true rfl) ⟨_, zw_80, Or.inl rfl⟩ (.inl rfl) rfl rfl rfl (zUpI (v := (l3 + 1)) hf44.2 (Nat.le_of_ble_eq_true rfl) (Nat.le_of_ble_eq_true rfl) rfl rfl) dJx4a65c_add_72be8_19 ?_
      obtain ⟨S45, hS46⟩ : ∃ z, z = sI S42 2 a0 (l3 + 1) := ⟨_, rfl⟩
      rw [← hS46] at h ⊢
      have hf44 : a0 ∈ gL S45 ∧ gK S45 a0 = 0 := by rw [hS46]; exact hf44
      have hf39 : b37 ∈ gL S45 ∧ gK S45 b37 = 16 := by rw [hS46]; exact hf39
      exact z_return ⟨rfl, rfl, h⟩ rfl (Nat.le_of_ble_eq_true rfl) (Nat.le_of_ble_eq_true rfl) dJx4a65c_add_72be8_22
  · obtain ⟨hl1, h⟩ := h
    refine z_alen hl1.1 rfl hl1.2.1 hl1.2.2 rfl dJx4a65c_add_72be8_2 ?_
    refine z_icmp_ne 11 dJx4a65c_add_72be8_3 (by decide) (fun c25 => ?_) (fun c25 => ?_)
    · have h := h.1 c25
      refine z_aload_n 2 dJx4a65c_add_72be8_11 rfl rfl ?_
      refine z_iload_n 3 dJx4a65c_add_72be8_12 rfl rfl ?_
      refine z_aload_n 1 dJx4a65c_add_72be8_13 rfl rfl ?_
      obtain ⟨hf2, h⟩ := h
      obtain ⟨j3, hj4, h⟩ := h
      obtain ⟨hx10, h⟩ := h
      have h := h _ rfl
      refine z_aastO (j := j3) (ci := gK S a1) hf2.1 hf2.2 hx10.2 hx10.1 rfl hj4.1 hj4.2.1 hj4.2.2 dJx4a65c_add_72be8_14 ?_
      obtain ⟨S5, hS6⟩ : ∃ z, z = sQ S a2 j3 (some a1) := ⟨_, rfl⟩
      rw [← hS6] at h ⊢
      have hf2 : a2 ∈ gL S5 ∧ gK S5 a2 = 16 := by rw [hS6]; exact hf2
      refine z_aload_n 0 dJx4a65c_add_72be8_15 rfl rfl ?_
      refine z_iload_n 3 dJx4a65c_add_72be8_16 rfl rfl ?_
      refine z_iconst (v := 1) dJx4a65c_add_72be8_17 rfl ?_
      refine z_iadd dJx4a65c_add_72be8_18 ?_
      obtain ⟨hf7, h⟩ := h
      have h := h _ rfl
      refine z_putV (c := 0) (j := 2) (ty0 := tyJx4a65c) (S' := sI S5 2 a0 (l3 + 1)) hf7.1 hf7.2 (Nat.le_of_ble_eq_true rfl) rfl zU_Jx4a65c tyJx4a65c_ok nmJx4a65c (Nat.le_of_ble_eq_true rfl) (Nat.le_of_ble_eq_true rfl) ⟨_, zw_80, Or.inl rfl⟩ (.inl rfl) rfl rfl rfl (zUpI (v := (l3 + 1)) hf7.2 (Nat.le_of_ble_eq_true rfl) (Nat.le_of_ble_eq_true rfl) rfl rfl) dJx4a65c_add_72be8_19 ?_
      obtain ⟨S8, hS9⟩ : ∃ z, z = sI S5 2 a0 (l3 + 1) := ⟨_, rfl⟩
      rw [← hS9] at h ⊢
      have hf7 : a0 ∈ gL S8 ∧ gK S8 a0 = 0 := by rw [hS9]; exact hf7
      have hf2 : a2 ∈ gL S8 ∧ gK S8 a2 = 16 := by rw [hS9]; exact hf2
      exact z_return ⟨rfl, rfl, h⟩ rfl (Nat.le_of_ble_eq_true rfl) (Nat.le_of_ble_eq_true rfl) dJx4a65c_add_72be8_22
    · have h := h.2 c25
      refine z_aload_n 0 dJx4a65c_add_72be8_6 rfl rfl ?_
      obtain ⟨hf24, h⟩ := h
      refine z_callVR (ci := 0) (st := []) (w_Jx4a65c_grow_d5877 h) hf24.1 hf24.2 (Nat.le_of_ble_eq_true rfl) rfl zw_516 zw_513 zw_515 zw_5 zw_33 zy_Jx4a65c_grow_d5877 rfl rfl ⟨Nat.le_of_ble_eq_true rfl, Nat.le_of_ble_eq_true rfl⟩ ⟨(Nat.le_of_ble_eq_true rfl), (Nat.le_of_ble_eq_true rfl)⟩ (Nat.le_of_ble_eq_true rfl) dJx4a65c_add_72be8_7 (fun _ _ hx => hx.elim) (fun r12 S11 h => ?_)
      refine z_widen (k' := 1) (n' := 22) (Nat.le_refl _) (Nat.le_refl _) ?_
      refine z_astore_nQ (lv' := [(2, va_rf r12), (0, .ref a0), (1, .ref a1), (3, .int l3)]) dJx4a65c_add_72be8_10 rfl (Nat.le_of_ble_eq_true rfl) rfl ?_
      refine z_aload_nQ 0 dJx4a65c_add_72be8_11 rfl rfl ?_
      refine z_iload_n 3 dJx4a65c_add_72be8_12 rfl rfl ?_
      refine z_aload_n 2 dJx4a65c_add_72be8_13 rfl rfl ?_
      obtain ⟨b13, hb14, h⟩ := h
      rw [show va_rf r12 = Value.ref b13 from by rw [hb14]; rfl]
      obtain ⟨hf15, h⟩ := h
      obtain ⟨j16, hj17, h⟩ := h
      obtain ⟨hx23, h⟩ := h
      have h := h _ rfl
      refine z_aastO (j := j16) (ci := gK S11 a1) hf15.1 hf15.2 hx23.2 hx23.1 rfl hj17.1 hj17.2.1 hj17.2.2 dJx4a65c_add_72be8_14 ?_
      obtain ⟨S18, hS19⟩ : ∃ z, z = sQ S11 b13 j16 (some a1) := ⟨_, rfl⟩
      rw [← hS19] at h ⊢
      have hf15 : b13 ∈ gL S18 ∧ gK S18 b13 = 16 := by rw [hS19]; exact hf15
      refine z_aload_n 1 dJx4a65c_add_72be8_15 rfl rfl ?_
      refine z_iload_n 3 dJx4a65c_add_72be8_16 rfl rfl ?_
      refine z_iconst (v := 1) dJx4a65c_add_72be8_17 rfl ?_
      refine z_iadd dJx4a65c_add_72be8_18 ?_
      obtain ⟨hf20, h⟩ := h
      have h := h _ rfl
      refine z_putV (c := 0) (j := 2) (ty0 := tyJx4a65c) (S' := sI S18 2 a0 (l3 + 1)) hf20.1 hf20.2 (Nat.le_of_ble_eq_true rfl) rfl zU_Jx4a65c tyJx4a65c_ok nmJx4a65c (Nat.le_of_ble_eq_true rfl) (Nat.le_of_ble_eq_true rfl) ⟨_, zw_80, Or.inl rfl⟩ (.inl rfl) rfl rfl rfl (zUpI (v := (l3 + 1)) hf20.2 (Nat.le_of_ble_eq_true rfl) (Nat.le_of_ble_eq_true rfl) rfl rfl) dJx4a65c_add_72be8_19 ?_
      obtain ⟨S21, hS22⟩ : ∃ z, z = sI S18 2 a0 (l3 + 1) := ⟨_, rfl⟩
      rw [← hS22] at h ⊢
      have hf20 : a0 ∈ gL S21 ∧ gK S21 a0 = 0 := by rw [hS22]; exact hf20
      have hf15 : b13 ∈ gL S21 ∧ gK S21 b13 = 16 := by rw [hS22]; exact hf15
      exact z_return ⟨rfl, rfl, h⟩ rfl (Nat.le_of_ble_eq_true rfl) (Nat.le_of_ble_eq_true rfl) dJx4a65c_add_72be8_22
set_option maxRecDepth 20000 in
set_option maxHeartbeats 4000000 in
theorem w_Jx4a65c_add_9ea2d {E : zE} {a0 : Nat} {a1 : Nat} {S : zS} {Q : Int32 → zS → Prop} {X : String → zS → Prop} (h : p_Jx4a65c_add_9ea2d E a0 a1 S Q X) : zM E yJx4a65c_add_9ea2d cJx4a65c_add_9ea2d 2 (some .boolean) ({ frames := 6, cells := 1, slots := 22, locals := 150 } : Room) [.ref a0, .ref a1] S (qI Q) X := by
  unfold p_Jx4a65c_add_9ea2d at h
  refine zM_of RJx4a65c false (by decide) rfl (fun h => by cases h) (Nat.le_of_ble_eq_true rfl) ?_
  refine z_aload_n 0 dJx4a65c_add_9ea2d_0 rfl rfl ?_
  refine z_dup dJx4a65c_add_9ea2d_1 rfl ?_
  obtain ⟨hf1, h⟩ := h
  refine z_getI (c := 0) (j := 0) (f := 0) hf1.1 hf1.2 (Nat.le_of_ble_eq_true rfl) rfl zU_Jx4a65c (Nat.le_of_ble_eq_true rfl) (Nat.le_of_ble_eq_true rfl) ⟨_, zw_82, Or.inr zw_83⟩ rfl rfl dJx4a65c_add_9ea2d_2 ?_
  refine z_iconst (v := 1) dJx4a65c_add_9ea2d_5 rfl ?_
  refine z_iadd dJx4a65c_add_9ea2d_6 ?_
  have h := h _ rfl
  refine z_putV (c := 0) (j := 0) (ty0 := tyJx4a65c) (S' := sI S 0 a0 ((gI S 0 a0) + 1)) hf1.1 hf1.2 (Nat.le_of_ble_eq_true rfl) rfl zU_Jx4a65c tyJx4a65c_ok nmJx4a65c (Nat.le_of_ble_eq_true rfl) (Nat.le_of_ble_eq_true rfl) ⟨_, zw_82, Or.inr zw_83⟩ (.inl rfl) rfl rfl rfl (zUpI (v := ((gI S 0 a0) + 1)) hf1.2 (Nat.le_of_ble_eq_true rfl) (Nat.le_of_ble_eq_true rfl) rfl rfl) dJx4a65c_add_9ea2d_7 ?_
  obtain ⟨S2, hS3⟩ : ∃ z, z = sI S 0 a0 ((gI S 0 a0) + 1) := ⟨_, rfl⟩
  rw [← hS3] at h ⊢
  have hf1 : a0 ∈ gL S2 ∧ gK S2 a0 = 0 := by rw [hS3]; exact hf1
  refine z_aload_n 0 dJx4a65c_add_9ea2d_10 rfl rfl ?_
  refine z_aload_n 1 dJx4a65c_add_9ea2d_11 rfl rfl ?_
  refine z_aload_n 0 dJx4a65c_add_9ea2d_12 rfl rfl ?_
  refine z_getQ (c := 0) (j := 1) (f := 1) hf1.1 hf1.2 (Nat.le_of_ble_eq_true rfl) rfl zU_Jx4a65c (Nat.le_of_ble_eq_true rfl) (Nat.le_of_ble_eq_true rfl) ⟨_, zw_79, Or.inl rfl⟩ rfl rfl dJx4a65c_add_9ea2d_13 ?_
  refine z_aload_n 0 dJx4a65c_add_9ea2d_16 rfl rfl ?_
  refine z_getI (c := 0) (j := 2) (f := 2) hf1.1 hf1.2 (Nat.le_of_ble_eq_true rfl) rfl zU_Jx4a65c (Nat.le_of_ble_eq_true rfl) (Nat.le_of_ble_eq_true rfl) ⟨_, zw_80, Or.inl rfl⟩ rfl rfl dJx4a65c_add_9ea2d_17 ?_
  obtain ⟨b4, hb5, h⟩ := h
  rw [show va_rf (gR S2 1 a0) = Value.ref b4 from by rw [hb5]; rfl]
  refine z_callVV (ci := 0) (st := []) (w_Jx4a65c_add_72be8 h) hf1.1 hf1.2 (Nat.le_of_ble_eq_true rfl) rfl zw_512 zw_509 zw_511 zw_4 zw_33 zy_Jx4a65c_add_72be8 rfl rfl ⟨Nat.le_of_ble_eq_true rfl, Nat.le_of_ble_eq_true rfl⟩ ⟨(Nat.le_of_ble_eq_true rfl), (Nat.le_of_ble_eq_true rfl)⟩ (Nat.le_of_ble_eq_true rfl) dJx4a65c_add_9ea2d_20 (fun _ _ hx => hx.elim) (fun S6 h => ?_)
  refine z_widen (k' := 1) (n' := 22) (Nat.le_refl _) (Nat.le_refl _) ?_
  refine z_iconst (v := 1) dJx4a65c_add_9ea2d_23 rfl ?_
  obtain ⟨hz8, h⟩ := h
  exact z_zreturn ⟨rfl, _, rfl, h⟩ rfl (zbn hz8) (Nat.le_of_ble_eq_true rfl) (Nat.le_of_ble_eq_true rfl) dJx4a65c_add_9ea2d_24
set_option maxRecDepth 20000 in
set_option maxHeartbeats 4000000 in
theorem w_J3_checkIndex_8e157 {E : zE} {l0 : Int32} {l1 : Int32} {o2 : Option Nat} {S : zS} {Q : Int32 → zS → Prop} {X : String → zS → Prop} (h : p_J3_checkIndex_8e157 E l0 l1 o2 S Q X) : zM E yJ3_checkIndex_8e157 cJ3_checkIndex_8e157 3 (some .int) ({ frames := 0, cells := 0, slots := 0, locals := 0 } : Room) [.int l0, .int l1, va_rf o2] S (qI Q) X := by
  unfold p_J3_checkIndex_8e157 at h
  refine zM_of RJ3 false (by decide) rfl (fun h => by cases h) (by cases o2 <;> exact Nat.le_of_ble_eq_true rfl) ?_
  refine z_iload_n 0 dJ3_checkIndex_8e157_0 rfl rfl ?_
  refine z_if_lt 9 dJ3_checkIndex_8e157_1 (by decide) (fun c2 => ?_) (fun c2 => ?_)
  · have h := h.1 c2
    refine z_aload_nQ 2 dJ3_checkIndex_8e157_9 rfl rfl ?_
    refine z_iload_n 0 dJ3_checkIndex_8e157_10 rfl rfl ?_
    refine z_iload_n 1 dJ3_checkIndex_8e157_11 rfl rfl ?_
    exact h.elim
  · have h := h.2 c2
    refine z_iload_n 0 dJ3_checkIndex_8e157_4 rfl rfl ?_
    refine z_iload_n 1 dJ3_checkIndex_8e157_5 rfl rfl ?_
    refine z_icmp_lt 16 dJ3_checkIndex_8e157_6 (by decide) (fun c1 => ?_) (fun c1 => ?_)
    · have h := h.1 c1
      refine z_iload_n 0 dJ3_checkIndex_8e157_16 rfl rfl ?_
      exact z_ireturn ⟨rfl, _, rfl, h⟩ rfl (Nat.le_of_ble_eq_true rfl) (Nat.le_of_ble_eq_true rfl) dJ3_checkIndex_8e157_17
    · have h := h.2 c1
      refine z_aload_nQ 2 dJ3_checkIndex_8e157_9 rfl rfl ?_
      refine z_iload_n 0 dJ3_checkIndex_8e157_10 rfl rfl ?_
      refine z_iload_n 1 dJ3_checkIndex_8e157_11 rfl rfl ?_
      exact h.elim
set_option maxRecDepth 20000 in
set_option maxHeartbeats 4000000 in
theorem w_J15_checkIndex_7cf53 {E : zE} {l0 : Int32} {l1 : Int32} {S : zS} {Q : Int32 → zS → Prop} {X : String → zS → Prop} (h : p_J15_checkIndex_7cf53 E l0 l1 S Q X) : zM E yJ15_checkIndex_7cf53 cJ15_checkIndex_7cf53 2 (some .int) ({ frames := 1, cells := 0, slots := 0, locals := 22 } : Room) [.int l0, .int l1] S (qI Q) X := by
  unfold p_J15_checkIndex_7cf53 at h
  refine zM_of RJ15 false (by decide) rfl (fun h => by cases h) (Nat.le_of_ble_eq_true rfl) ?_
  refine z_iload_n 0 dJ15_checkIndex_7cf53_0 rfl rfl ?_
  refine z_iload_n 1 dJ15_checkIndex_7cf53_1 rfl rfl ?_
  refine z_null dJ15_checkIndex_7cf53_2 ?_
  refine z_callSI (st := []) (w_J3_checkIndex_8e157 h) zw_613 zw_611 zw_612 zw_46 zy_J3_checkIndex_8e157 rfl rfl ⟨Nat.le_of_ble_eq_true rfl, Nat.le_of_ble_eq_true rfl⟩ ⟨(Nat.le_of_ble_eq_true rfl), (Nat.le_of_ble_eq_true rfl)⟩ (Nat.le_of_ble_eq_true rfl) dJ15_checkIndex_7cf53_3 (fun _ _ hx => hx.elim) (fun r2 S1 h => ?_)
  refine z_widen (k' := 0) (n' := 0) (Nat.le_refl _) (Nat.le_refl _) ?_
  exact z_ireturn ⟨rfl, _, rfl, h⟩ rfl (Nat.le_of_ble_eq_true rfl) (Nat.le_of_ble_eq_true rfl) dJ15_checkIndex_7cf53_6
set_option maxRecDepth 20000 in
set_option maxHeartbeats 4000000 in
theorem w_Jx4a65c_elementData_915e3 {E : zE} {a0 : Nat} {l1 : Int32} {S : zS} {Q : Option Nat → zS → Prop} {X : String → zS → Prop} (h : p_Jx4a65c_elementData_915e3 E a0 l1 S Q X) : zM E yJx4a65c_elementData_915e3 cJx4a65c_elementData_915e3 2 (some (.object "java/lang/Object")) ({ frames := 0, cells := 0, slots := 0, locals := 0 } : Room) [.ref a0, .int l1] S (qR Q) X := by
  unfold p_Jx4a65c_elementData_915e3 at h
  refine zM_of RJx4a65c false (by decide) rfl (fun h => by cases h) (Nat.le_of_ble_eq_true rfl) ?_
  refine z_aload_n 0 dJx4a65c_elementData_915e3_0 rfl rfl ?_
  obtain ⟨hf1, h⟩ := h
  refine z_getQ (c := 0) (j := 1) (f := 1) hf1.1 hf1.2 (Nat.le_of_ble_eq_true rfl) rfl zU_Jx4a65c (Nat.le_of_ble_eq_true rfl) (Nat.le_of_ble_eq_true rfl) ⟨_, zw_79, Or.inl rfl⟩ rfl rfl dJx4a65c_elementData_915e3_1 ?_
  refine z_iload_n 1 dJx4a65c_elementData_915e3_4 rfl rfl ?_
  obtain ⟨b2, hb3, h⟩ := h
  rw [show va_rf (gR S 1 a0) = Value.ref b2 from by rw [hb3]; rfl]
  obtain ⟨hf4, h⟩ := h
  obtain ⟨j5, hj6, h⟩ := h
  refine z_aald (j := j5) hf4.1 rfl hf4.2.1 hf4.2.2 hj6.1 hj6.2.1 hj6.2.2 dJx4a65c_elementData_915e3_5 ?_
  exact z_areturn (v := va_rf (gQ S b2 j5)) ⟨rfl, _, rfl, h⟩ rfl (.inl ⟨_, rfl⟩) (va_rf_or _) (Nat.le_of_ble_eq_true rfl) (Nat.le_of_ble_eq_true rfl) dJx4a65c_elementData_915e3_6
set_option maxRecDepth 20000 in
set_option maxHeartbeats 4000000 in
theorem w_Jx4a65c_get_915e3 {E : zE} {a0 : Nat} {l1 : Int32} {S : zS} {Q : Option Nat → zS → Prop} {X : String → zS → Prop} (h : p_Jx4a65c_get_915e3 E a0 l1 S Q X) : zM E yJx4a65c_get_915e3 cJx4a65c_get_915e3 2 (some (.object "java/lang/Object")) ({ frames := 2, cells := 0, slots := 0, locals := 43 } : Room) [.ref a0, .int l1] S (qR Q) X := by
  unfold p_Jx4a65c_get_915e3 at h
  refine zM_of RJx4a65c false (by decide) rfl (fun h => by cases h) (Nat.le_of_ble_eq_true rfl) ?_
  refine z_iload_n 1 dJx4a65c_get_915e3_0 rfl rfl ?_
  refine z_aload_n 0 dJx4a65c_get_915e3_1 rfl rfl ?_
  obtain ⟨hf1, h⟩ := h
  refine z_getI (c := 0) (j := 2) (f := 2) hf1.1 hf1.2 (Nat.le_of_ble_eq_true rfl) rfl zU_Jx4a65c (Nat.le_of_ble_eq_true rfl) (Nat.le_of_ble_eq_true rfl) ⟨_, zw_80, Or.inl rfl⟩ rfl rfl dJx4a65c_get_915e3_2 ?_
  refine z_callSI (st := []) (w_J15_checkIndex_7cf53 h) zw_610 zw_608 zw_609 zw_45 zy_J15_checkIndex_7cf53 rfl rfl ⟨Nat.le_of_ble_eq_true rfl, Nat.le_of_ble_eq_true rfl⟩ ⟨(Nat.le_of_ble_eq_true rfl), (Nat.le_of_ble_eq_true rfl)⟩ (Nat.le_of_ble_eq_true rfl) dJx4a65c_get_915e3_5 (fun _ _ hx => hx.elim) (fun r3 S2 h => ?_)
  refine z_widen (k' := 0) (n' := 0) (Nat.le_refl _) (Nat.le_refl _) ?_
  refine z_pop dJx4a65c_get_915e3_8 rfl ?_
  refine z_aload_n 0 dJx4a65c_get_915e3_9 rfl rfl ?_
  refine z_iload_n 1 dJx4a65c_get_915e3_10 rfl rfl ?_
  obtain ⟨hf6, h⟩ := h
  refine z_callVR (ci := 0) (st := []) (w_Jx4a65c_elementData_915e3 h) hf6.1 hf6.2 (Nat.le_of_ble_eq_true rfl) rfl zw_617 zw_614 zw_615 zw_616 zw_33 zy_Jx4a65c_elementData_915e3 rfl rfl ⟨Nat.le_of_ble_eq_true rfl, Nat.le_of_ble_eq_true rfl⟩ ⟨(Nat.le_of_ble_eq_true rfl), (Nat.le_of_ble_eq_true rfl)⟩ (Nat.le_of_ble_eq_true rfl) dJx4a65c_get_915e3_11 (fun _ _ hx => hx.elim) (fun r5 S4 h => ?_)
  refine z_widen (k' := 0) (n' := 0) (Nat.le_refl _) (Nat.le_refl _) ?_
  exact z_areturn (v := va_rf r5) ⟨rfl, _, rfl, h⟩ rfl (.inl ⟨_, rfl⟩) (va_rf_or _) (Nat.le_of_ble_eq_true rfl) (Nat.le_of_ble_eq_true rfl) dJx4a65c_get_915e3_14
set_option maxRecDepth 20000 in
set_option maxHeartbeats 4000000 in
theorem w_J6_bitCount_0f7a4 {E : zE} {l0 : Int32} {S : zS} {Q : Int32 → zS → Prop} {X : String → zS → Prop} (h : p_J6_bitCount_0f7a4 E l0 S Q X) : zM E yJ6_bitCount_0f7a4 cJ6_bitCount_0f7a4 1 (some .int) ({ frames := 0, cells := 0, slots := 0, locals := 0 } : Room) [.int l0] S (qI Q) X := by
  unfold p_J6_bitCount_0f7a4 at h
  refine zM_of RJ6 false (by decide) rfl (fun h => by cases h) (Nat.le_of_ble_eq_true rfl) ?_
  refine z_iload_n 0 dJ6_bitCount_0f7a4_0 rfl rfl ?_
  refine z_iload_n 0 dJ6_bitCount_0f7a4_1 rfl rfl ?_
  refine z_iconst (v := 1) dJ6_bitCount_0f7a4_2 rfl ?_
  refine z_iushr dJ6_bitCount_0f7a4_3 rfl ?_
  refine z_ldcw zw_466 dJ6_bitCount_0f7a4_4 ?_
  refine z_iand dJ6_bitCount_0f7a4_7 ?_
  refine z_isub dJ6_bitCount_0f7a4_8 ?_
  refine z_top (fun x1 hx2 => ?_)
  have h := h x1 hx2
  refine z_istore_n (lv' := [(0, .int x1)]) dJ6_bitCount_0f7a4_9 rfl (Nat.le_of_ble_eq_true rfl) rfl ?_
  refine z_iload_n 0 dJ6_bitCount_0f7a4_10 rfl rfl ?_
  refine z_ldcw zw_467 dJ6_bitCount_0f7a4_11 ?_
  refine z_iand dJ6_bitCount_0f7a4_14 ?_
  refine z_iload_n 0 dJ6_bitCount_0f7a4_15 rfl rfl ?_
  refine z_iconst (v := 2) dJ6_bitCount_0f7a4_16 rfl ?_
  refine z_iushr dJ6_bitCount_0f7a4_17 rfl ?_
  refine z_ldcw zw_467 dJ6_bitCount_0f7a4_18 ?_
  refine z_iand dJ6_bitCount_0f7a4_21 ?_
  refine z_iadd dJ6_bitCount_0f7a4_22 ?_
  refine z_top (fun x3 hx4 => ?_)
  have h := h x3 hx4
  refine z_istore_n (lv' := [(0, .int x3)]) dJ6_bitCount_0f7a4_23 rfl (Nat.le_of_ble_eq_true rfl) rfl ?_
  refine z_iload_n 0 dJ6_bitCount_0f7a4_24 rfl rfl ?_
  refine z_iload_n 0 dJ6_bitCount_0f7a4_25 rfl rfl ?_
  refine z_iconst (v := 4) dJ6_bitCount_0f7a4_26 rfl ?_
  refine z_iushr dJ6_bitCount_0f7a4_27 rfl ?_
  refine z_iadd dJ6_bitCount_0f7a4_28 ?_
  refine z_ldcw zw_468 dJ6_bitCount_0f7a4_29 ?_
  refine z_iand dJ6_bitCount_0f7a4_32 ?_
  refine z_top (fun x5 hx6 => ?_)
  have h := h x5 hx6
  refine z_istore_n (lv' := [(0, .int x5)]) dJ6_bitCount_0f7a4_33 rfl (Nat.le_of_ble_eq_true rfl) rfl ?_
  refine z_iload_n 0 dJ6_bitCount_0f7a4_34 rfl rfl ?_
  refine z_iload_n 0 dJ6_bitCount_0f7a4_35 rfl rfl ?_
  refine z_bipush (v := 8) dJ6_bitCount_0f7a4_36 rfl ?_
  refine z_iushr dJ6_bitCount_0f7a4_38 rfl ?_
  refine z_iadd dJ6_bitCount_0f7a4_39 ?_
  refine z_top (fun x7 hx8 => ?_)
  have h := h x7 hx8
  refine z_istore_n (lv' := [(0, .int x7)]) dJ6_bitCount_0f7a4_40 rfl (Nat.le_of_ble_eq_true rfl) rfl ?_
  refine z_iload_n 0 dJ6_bitCount_0f7a4_41 rfl rfl ?_
  refine z_iload_n 0 dJ6_bitCount_0f7a4_42 rfl rfl ?_
  refine z_bipush (v := 16) dJ6_bitCount_0f7a4_43 rfl ?_
  refine z_iushr dJ6_bitCount_0f7a4_45 rfl ?_
  refine z_iadd dJ6_bitCount_0f7a4_46 ?_
  refine z_top (fun x9 hx10 => ?_)
  have h := h x9 hx10
  refine z_istore_n (lv' := [(0, .int x9)]) dJ6_bitCount_0f7a4_47 rfl (Nat.le_of_ble_eq_true rfl) rfl ?_
  refine z_iload_n 0 dJ6_bitCount_0f7a4_48 rfl rfl ?_
  refine z_bipush (v := 63) dJ6_bitCount_0f7a4_49 rfl ?_
  refine z_iand dJ6_bitCount_0f7a4_51 ?_
  exact z_ireturn ⟨rfl, _, rfl, h⟩ rfl (Nat.le_of_ble_eq_true rfl) (Nat.le_of_ble_eq_true rfl) dJ6_bitCount_0f7a4_52
set_option maxRecDepth 20000 in
set_option maxHeartbeats 4000000 in
theorem w_Jx4a65c_fastRemove_b59b0 {E : zE} {a0 : Nat} {a1 : Nat} {l2 : Int32} {S : zS} {Q : zS → Prop} {X : String → zS → Prop} (h : p_Jx4a65c_fastRemove_b59b0 E a0 a1 l2 S Q X) : zM E yJx4a65c_fastRemove_b59b0 cJx4a65c_fastRemove_b59b0 4 none ({ frames := 1, cells := 0, slots := 0, locals := 40 } : Room) [.ref a0, .ref a1, .int l2] S (qV Q) X := by
  unfold p_Jx4a65c_fastRemove_b59b0 at h
  refine zM_of RJx4a65c false (by decide) rfl (fun h => by cases h) (Nat.le_of_ble_eq_true rfl) ?_
  refine z_aload_n 0 dJx4a65c_fastRemove_b59b0_0 rfl rfl ?_
  refine z_dup dJx4a65c_fastRemove_b59b0_1 rfl ?_
  obtain ⟨hf1, h⟩ := h
  refine z_getI (c := 0) (j := 0) (f := 0) hf1.1 hf1.2 (Nat.le_of_ble_eq_true rfl) rfl zU_Jx4a65c (Nat.le_of_ble_eq_true rfl) (Nat.le_of_ble_eq_true rfl) ⟨_, zw_82, Or.inr zw_83⟩ rfl rfl dJx4a65c_fastRemove_b59b0_2 ?_
  refine z_iconst (v := 1) dJx4a65c_fastRemove_b59b0_5 rfl ?_
  refine z_iadd dJx4a65c_fastRemove_b59b0_6 ?_
  have h := h _ rfl
  refine z_putV (c := 0) (j := 0) (ty0 := tyJx4a65c) (S' := sI S 0 a0 ((gI S 0 a0) + 1)) hf1.1 hf1.2 (Nat.le_of_ble_eq_true rfl) rfl zU_Jx4a65c tyJx4a65c_ok nmJx4a65c (Nat.le_of_ble_eq_true rfl) (Nat.le_of_ble_eq_true rfl) ⟨_, zw_82, Or.inr zw_83⟩ (.inl rfl) rfl rfl rfl (zUpI (v := ((gI S 0 a0) + 1)) hf1.2 (Nat.le_of_ble_eq_true rfl) (Nat.le_of_ble_eq_true rfl) rfl rfl) dJx4a65c_fastRemove_b59b0_7 ?_
  obtain ⟨S2, hS3⟩ : ∃ z, z = sI S 0 a0 ((gI S 0 a0) + 1) := ⟨_, rfl⟩
  rw [← hS3] at h ⊢
  have hf1 : a0 ∈ gL S2 ∧ gK S2 a0 = 0 := by rw [hS3]; exact hf1
  refine z_aload_n 0 dJx4a65c_fastRemove_b59b0_10 rfl rfl ?_
  refine z_getI (c := 0) (j := 2) (f := 2) hf1.1 hf1.2 (Nat.le_of_ble_eq_true rfl) rfl zU_Jx4a65c (Nat.le_of_ble_eq_true rfl) (Nat.le_of_ble_eq_true rfl) ⟨_, zw_80, Or.inl rfl⟩ rfl rfl dJx4a65c_fastRemove_b59b0_11 ?_
  refine z_iconst (v := 1) dJx4a65c_fastRemove_b59b0_14 rfl ?_
  refine z_isub dJx4a65c_fastRemove_b59b0_15 ?_
  refine z_dup dJx4a65c_fastRemove_b59b0_16 rfl ?_
  refine z_istore_n (lv' := [(3, .int ((gI S2 2 a0) - 1)), (0, .ref a0), (1, .ref a1), (2, .int l2)]) dJx4a65c_fastRemove_b59b0_17 rfl (Nat.le_of_ble_eq_true rfl) rfl ?_
  refine z_iload_n 3 dJx4a65c_fastRemove_b59b0_18 rfl rfl ?_
  refine z_icmp_le 34 dJx4a65c_fastRemove_b59b0_19 (by decide) (fun c27 => ?_) (fun c27 => ?_)
  · have h := h.1 c27
    refine z_aload_n 2 dJx4a65c_fastRemove_b59b0_34 rfl rfl ?_
    refine z_aload_n 1 dJx4a65c_fastRemove_b59b0_35 rfl rfl ?_
    refine z_iload_n 0 dJx4a65c_fastRemove_b59b0_36 rfl rfl ?_
    refine z_dup_x1 dJx4a65c_fastRemove_b59b0_37 rfl rfl ?_
    have h := h _ rfl
    refine z_putV (c := 0) (j := 2) (ty0 := tyJx4a65c) (S' := sI S2 2 a0 ((gI S2 2 a0) - 1)) hf1.1 hf1.2 (Nat.le_of_ble_eq_true rfl) rfl zU_Jx4a65c tyJx4a65c_ok nmJx4a65c (Nat.le_of_ble_eq_true rfl) (Nat.le_of_ble_eq_true rfl) ⟨_, zw_80, Or.inl rfl⟩ (.inl rfl) rfl rfl rfl (zUpI (v := ((gI S2 2 a0) - 1)) hf1.2 (Nat.le_of_ble_eq_true rfl) (Nat.le_of_ble_eq_true rfl) rfl rfl) dJx4a65c_fastRemove_b59b0_38 ?_
    obtain ⟨S4, hS5⟩ : ∃ z, z = sI S2 2 a0 ((gI S2 2 a0) - 1) := ⟨_, rfl⟩
    rw [← hS5] at h ⊢
    have hf1 : a0 ∈ gL S4 ∧ gK S4 a0 = 0 := by rw [hS5]; exact hf1
    refine z_null dJx4a65c_fastRemove_b59b0_41 ?_
    obtain ⟨hf6, h⟩ := h
    obtain ⟨j7, hj8, h⟩ := h
    have h := h _ rfl
    refine z_aastN (j := j7) hf6.1 hf6.2 hj8.1 hj8.2.1 hj8.2.2 dJx4a65c_fastRemove_b59b0_42 ?_
    obtain ⟨S9, hS10⟩ : ∃ z, z = sQ S4 a1 j7 none := ⟨_, rfl⟩
    rw [← hS10] at h ⊢
    have hf1 : a0 ∈ gL S9 ∧ gK S9 a0 = 0 := by rw [hS10]; exact hf1
    have hf6 : a1 ∈ gL S9 ∧ gK S9 a1 = 16 := by rw [hS10]; exact hf6
    exact z_return ⟨rfl, rfl, h⟩ rfl (Nat.le_of_ble_eq_true rfl) (Nat.le_of_ble_eq_true rfl) dJx4a65c_fastRemove_b59b0_43
  · have h := h.2 c27
    refine z_aload_n 2 dJx4a65c_fastRemove_b59b0_22 rfl rfl ?_
    refine z_iload_n 3 dJx4a65c_fastRemove_b59b0_23 rfl rfl ?_
    refine z_iconst (v := 1) dJx4a65c_fastRemove_b59b0_24 rfl ?_
    refine z_iadd dJx4a65c_fastRemove_b59b0_25 ?_
    refine z_aload_n 2 dJx4a65c_fastRemove_b59b0_26 rfl rfl ?_
    refine z_iload_n 3 dJx4a65c_fastRemove_b59b0_27 rfl rfl ?_
    refine z_iload_n 0 dJx4a65c_fastRemove_b59b0_28 rfl rfl ?_
    refine z_iload_n 3 dJx4a65c_fastRemove_b59b0_29 rfl rfl ?_
    refine z_isub dJx4a65c_fastRemove_b59b0_30 ?_
    obtain ⟨hf19, h⟩ := h
    obtain ⟨sp12, dp13, n14, ci15, hc16, h⟩ := h
    have h := h _ rfl
    refine z_acopy (ci := ci15) hf19.1 hf19.2 hf19.1 hf19.2 hc16.1 hc16.2.1 hc16.2.2.1 hc16.2.2.2.1 hc16.2.2.2.2.1 hc16.2.2.2.2.2.1 hc16.2.2.2.2.2.2.1 hc16.2.2.2.2.2.2.2.1 hc16.2.2.2.2.2.2.2.2 zw_702 zw_563 zw_562 zw_55 (Nat.le_of_ble_eq_true rfl) (Nat.le_of_ble_eq_true rfl) dJx4a65c_fastRemove_b59b0_31 ?_
    obtain ⟨S17, hS18⟩ : ∃ z, z = sC S2 a1 (va_cpy (gQ S2 a1) (gQ S2 a1) sp12 dp13 n14) := ⟨_, rfl⟩
    rw [← hS18] at h ⊢
    have hf1 : a0 ∈ gL S17 ∧ gK S17 a0 = 0 := by rw [hS18]; exact hf1
    have hf19 : a1 ∈ gL S17 ∧ gK S17 a1 = 16 := by rw [hS18]; exact hf19
    refine z_aload_n 2 dJx4a65c_fastRemove_b59b0_34 rfl rfl ?_
    refine z_aload_n 1 dJx4a65c_fastRemove_b59b0_35 rfl rfl ?_
    refine z_iload_n 0 dJx4a65c_fastRemove_b59b0_36 rfl rfl ?_
    refine z_dup_x1 dJx4a65c_fastRemove_b59b0_37 rfl rfl ?_
    have h := h _ rfl
    refine z_putV (c := 0) (j := 2) (ty0 := tyJx4a65c) (S' := sI S17 2 a0 ((gI S2 2 a0) - 1)) hf1.1 hf1.2 (Nat.le_of_ble_eq_true rfl) rfl zU_Jx4a65c tyJx4a65c_ok nmJx4a65c (Nat.le_of_ble_eq_true rfl) (Nat.le_of_ble_eq_true rfl) ⟨_, zw_80, Or.inl rfl⟩ (.inl rfl) rfl rfl rfl (zUpI (v := ((gI S2 2 a0) - 1)) hf1.2 (Nat.le_of_ble_eq_true rfl) (Nat.le_of_ble_eq_true rfl) rfl rfl) dJx4a65c_fastRemove_b59b0_38 ?_
    obtain ⟨S20, hS21⟩ : ∃ z, z = sI S17 2 a0 ((gI S2 2 a0) - 1) := ⟨_, rfl⟩
    rw [← hS21] at h ⊢
    have hf1 : a0 ∈ gL S20 ∧ gK S20 a0 = 0 := by rw [hS21]; exact hf1
    have hf19 : a1 ∈ gL S20 ∧ gK S20 a1 = 16 := by rw [hS21]; exact hf19
    refine z_null dJx4a65c_fastRemove_b59b0_41 ?_
    obtain ⟨j22, hj23, h⟩ := h
    have h := h _ rfl
    refine z_aastN (j := j22) hf19.1 hf19.2 hj23.1 hj23.2.1 hj23.2.2 dJx4a65c_fastRemove_b59b0_42 ?_
    obtain ⟨S24, hS25⟩ : ∃ z, z = sQ S20 a1 j22 none := ⟨_, rfl⟩
    rw [← hS25] at h ⊢
    have hf1 : a0 ∈ gL S24 ∧ gK S24 a0 = 0 := by rw [hS25]; exact hf1
    have hf19 : a1 ∈ gL S24 ∧ gK S24 a1 = 16 := by rw [hS25]; exact hf19
    exact z_return ⟨rfl, rfl, h⟩ rfl (Nat.le_of_ble_eq_true rfl) (Nat.le_of_ble_eq_true rfl) dJx4a65c_fastRemove_b59b0_43
set_option maxRecDepth 20000 in
set_option maxHeartbeats 4000000 in
theorem w_Jx4a65c_remove_915e3 {E : zE} {a0 : Nat} {l1 : Int32} {S : zS} {Q : Option Nat → zS → Prop} {X : String → zS → Prop} (h : p_Jx4a65c_remove_915e3 E a0 l1 S Q X) : zM E yJx4a65c_remove_915e3 cJx4a65c_remove_915e3 4 (some (.object "java/lang/Object")) ({ frames := 2, cells := 0, slots := 0, locals := 63 } : Room) [.ref a0, .int l1] S (qR Q) X := by
  unfold p_Jx4a65c_remove_915e3 at h
  refine zM_of RJx4a65c false (by decide) rfl (fun h => by cases h) (Nat.le_of_ble_eq_true rfl) ?_
  refine z_iload_n 1 dJx4a65c_remove_915e3_0 rfl rfl ?_
  refine z_aload_n 0 dJx4a65c_remove_915e3_1 rfl rfl ?_
  obtain ⟨hf1, h⟩ := h
  refine z_getI (c := 0) (j := 2) (f := 2) hf1.1 hf1.2 (Nat.le_of_ble_eq_true rfl) rfl zU_Jx4a65c (Nat.le_of_ble_eq_true rfl) (Nat.le_of_ble_eq_true rfl) ⟨_, zw_80, Or.inl rfl⟩ rfl rfl dJx4a65c_remove_915e3_2 ?_
  refine z_callSI (st := []) (w_J15_checkIndex_7cf53 h) zw_610 zw_608 zw_609 zw_45 zy_J15_checkIndex_7cf53 rfl rfl ⟨Nat.le_of_ble_eq_true rfl, Nat.le_of_ble_eq_true rfl⟩ ⟨(Nat.le_of_ble_eq_true rfl), (Nat.le_of_ble_eq_true rfl)⟩ (Nat.le_of_ble_eq_true rfl) dJx4a65c_remove_915e3_5 (fun _ _ hx => hx.elim) (fun r3 S2 h => ?_)
  refine z_widen (k' := 0) (n' := 0) (Nat.le_refl _) (Nat.le_refl _) ?_
  refine z_pop dJx4a65c_remove_915e3_8 rfl ?_
  refine z_aload_n 0 dJx4a65c_remove_915e3_9 rfl rfl ?_
  obtain ⟨hf4, h⟩ := h
  refine z_getQ (c := 0) (j := 1) (f := 1) hf4.1 hf4.2 (Nat.le_of_ble_eq_true rfl) rfl zU_Jx4a65c (Nat.le_of_ble_eq_true rfl) (Nat.le_of_ble_eq_true rfl) ⟨_, zw_79, Or.inl rfl⟩ rfl rfl dJx4a65c_remove_915e3_10 ?_
  refine z_astore_nQ (lv' := [(2, va_rf (gR S2 1 a0)), (0, .ref a0), (1, .int l1)]) dJx4a65c_remove_915e3_13 rfl (Nat.le_of_ble_eq_true rfl) rfl ?_
  refine z_aload_nQ 0 dJx4a65c_remove_915e3_14 rfl rfl ?_
  refine z_iload_n 2 dJx4a65c_remove_915e3_15 rfl rfl ?_
  obtain ⟨b5, hb6, h⟩ := h
  rw [show va_rf (gR S2 1 a0) = Value.ref b5 from by rw [hb6]; rfl]
  obtain ⟨hf7, h⟩ := h
  obtain ⟨j8, hj9, h⟩ := h
  refine z_aald (j := j8) hf7.1 rfl hf7.2.1 hf7.2.2 hj9.1 hj9.2.1 hj9.2.2 dJx4a65c_remove_915e3_16 ?_
  refine z_astore_nQ (lv' := [(3, va_rf (gQ S2 b5 j8)), (2, .ref b5), (0, .ref a0), (1, .int l1)]) dJx4a65c_remove_915e3_17 rfl (Nat.le_of_ble_eq_true rfl) rfl ?_
  refine z_aload_n 2 dJx4a65c_remove_915e3_18 rfl rfl ?_
  refine z_aload_n 1 dJx4a65c_remove_915e3_19 rfl rfl ?_
  refine z_iload_n 3 dJx4a65c_remove_915e3_20 rfl rfl ?_
  refine z_callVV (ci := 0) (st := []) (w_Jx4a65c_fastRemove_b59b0 h) hf4.1 hf4.2 (Nat.le_of_ble_eq_true rfl) rfl zw_701 zw_698 zw_700 zw_12 zw_33 zy_Jx4a65c_fastRemove_b59b0 rfl rfl ⟨Nat.le_of_ble_eq_true rfl, Nat.le_of_ble_eq_true rfl⟩ ⟨(Nat.le_of_ble_eq_true rfl), (Nat.le_of_ble_eq_true rfl)⟩ (Nat.le_of_ble_eq_true rfl) dJx4a65c_remove_915e3_21 (fun _ _ hx => hx.elim) (fun S10 h => ?_)
  refine z_widen (k' := 0) (n' := 0) (Nat.le_refl _) (Nat.le_refl _) ?_
  refine z_aload_nQ 0 dJx4a65c_remove_915e3_24 rfl rfl ?_
  exact z_areturn (v := va_rf (gQ S2 b5 j8)) ⟨rfl, _, rfl, h⟩ rfl (.inl ⟨_, rfl⟩) (va_rf_or _) (Nat.le_of_ble_eq_true rfl) (Nat.le_of_ble_eq_true rfl) dJx4a65c_remove_915e3_25
set_option maxRecDepth 20000 in
set_option maxHeartbeats 4000000 in
theorem w_Jx4a65c_isEmpty_aae02 {E : zE} {a0 : Nat} {S : zS} {Q : Int32 → zS → Prop} {X : String → zS → Prop} (h : p_Jx4a65c_isEmpty_aae02 E a0 S Q X) : zM E yJx4a65c_isEmpty_aae02 cJx4a65c_isEmpty_aae02 1 (some .boolean) ({ frames := 0, cells := 0, slots := 0, locals := 0 } : Room) [.ref a0] S (qI Q) X := by
  unfold p_Jx4a65c_isEmpty_aae02 at h
  refine zM_of RJx4a65c false (by decide) rfl (fun h => by cases h) (Nat.le_of_ble_eq_true rfl) ?_
  refine z_aload_n 0 dJx4a65c_isEmpty_aae02_0 rfl rfl ?_
  obtain ⟨hf1, h⟩ := h
  refine z_getI (c := 0) (j := 2) (f := 2) hf1.1 hf1.2 (Nat.le_of_ble_eq_true rfl) rfl zU_Jx4a65c (Nat.le_of_ble_eq_true rfl) (Nat.le_of_ble_eq_true rfl) ⟨_, zw_80, Or.inl rfl⟩ rfl rfl dJx4a65c_isEmpty_aae02_1 ?_
  refine z_if_ne 11 dJx4a65c_isEmpty_aae02_4 (by decide) (fun c4 => ?_) (fun c4 => ?_)
  · have h := h.1 c4
    refine z_iconst (v := 0) dJx4a65c_isEmpty_aae02_11 rfl ?_
    obtain ⟨hz2, h⟩ := h
    exact z_zreturn ⟨rfl, _, rfl, h⟩ rfl (zbn hz2) (Nat.le_of_ble_eq_true rfl) (Nat.le_of_ble_eq_true rfl) dJx4a65c_isEmpty_aae02_12
  · have h := h.2 c4
    refine z_iconst (v := 1) dJx4a65c_isEmpty_aae02_7 rfl ?_
    refine z_goto 12 dJx4a65c_isEmpty_aae02_8 (by decide) ?_
    obtain ⟨hz3, h⟩ := h
    exact z_zreturn ⟨rfl, _, rfl, h⟩ rfl (zbn hz3) (Nat.le_of_ble_eq_true rfl) (Nat.le_of_ble_eq_true rfl) dJx4a65c_isEmpty_aae02_12
