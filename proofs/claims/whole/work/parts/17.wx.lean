set_option maxRecDepth 20000 in
set_option maxHeartbeats 4000000 in
theorem w_X11_laysPlain_L12 {E : zE} {K57 : zS → Prop} {Q : zS → Prop} {X : String → zS → Prop} (hK57 : ∀  (S : zS), K57  S → zJ E (RX11, cX11_laysPlain, 4, none, false, [], zTr) ({ frames := 2, cells := 0, slots := 0, locals := 45 } : Room) (zq (qV Q)) (zx X) 57 [] [] [] S 0 0) : ∀ (m12 : Nat) (a0 : Nat) (l1 : Int32) (l2 : Int32) (l3 : Int32) (S : zS), p_X11_laysPlain_L12 E K57 Q X m12 a0 l1 l2 l3 S → zJ E (RX11, cX11_laysPlain, 4, none, false, [], zTr) ({ frames := 2, cells := 0, slots := 0, locals := 45 } : Room) (zq (qV Q)) (zx X) 12 [(0, .ref a0), (1, .int l1), (2, .int l2), (3, .int l3)] [] [] S 0 0 := by
  intro m12
  induction m12 with
  | zero => intro a0 l1 l2 l3 S h; exact (show False from h).elim
  | succ m12 ih =>
    intro a0 l1 l2 l3 S h
    unfold p_X11_laysPlain_L12 at h
    refine z_iload_n 3 dX11_laysPlain_12 rfl rfl ?_
    refine z_aload_n 0 dX11_laysPlain_13 rfl rfl ?_
    obtain ⟨hf9, h⟩ := h
    refine z_getQ (c := 11) (j := 5) (f := 1105) hf9.1 hf9.2 (Nat.le_of_ble_eq_true rfl) rfl zU_X11 (Nat.le_of_ble_eq_true rfl) (Nat.le_of_ble_eq_true rfl) ⟨_, zw_1303, Or.inl rfl⟩ rfl rfl dX11_laysPlain_14 ?_
    refine z_iload_n 1 dX11_laysPlain_17 rfl rfl ?_
    obtain ⟨b10, hb11, h⟩ := h
    rw [show va_rf (gR S 1105 a0) = Value.ref b10 from by rw [hb11]; rfl]
    obtain ⟨hf12, h⟩ := h
    obtain ⟨j13, hj14, h⟩ := h
    refine z_iald (j := j13) hf12.1 hf12.2 hj14.1 hj14.2.1 hj14.2.2 dX11_laysPlain_18 ?_
    refine z_icmp_ge 57 dX11_laysPlain_19 (by decide) (fun c36 => ?_) (fun c36 => ?_)
    · have h := h.1 c36
      refine z_sub [] rfl ?_
      exact hK57 S h
    · have h := h.2 c36
      refine z_iload_n 2 dX11_laysPlain_22 rfl rfl ?_
      refine z_aload_n 0 dX11_laysPlain_23 rfl rfl ?_
      refine z_getQ (c := 11) (j := 4) (f := 1104) hf9.1 hf9.2 (Nat.le_of_ble_eq_true rfl) rfl zU_X11 (Nat.le_of_ble_eq_true rfl) (Nat.le_of_ble_eq_true rfl) ⟨_, zw_1302, Or.inl rfl⟩ rfl rfl dX11_laysPlain_24 ?_
      refine z_iload_n 1 dX11_laysPlain_27 rfl rfl ?_
      obtain ⟨b15, hb16, h⟩ := h
      rw [show va_rf (gR S 1104 a0) = Value.ref b15 from by rw [hb16]; rfl]
      obtain ⟨hf17, h⟩ := h
      obtain ⟨j18, hj19, h⟩ := h
      refine z_iald (j := j18) hf17.1 hf17.2 hj19.1 hj19.2.1 hj19.2.2 dX11_laysPlain_28 ?_
      refine z_aload_n 0 dX11_laysPlain_29 rfl rfl ?_
      refine z_getQ (c := 11) (j := 6) (f := 1106) hf9.1 hf9.2 (Nat.le_of_ble_eq_true rfl) rfl zU_X11 (Nat.le_of_ble_eq_true rfl) (Nat.le_of_ble_eq_true rfl) ⟨_, zw_1304, Or.inl rfl⟩ rfl rfl dX11_laysPlain_30 ?_
      refine z_bipush (v := 12) dX11_laysPlain_33 rfl ?_
      refine z_iload_n 1 dX11_laysPlain_35 rfl rfl ?_
      refine z_imul dX11_laysPlain_36 ?_
      refine z_iload_n 3 dX11_laysPlain_37 rfl rfl ?_
      refine z_iadd dX11_laysPlain_38 ?_
      obtain ⟨b20, hb21, h⟩ := h
      rw [show va_rf (gR S 1106 a0) = Value.ref b20 from by rw [hb21]; rfl]
      obtain ⟨hf22, h⟩ := h
      obtain ⟨j23, hj24, h⟩ := h
      refine z_iald (j := j23) hf22.1 hf22.2 hj24.1 hj24.2.1 hj24.2.2 dX11_laysPlain_39 ?_
      refine z_callSI (st := []) (w_X11_changed h) zw_1488 zw_1486 zw_1487 zw_74 zy_X11_changed rfl rfl ⟨Nat.le_of_ble_eq_true rfl, Nat.le_of_ble_eq_true rfl⟩ ⟨(Nat.le_of_ble_eq_true rfl), (Nat.le_of_ble_eq_true rfl)⟩ (Nat.le_of_ble_eq_true rfl) dX11_laysPlain_40 (fun _ _ hx => hx.elim) (fun r26 S25 h => ?_)
      refine z_widen (k' := 0) (n' := 0) (Nat.le_refl _) (Nat.le_refl _) ?_
      refine z_istore_n (lv' := [(2, .int r26), (0, .ref a0), (1, .int l1), (3, .int l3)]) dX11_laysPlain_43 rfl (Nat.le_of_ble_eq_true rfl) rfl ?_
      refine z_aload_n 1 dX11_laysPlain_44 rfl rfl ?_
      obtain ⟨hf27, h⟩ := h
      refine z_getQ (c := 11) (j := 15) (f := 1115) hf27.1 hf27.2 (Nat.le_of_ble_eq_true rfl) rfl zU_X11 (Nat.le_of_ble_eq_true rfl) (Nat.le_of_ble_eq_true rfl) ⟨_, zw_1313, Or.inl rfl⟩ rfl rfl dX11_laysPlain_45 ?_
      refine z_iload_n 3 dX11_laysPlain_48 rfl rfl ?_
      refine z_iload_n 0 dX11_laysPlain_49 rfl rfl ?_
      obtain ⟨b28, hb29, h⟩ := h
      rw [show va_rf (gR S25 1115 a0) = Value.ref b28 from by rw [hb29]; rfl]
      obtain ⟨hf30, h⟩ := h
      obtain ⟨j31, hj32, h⟩ := h
      have h := h _ rfl
      refine z_iast (j := j31) hf30.1 hf30.2 hj32.1 hj32.2.1 hj32.2.2 dX11_laysPlain_50 ?_
      obtain ⟨S33, hS34⟩ : ∃ z, z = sA S25 b28 j31 r26 := ⟨_, rfl⟩
      rw [← hS34] at h ⊢
      have hf27 : a0 ∈ gL S33 ∧ gK S33 a0 = 11 := by rw [hS34]; exact hf27
      have hf30 : b28 ∈ gL S33 ∧ gK S33 b28 = 12 := by rw [hS34]; exact hf30
      refine z_iinc (v := (l3 + 1)) (lv' := [(3, .int (l3 + 1)), (2, .int r26), (0, .ref a0), (1, .int l1)]) 3 dX11_laysPlain_51 rfl rfl (Nat.le_of_ble_eq_true rfl) rfl ?_
      refine z_goto 12 dX11_laysPlain_54 (by decide) ?_
      refine z_sub [2, 3, 1, 0] rfl ?_
      exact ih a0 l1 r26 (l3 + 1) S33 h
set_option maxRecDepth 20000 in
set_option maxHeartbeats 4000000 in
theorem w_X11_laysPlain {E : zE} {a0 : Nat} {l1 : Int32} {S : zS} {Q : zS → Prop} {X : String → zS → Prop} (h : p_X11_laysPlain E a0 l1 S Q X) : zM E yX11_laysPlain cX11_laysPlain 4 none ({ frames := 2, cells := 0, slots := 0, locals := 45 } : Room) [.ref a0, .int l1] S (qV Q) X := by
  unfold p_X11_laysPlain at h
  refine zM_of RX11 false (by decide) rfl (fun h => by cases h) (Nat.le_of_ble_eq_true rfl) ?_
  refine z_aload_n 0 dX11_laysPlain_0 rfl rfl ?_
  obtain ⟨hf1, h⟩ := h
  refine z_getQ (c := 11) (j := 4) (f := 1104) hf1.1 hf1.2 (Nat.le_of_ble_eq_true rfl) rfl zU_X11 (Nat.le_of_ble_eq_true rfl) (Nat.le_of_ble_eq_true rfl) ⟨_, zw_1302, Or.inl rfl⟩ rfl rfl dX11_laysPlain_1 ?_
  refine z_iload_n 1 dX11_laysPlain_4 rfl rfl ?_
  obtain ⟨b2, hb3, h⟩ := h
  rw [show va_rf (gR S 1104 a0) = Value.ref b2 from by rw [hb3]; rfl]
  obtain ⟨hf4, h⟩ := h
  obtain ⟨j5, hj6, h⟩ := h
  refine z_iald (j := j5) hf4.1 hf4.2 hj6.1 hj6.2.1 hj6.2.2 dX11_laysPlain_5 ?_
  refine z_callSI (st := []) (w_X11_rounds h) zw_1481 zw_1479 zw_1480 zw_74 zy_X11_rounds rfl rfl ⟨Nat.le_of_ble_eq_true rfl, Nat.le_of_ble_eq_true rfl⟩ ⟨(Nat.le_of_ble_eq_true rfl), (Nat.le_of_ble_eq_true rfl)⟩ (Nat.le_of_ble_eq_true rfl) dX11_laysPlain_6 (fun _ _ hx => hx.elim) (fun r8 S7 h => ?_)
  refine z_widen (k' := 0) (n' := 0) (Nat.le_refl _) (Nat.le_refl _) ?_
  refine z_istore_n (lv' := [(2, .int r8), (0, .ref a0), (1, .int l1)]) dX11_laysPlain_9 rfl (Nat.le_of_ble_eq_true rfl) rfl ?_
  refine z_iconst (v := 0) dX11_laysPlain_10 rfl ?_
  refine z_istore_n (lv' := [(3, .int 0), (2, .int r8), (0, .ref a0), (1, .int l1)]) dX11_laysPlain_11 rfl (Nat.le_of_ble_eq_true rfl) rfl ?_
  obtain ⟨m12, h⟩ := h
  refine z_sub [2, 3, 1, 0] rfl ?_
  refine w_X11_laysPlain_L12 (fun S h => ?_) m12 a0 l1 r8 0 S7 h
  exact z_return ⟨rfl, rfl, h⟩ rfl (Nat.le_of_ble_eq_true rfl) (Nat.le_of_ble_eq_true rfl) dX11_laysPlain_57
set_option maxRecDepth 20000 in
set_option maxHeartbeats 4000000 in
theorem w_X11_clashes_L47 {E : zE} {K86 : Nat → Int32 → Int32 → Int32 → Int32 → Int32 → zS → Prop} {Q : Int32 → zS → Prop} {X : String → zS → Prop} (hK86 : ∀ (a0 : Nat) (l1 : Int32) (l2 : Int32) (l3 : Int32) (l4 : Int32) (l5 : Int32) (S : zS), K86 a0 l1 l2 l3 l4 l5 S → zJ E (RX11, cX11_clashes, 7, (some .boolean), false, [], zTr) ({ frames := 2, cells := 0, slots := 0, locals := 45 } : Room) (zq (qI Q)) (zx X) 86 [(0, .ref a0), (1, .int l1), (2, .int l2), (3, .int l3), (4, .int l4), (5, .int l5)] [] [] S 0 0) : ∀ (m47 : Nat) (a0 : Nat) (l1 : Int32) (l2 : Int32) (l3 : Int32) (l4 : Int32) (l5 : Int32) (l6 : Int32) (S : zS), p_X11_clashes_L47 E K86 Q X m47 a0 l1 l2 l3 l4 l5 l6 S → zJ E (RX11, cX11_clashes, 7, (some .boolean), false, [], zTr) ({ frames := 2, cells := 0, slots := 0, locals := 45 } : Room) (zq (qI Q)) (zx X) 47 [(0, .ref a0), (1, .int l1), (2, .int l2), (3, .int l3), (4, .int l4), (5, .int l5), (6, .int l6)] [] [] S 0 0 := by
  intro m47
  induction m47 with
  | zero => intro a0 l1 l2 l3 l4 l5 l6 S h; exact (show False from h).elim
  | succ m47 ih =>
    intro a0 l1 l2 l3 l4 l5 l6 S h
    unfold p_X11_clashes_L47 at h
    refine z_iload 6 dX11_clashes_47 rfl ?_
    refine z_aload_n 0 dX11_clashes_49 rfl rfl ?_
    obtain ⟨hf19, h⟩ := h
    refine z_getQ (c := 11) (j := 5) (f := 1105) hf19.1 hf19.2 (Nat.le_of_ble_eq_true rfl) rfl zU_X11 (Nat.le_of_ble_eq_true rfl) (Nat.le_of_ble_eq_true rfl) ⟨_, zw_1303, Or.inl rfl⟩ rfl rfl dX11_clashes_50 ?_
    refine z_iload_n 1 dX11_clashes_53 rfl rfl ?_
    obtain ⟨b20, hb21, h⟩ := h
    rw [show va_rf (gR S 1105 a0) = Value.ref b20 from by rw [hb21]; rfl]
    obtain ⟨hf22, h⟩ := h
    obtain ⟨j23, hj24, h⟩ := h
    refine z_iald (j := j23) hf22.1 hf22.2 hj24.1 hj24.2.1 hj24.2.2 dX11_clashes_54 ?_
    refine z_icmp_ge 86 dX11_clashes_55 (by decide) (fun c32 => ?_) (fun c32 => ?_)
    · have h := h.1 c32
      refine z_sub [0, 1, 2, 3, 4, 5] rfl ?_
      exact hK86 a0 l1 l2 l3 l4 l5 S h
    · have h := h.2 c32
      refine z_iload_n 3 dX11_clashes_58 rfl rfl ?_
      refine z_if_ne 74 dX11_clashes_59 (by decide) (fun c31 => ?_) (fun c31 => ?_)
      · have h := h.1 c31
        refine z_iconst (v := 1) dX11_clashes_74 rfl ?_
        refine z_goto 79 dX11_clashes_75 (by decide) ?_
        refine z_istore_n (lv' := [(3, .int 1), (0, .ref a0), (1, .int l1), (2, .int l2), (4, .int l4), (5, .int l5), (6, .int l6)]) dX11_clashes_79 rfl (Nat.le_of_ble_eq_true rfl) rfl ?_
        refine z_iinc (v := (l6 + 1)) (lv' := [(6, .int (l6 + 1)), (3, .int 1), (0, .ref a0), (1, .int l1), (2, .int l2), (4, .int l4), (5, .int l5)]) 6 dX11_clashes_80 rfl rfl (Nat.le_of_ble_eq_true rfl) rfl ?_
        refine z_goto 47 dX11_clashes_83 (by decide) ?_
        refine z_sub [2, 3, 4, 1, 5, 6, 0] rfl ?_
        exact ih a0 l1 l2 1 l4 l5 (l6 + 1) S h
      · have h := h.2 c31
        refine z_iload 4 dX11_clashes_62 rfl ?_
        refine z_aload_n 0 dX11_clashes_64 rfl rfl ?_
        refine z_getQ (c := 11) (j := 15) (f := 1115) hf19.1 hf19.2 (Nat.le_of_ble_eq_true rfl) rfl zU_X11 (Nat.le_of_ble_eq_true rfl) (Nat.le_of_ble_eq_true rfl) ⟨_, zw_1313, Or.inl rfl⟩ rfl rfl dX11_clashes_65 ?_
        refine z_iload 6 dX11_clashes_68 rfl ?_
        obtain ⟨b25, hb26, h⟩ := h
        rw [show va_rf (gR S 1115 a0) = Value.ref b25 from by rw [hb26]; rfl]
        obtain ⟨hf27, h⟩ := h
        obtain ⟨j28, hj29, h⟩ := h
        refine z_iald (j := j28) hf27.1 hf27.2 hj29.1 hj29.2.1 hj29.2.2 dX11_clashes_70 ?_
        refine z_icmp_ne 78 dX11_clashes_71 (by decide) (fun c30 => ?_) (fun c30 => ?_)
        · have h := h.1 c30
          refine z_iconst (v := 0) dX11_clashes_78 rfl ?_
          refine z_istore_n (lv' := [(3, .int 0), (0, .ref a0), (1, .int l1), (2, .int l2), (4, .int l4), (5, .int l5), (6, .int l6)]) dX11_clashes_79 rfl (Nat.le_of_ble_eq_true rfl) rfl ?_
          refine z_iinc (v := (l6 + 1)) (lv' := [(6, .int (l6 + 1)), (3, .int 0), (0, .ref a0), (1, .int l1), (2, .int l2), (4, .int l4), (5, .int l5)]) 6 dX11_clashes_80 rfl rfl (Nat.le_of_ble_eq_true rfl) rfl ?_
          refine z_goto 47 dX11_clashes_83 (by decide) ?_
          refine z_sub [2, 3, 4, 1, 5, 6, 0] rfl ?_
          exact ih a0 l1 l2 0 l4 l5 (l6 + 1) S h
        · have h := h.2 c30
          refine z_iconst (v := 1) dX11_clashes_74 rfl ?_
          refine z_goto 79 dX11_clashes_75 (by decide) ?_
          refine z_istore_n (lv' := [(3, .int 1), (0, .ref a0), (1, .int l1), (2, .int l2), (4, .int l4), (5, .int l5), (6, .int l6)]) dX11_clashes_79 rfl (Nat.le_of_ble_eq_true rfl) rfl ?_
          refine z_iinc (v := (l6 + 1)) (lv' := [(6, .int (l6 + 1)), (3, .int 1), (0, .ref a0), (1, .int l1), (2, .int l2), (4, .int l4), (5, .int l5)]) 6 dX11_clashes_80 rfl rfl (Nat.le_of_ble_eq_true rfl) rfl ?_
          refine z_goto 47 dX11_clashes_83 (by decide) ?_
          refine z_sub [2, 3, 4, 1, 5, 6, 0] rfl ?_
          exact ih a0 l1 l2 1 l4 l5 (l6 + 1) S h
set_option maxRecDepth 20000 in
set_option maxHeartbeats 4000000 in
theorem w_X11_clashes_L8 {E : zE} {K92 : Nat → Int32 → Int32 → Int32 → zS → Prop} {Q : Int32 → zS → Prop} {X : String → zS → Prop} (hK92 : ∀ (a0 : Nat) (l1 : Int32) (l2 : Int32) (l3 : Int32) (S : zS), K92 a0 l1 l2 l3 S → zJ E (RX11, cX11_clashes, 7, (some .boolean), false, [], zTr) ({ frames := 2, cells := 0, slots := 0, locals := 45 } : Room) (zq (qI Q)) (zx X) 92 [(0, .ref a0), (1, .int l1), (2, .int l2), (3, .int l3)] [] [] S 0 0) : ∀ (m8 : Nat) (a0 : Nat) (l1 : Int32) (l2 : Int32) (l3 : Int32) (l4 : Int32) (l5 : Int32) (S : zS), p_X11_clashes_L8 E K92 Q X m8 a0 l1 l2 l3 l4 l5 S → zJ E (RX11, cX11_clashes, 7, (some .boolean), false, [], zTr) ({ frames := 2, cells := 0, slots := 0, locals := 45 } : Room) (zq (qI Q)) (zx X) 8 [(0, .ref a0), (1, .int l1), (2, .int l2), (3, .int l3), (4, .int l4), (5, .int l5)] [] [] S 0 0 := by
  intro m8
  induction m8 with
  | zero => intro a0 l1 l2 l3 l4 l5 S h; exact (show False from h).elim
  | succ m8 ih =>
    intro a0 l1 l2 l3 l4 l5 S h
    unfold p_X11_clashes_L8 at h
    refine z_iload 5 dX11_clashes_8 rfl ?_
    refine z_aload_n 0 dX11_clashes_10 rfl rfl ?_
    obtain ⟨hf1, h⟩ := h
    refine z_getQ (c := 11) (j := 5) (f := 1105) hf1.1 hf1.2 (Nat.le_of_ble_eq_true rfl) rfl zU_X11 (Nat.le_of_ble_eq_true rfl) (Nat.le_of_ble_eq_true rfl) ⟨_, zw_1303, Or.inl rfl⟩ rfl rfl dX11_clashes_11 ?_
    refine z_iload_n 1 dX11_clashes_14 rfl rfl ?_
    obtain ⟨b2, hb3, h⟩ := h
    rw [show va_rf (gR S 1105 a0) = Value.ref b2 from by rw [hb3]; rfl]
    obtain ⟨hf4, h⟩ := h
    obtain ⟨j5, hj6, h⟩ := h
    refine z_iald (j := j5) hf4.1 hf4.2 hj6.1 hj6.2.1 hj6.2.2 dX11_clashes_15 ?_
    refine z_icmp_ge 92 dX11_clashes_16 (by decide) (fun c33 => ?_) (fun c33 => ?_)
    · have h := h.1 c33
      refine z_sub [0, 1, 2, 3] rfl ?_
      exact hK92 a0 l1 l2 l3 S h
    · have h := h.2 c33
      refine z_iload 4 dX11_clashes_19 rfl ?_
      refine z_aload_n 0 dX11_clashes_21 rfl rfl ?_
      refine z_getQ (c := 11) (j := 4) (f := 1104) hf1.1 hf1.2 (Nat.le_of_ble_eq_true rfl) rfl zU_X11 (Nat.le_of_ble_eq_true rfl) (Nat.le_of_ble_eq_true rfl) ⟨_, zw_1302, Or.inl rfl⟩ rfl rfl dX11_clashes_22 ?_
      refine z_iload_n 1 dX11_clashes_25 rfl rfl ?_
      obtain ⟨b7, hb8, h⟩ := h
      rw [show va_rf (gR S 1104 a0) = Value.ref b7 from by rw [hb8]; rfl]
      obtain ⟨hf9, h⟩ := h
      obtain ⟨j10, hj11, h⟩ := h
      refine z_iald (j := j10) hf9.1 hf9.2 hj11.1 hj11.2.1 hj11.2.2 dX11_clashes_26 ?_
      refine z_aload_n 0 dX11_clashes_27 rfl rfl ?_
      refine z_getQ (c := 11) (j := 6) (f := 1106) hf1.1 hf1.2 (Nat.le_of_ble_eq_true rfl) rfl zU_X11 (Nat.le_of_ble_eq_true rfl) (Nat.le_of_ble_eq_true rfl) ⟨_, zw_1304, Or.inl rfl⟩ rfl rfl dX11_clashes_28 ?_
      refine z_bipush (v := 12) dX11_clashes_31 rfl ?_
      refine z_iload_n 1 dX11_clashes_33 rfl rfl ?_
      refine z_imul dX11_clashes_34 ?_
      refine z_iload 5 dX11_clashes_35 rfl ?_
      refine z_iadd dX11_clashes_37 ?_
      obtain ⟨b12, hb13, h⟩ := h
      rw [show va_rf (gR S 1106 a0) = Value.ref b12 from by rw [hb13]; rfl]
      obtain ⟨hf14, h⟩ := h
      obtain ⟨j15, hj16, h⟩ := h
      refine z_iald (j := j15) hf14.1 hf14.2 hj16.1 hj16.2.1 hj16.2.2 dX11_clashes_38 ?_
      refine z_callSI (st := []) (w_X11_changed h) zw_1488 zw_1486 zw_1487 zw_74 zy_X11_changed rfl rfl ⟨Nat.le_of_ble_eq_true rfl, Nat.le_of_ble_eq_true rfl⟩ ⟨(Nat.le_of_ble_eq_true rfl), (Nat.le_of_ble_eq_true rfl)⟩ (Nat.le_of_ble_eq_true rfl) dX11_clashes_39 (fun _ _ hx => hx.elim) (fun r18 S17 h => ?_)
      refine z_widen (k' := 0) (n' := 0) (Nat.le_refl _) (Nat.le_refl _) ?_
      refine z_istore (lv' := [(4, .int r18), (0, .ref a0), (1, .int l1), (2, .int l2), (3, .int l3), (5, .int l5)]) dX11_clashes_42 (Nat.le_of_ble_eq_true rfl) rfl ?_
      refine z_iconst (v := 0) dX11_clashes_44 rfl ?_
      refine z_istore (lv' := [(6, .int 0), (4, .int r18), (0, .ref a0), (1, .int l1), (2, .int l2), (3, .int l3), (5, .int l5)]) dX11_clashes_45 (Nat.le_of_ble_eq_true rfl) rfl ?_
      obtain ⟨m47, h⟩ := h
      refine z_sub [2, 3, 4, 5, 1, 6, 0] rfl ?_
      refine w_X11_clashes_L47 (fun a0 l1 l2 l3 l4 l5 S h => ?_) m47 a0 l1 l2 l3 r18 l5 0 S17 h
      refine z_iinc (v := (l5 + 1)) (lv' := [(5, .int (l5 + 1)), (0, .ref a0), (1, .int l1), (2, .int l2), (3, .int l3), (4, .int l4)]) 5 dX11_clashes_86 rfl rfl (Nat.le_of_ble_eq_true rfl) rfl ?_
      refine z_goto 8 dX11_clashes_89 (by decide) ?_
      refine z_sub [1, 2, 3, 4, 5, 0] rfl ?_
      exact ih a0 l1 l2 l3 l4 (l5 + 1) S h
set_option maxRecDepth 20000 in
set_option maxHeartbeats 4000000 in
theorem w_X11_clashes {E : zE} {a0 : Nat} {l1 : Int32} {l2 : Int32} {S : zS} {Q : Int32 → zS → Prop} {X : String → zS → Prop} (h : p_X11_clashes E a0 l1 l2 S Q X) : zM E yX11_clashes cX11_clashes 7 (some .boolean) ({ frames := 2, cells := 0, slots := 0, locals := 45 } : Room) [.ref a0, .int l1, .int l2] S (qI Q) X := by
  unfold p_X11_clashes at h
  refine zM_of RX11 false (by decide) rfl (fun h => by cases h) (Nat.le_of_ble_eq_true rfl) ?_
  refine z_iconst (v := 0) dX11_clashes_0 rfl ?_
  refine z_istore_n (lv' := [(3, .int 0), (0, .ref a0), (1, .int l1), (2, .int l2)]) dX11_clashes_1 rfl (Nat.le_of_ble_eq_true rfl) rfl ?_
  refine z_iload_n 3 dX11_clashes_2 rfl rfl ?_
  refine z_istore (lv' := [(4, .int l2), (3, .int 0), (0, .ref a0), (1, .int l1), (2, .int l2)]) dX11_clashes_3 (Nat.le_of_ble_eq_true rfl) rfl ?_
  refine z_iconst (v := 0) dX11_clashes_5 rfl ?_
  refine z_istore (lv' := [(5, .int 0), (4, .int l2), (3, .int 0), (0, .ref a0), (1, .int l1), (2, .int l2)]) dX11_clashes_6 (Nat.le_of_ble_eq_true rfl) rfl ?_
  obtain ⟨m8, h⟩ := h
  refine z_sub [3, 4, 5, 2, 1, 0] rfl ?_
  refine w_X11_clashes_L8 (fun a0 l1 l2 l3 S h => ?_) m8 a0 l1 l2 0 l2 0 S h
  refine z_iload_n 3 dX11_clashes_92 rfl rfl ?_
  refine z_if_eq 113 dX11_clashes_93 (by decide) (fun c46 => ?_) (fun c46 => ?_)
  · have h := h.1 c46
    refine z_iconst (v := 0) dX11_clashes_113 rfl ?_
    obtain ⟨hz34, h⟩ := h
    exact z_zreturn ⟨rfl, _, rfl, h⟩ rfl (zbn hz34) (Nat.le_of_ble_eq_true rfl) (Nat.le_of_ble_eq_true rfl) dX11_clashes_114
  · have h := h.2 c46
    refine z_iload_n 2 dX11_clashes_96 rfl rfl ?_
    refine z_aload_n 0 dX11_clashes_97 rfl rfl ?_
    obtain ⟨hf35, h⟩ := h
    refine z_getQ (c := 11) (j := 4) (f := 1104) hf35.1 hf35.2 (Nat.le_of_ble_eq_true rfl) rfl zU_X11 (Nat.le_of_ble_eq_true rfl) (Nat.le_of_ble_eq_true rfl) ⟨_, zw_1302, Or.inl rfl⟩ rfl rfl dX11_clashes_98 ?_
    refine z_iload_n 1 dX11_clashes_101 rfl rfl ?_
    obtain ⟨b36, hb37, h⟩ := h
    rw [show va_rf (gR S 1104 a0) = Value.ref b36 from by rw [hb37]; rfl]
    obtain ⟨hf38, h⟩ := h
    obtain ⟨j39, hj40, h⟩ := h
    refine z_iald (j := j39) hf38.1 hf38.2 hj40.1 hj40.2.1 hj40.2.2 dX11_clashes_102 ?_
    refine z_callSI (st := [.int l2]) (w_X11_rounds h) zw_1481 zw_1479 zw_1480 zw_74 zy_X11_rounds rfl rfl ⟨Nat.le_of_ble_eq_true rfl, Nat.le_of_ble_eq_true rfl⟩ ⟨(Nat.le_of_ble_eq_true rfl), (Nat.le_of_ble_eq_true rfl)⟩ (Nat.le_of_ble_eq_true rfl) dX11_clashes_103 (fun _ _ hx => hx.elim) (fun r42 S41 h => ?_)
    refine z_widen (k' := 0) (n' := 0) (Nat.le_refl _) (Nat.le_refl _) ?_
    refine z_icmp_eq 113 dX11_clashes_106 (by decide) (fun c45 => ?_) (fun c45 => ?_)
    · have h := h.1 c45
      refine z_iconst (v := 0) dX11_clashes_113 rfl ?_
      obtain ⟨hz43, h⟩ := h
      exact z_zreturn ⟨rfl, _, rfl, h⟩ rfl (zbn hz43) (Nat.le_of_ble_eq_true rfl) (Nat.le_of_ble_eq_true rfl) dX11_clashes_114
    · have h := h.2 c45
      refine z_iconst (v := 1) dX11_clashes_109 rfl ?_
      refine z_goto 114 dX11_clashes_110 (by decide) ?_
      obtain ⟨hz44, h⟩ := h
      exact z_zreturn ⟨rfl, _, rfl, h⟩ rfl (zbn hz44) (Nat.le_of_ble_eq_true rfl) (Nat.le_of_ble_eq_true rfl) dX11_clashes_114
set_option maxRecDepth 20000 in
set_option maxHeartbeats 4000000 in
theorem w_X11_isFalse_J33 {E : zE}  {Q : Int32 → zS → Prop} {X : String → zS → Prop}  (a0 : Nat) (l1 : Int32) (l2 : Int32) (l100 : Int32) (a101 : Nat) (S : zS) (h : p_X11_isFalse_J33 E  Q X a0 l1 l2 l100 a101 S) : zJ E (RX11, cX11_isFalse, 3, (some .boolean), false, [], zTr) ({ frames := 3, cells := 0, slots := 0, locals := 71 } : Room) (zq (qI Q)) (zx X) 33 [(0, .ref a0), (1, .int l1), (2, .int l2)] [.int l100, .ref a101] [] S 0 0 := by
  unfold p_X11_isFalse_J33 at h
  obtain ⟨hf3, h⟩ := h
  have h := h _ rfl
  refine z_putV (c := 11) (j := 0) (ty0 := tyX11) (S' := sI S 1100 a101 l100) hf3.1 hf3.2 (Nat.le_of_ble_eq_true rfl) rfl zU_X11 tyX11_ok nmX11 (Nat.le_of_ble_eq_true rfl) (Nat.le_of_ble_eq_true rfl) ⟨_, zw_1298, Or.inl rfl⟩ (.inl rfl) rfl rfl rfl (zUpI (v := l100) hf3.2 (Nat.le_of_ble_eq_true rfl) (Nat.le_of_ble_eq_true rfl) rfl rfl) dX11_isFalse_33 ?_
  obtain ⟨S4, hS5⟩ : ∃ z, z = sI S 1100 a101 l100 := ⟨_, rfl⟩
  rw [← hS5] at h ⊢
  have hf3 : a101 ∈ gL S4 ∧ gK S4 a101 = 11 := by rw [hS5]; exact hf3
  refine z_aload_n 0 dX11_isFalse_36 rfl rfl ?_
  obtain ⟨hf6, h⟩ := h
  refine z_getI (c := 11) (j := 0) (f := 1100) hf6.1 hf6.2 (Nat.le_of_ble_eq_true rfl) rfl zU_X11 (Nat.le_of_ble_eq_true rfl) (Nat.le_of_ble_eq_true rfl) ⟨_, zw_1298, Or.inl rfl⟩ rfl rfl dX11_isFalse_37 ?_
  refine z_if_le 45 dX11_isFalse_40 (by decide) (fun c22 => ?_) (fun c22 => ?_)
  · have h := h.1 c22
    refine z_aload_n 0 dX11_isFalse_45 rfl rfl ?_
    refine z_iload_n 1 dX11_isFalse_46 rfl rfl ?_
    refine z_callVV (ci := 11) (st := []) (w_X11_laysPlain h) hf6.1 hf6.2 (Nat.le_of_ble_eq_true rfl) rfl zw_1540 zw_1537 zw_1539 zw_41 zw_74 zy_X11_laysPlain rfl rfl ⟨Nat.le_of_ble_eq_true rfl, Nat.le_of_ble_eq_true rfl⟩ ⟨(Nat.le_of_ble_eq_true rfl), (Nat.le_of_ble_eq_true rfl)⟩ (Nat.le_of_ble_eq_true rfl) dX11_isFalse_47 (fun _ _ hx => hx.elim) (fun S7 h => ?_)
    refine z_widen (k' := 0) (n' := 0) (Nat.le_refl _) (Nat.le_refl _) ?_
    refine z_aload_n 0 dX11_isFalse_50 rfl rfl ?_
    refine z_iload_n 1 dX11_isFalse_51 rfl rfl ?_
    refine z_aload_n 0 dX11_isFalse_52 rfl rfl ?_
    refine z_iload_n 2 dX11_isFalse_53 rfl rfl ?_
    refine z_aload_n 0 dX11_isFalse_54 rfl rfl ?_
    obtain ⟨hf9, h⟩ := h
    refine z_getQ (c := 11) (j := 4) (f := 1104) hf9.1 hf9.2 (Nat.le_of_ble_eq_true rfl) rfl zU_X11 (Nat.le_of_ble_eq_true rfl) (Nat.le_of_ble_eq_true rfl) ⟨_, zw_1302, Or.inl rfl⟩ rfl rfl dX11_isFalse_55 ?_
    refine z_iload_n 1 dX11_isFalse_58 rfl rfl ?_
    obtain ⟨b10, hb11, h⟩ := h
    rw [show va_rf (gR S7 1104 a0) = Value.ref b10 from by rw [hb11]; rfl]
    obtain ⟨hf12, h⟩ := h
    obtain ⟨j13, hj14, h⟩ := h
    refine z_iald (j := j13) hf12.1 hf12.2 hj14.1 hj14.2.1 hj14.2.2 dX11_isFalse_59 ?_
    refine z_callVI (ci := 11) (st := [.int l1, .ref a0]) (w_X11_rowOf h) hf9.1 hf9.2 (Nat.le_of_ble_eq_true rfl) rfl zw_1544 zw_1541 zw_1543 zw_42 zw_74 zy_X11_rowOf rfl rfl ⟨Nat.le_of_ble_eq_true rfl, Nat.le_of_ble_eq_true rfl⟩ ⟨(Nat.le_of_ble_eq_true rfl), (Nat.le_of_ble_eq_true rfl)⟩ (Nat.le_of_ble_eq_true rfl) dX11_isFalse_60 (fun _ _ hx => hx.elim) (fun r16 S15 h => ?_)
    refine z_widen (k' := 0) (n' := 0) (Nat.le_refl _) (Nat.le_refl _) ?_
    obtain ⟨hf20, h⟩ := h
    refine z_callVI (ci := 11) (st := []) (w_X11_clashes h) hf20.1 hf20.2 (Nat.le_of_ble_eq_true rfl) rfl zw_1548 zw_1545 zw_1547 zw_43 zw_74 zy_X11_clashes rfl rfl ⟨Nat.le_of_ble_eq_true rfl, Nat.le_of_ble_eq_true rfl⟩ ⟨(Nat.le_of_ble_eq_true rfl), (Nat.le_of_ble_eq_true rfl)⟩ (Nat.le_of_ble_eq_true rfl) dX11_isFalse_63 (fun _ _ hx => hx.elim) (fun r18 S17 h => ?_)
    refine z_widen (k' := 0) (n' := 0) (Nat.le_refl _) (Nat.le_refl _) ?_
    obtain ⟨hz19, h⟩ := h
    exact z_zreturn ⟨rfl, _, rfl, h⟩ rfl (zbn hz19) (Nat.le_of_ble_eq_true rfl) (Nat.le_of_ble_eq_true rfl) dX11_isFalse_66
  · have h := h.2 c22
    refine z_iconst (v := 0) dX11_isFalse_43 rfl ?_
    obtain ⟨hz21, h⟩ := h
    exact z_zreturn ⟨rfl, _, rfl, h⟩ rfl (zbn hz21) (Nat.le_of_ble_eq_true rfl) (Nat.le_of_ble_eq_true rfl) dX11_isFalse_44
set_option maxRecDepth 20000 in
set_option maxHeartbeats 4000000 in
theorem w_X11_isFalse_J32 {E : zE}  {Q : Int32 → zS → Prop} {X : String → zS → Prop}  (a0 : Nat) (l1 : Int32) (l2 : Int32) (a100 : Nat) (S : zS) (h : p_X11_isFalse_J32 E  Q X a0 l1 l2 a100 S) : zJ E (RX11, cX11_isFalse, 3, (some .boolean), false, [], zTr) ({ frames := 3, cells := 0, slots := 0, locals := 71 } : Room) (zq (qI Q)) (zx X) 32 [(0, .ref a0), (1, .int l1), (2, .int l2)] [.ref a100] [] S 0 0 := by
  unfold p_X11_isFalse_J32 at h
  refine z_iconst (v := 1) dX11_isFalse_32 rfl ?_
  refine w_X11_isFalse_J33 a0 l1 l2 1 a100 S h
set_option maxRecDepth 20000 in
set_option maxHeartbeats 4000000 in
theorem w_X11_isFalse {E : zE} {a0 : Nat} {l1 : Int32} {l2 : Int32} {S : zS} {Q : Int32 → zS → Prop} {X : String → zS → Prop} (h : p_X11_isFalse E a0 l1 l2 S Q X) : zM E yX11_isFalse cX11_isFalse 3 (some .boolean) ({ frames := 3, cells := 0, slots := 0, locals := 71 } : Room) [.ref a0, .int l1, .int l2] S (qI Q) X := by
  unfold p_X11_isFalse at h
  refine zM_of RX11 false (by decide) rfl (fun h => by cases h) (Nat.le_of_ble_eq_true rfl) ?_
  refine z_aload_n 0 dX11_isFalse_0 rfl rfl ?_
  refine z_aload_n 0 dX11_isFalse_1 rfl rfl ?_
  refine z_iload_n 1 dX11_isFalse_2 rfl rfl ?_
  obtain ⟨hf35, h⟩ := h
  refine z_callVI (ci := 11) (st := [.ref a0]) (w_X11_isMethod h) hf35.1 hf35.2 (Nat.le_of_ble_eq_true rfl) rfl zw_1454 zw_1451 zw_1453 zw_29 zw_74 zy_X11_isMethod rfl rfl ⟨Nat.le_of_ble_eq_true rfl, Nat.le_of_ble_eq_true rfl⟩ ⟨(Nat.le_of_ble_eq_true rfl), (Nat.le_of_ble_eq_true rfl)⟩ (Nat.le_of_ble_eq_true rfl) dX11_isFalse_3 (fun _ _ hx => hx.elim) (fun r2 S1 h => ?_)
  refine z_widen (k' := 0) (n' := 0) (Nat.le_refl _) (Nat.le_refl _) ?_
  refine z_if_eq 32 dX11_isFalse_6 (by decide) (fun c34 => ?_) (fun c34 => ?_)
  · have h := h.1 c34
    refine w_X11_isFalse_J32 a0 l1 l2 a0 S1 h
  · have h := h.2 c34
    refine z_iload_n 2 dX11_isFalse_9 rfl rfl ?_
    refine z_iconst (v := 0) dX11_isFalse_10 rfl ?_
    refine z_aload_n 0 dX11_isFalse_11 rfl rfl ?_
    obtain ⟨hf23, h⟩ := h
    refine z_getQ (c := 11) (j := 4) (f := 1104) hf23.1 hf23.2 (Nat.le_of_ble_eq_true rfl) rfl zU_X11 (Nat.le_of_ble_eq_true rfl) (Nat.le_of_ble_eq_true rfl) ⟨_, zw_1302, Or.inl rfl⟩ rfl rfl dX11_isFalse_12 ?_
    refine z_iload_n 1 dX11_isFalse_15 rfl rfl ?_
    obtain ⟨b24, hb25, h⟩ := h
    rw [show va_rf (gR S1 1104 a0) = Value.ref b24 from by rw [hb25]; rfl]
    obtain ⟨hf26, h⟩ := h
    obtain ⟨j27, hj28, h⟩ := h
    refine z_iald (j := j27) hf26.1 hf26.2 hj28.1 hj28.2.1 hj28.2.2 dX11_isFalse_16 ?_
    refine z_callSI (st := [.int 0, .int l2, .ref a0]) (w_X11_all h) zw_1536 zw_1534 zw_1535 zw_74 zy_X11_all rfl rfl ⟨Nat.le_of_ble_eq_true rfl, Nat.le_of_ble_eq_true rfl⟩ ⟨(Nat.le_of_ble_eq_true rfl), (Nat.le_of_ble_eq_true rfl)⟩ (Nat.le_of_ble_eq_true rfl) dX11_isFalse_17 (fun _ _ hx => hx.elim) (fun r30 S29 h => ?_)
    refine z_widen (k' := 0) (n' := 0) (Nat.le_refl _) (Nat.le_refl _) ?_
    refine z_iconst (v := 1) dX11_isFalse_20 rfl ?_
    refine z_isub dX11_isFalse_21 ?_
    refine z_callSI (st := [.ref a0]) (w_X11_in h) zw_1435 zw_1433 zw_1434 zw_74 zy_X11_in rfl rfl ⟨Nat.le_of_ble_eq_true rfl, Nat.le_of_ble_eq_true rfl⟩ ⟨(Nat.le_of_ble_eq_true rfl), (Nat.le_of_ble_eq_true rfl)⟩ (Nat.le_of_ble_eq_true rfl) dX11_isFalse_22 (fun _ _ hx => hx.elim) (fun r32 S31 h => ?_)
    refine z_widen (k' := 0) (n' := 0) (Nat.le_refl _) (Nat.le_refl _) ?_
    refine z_if_eq 32 dX11_isFalse_25 (by decide) (fun c33 => ?_) (fun c33 => ?_)
    · have h := h.1 c33
      refine w_X11_isFalse_J32 a0 l1 l2 a0 S31 h
    · have h := h.2 c33
      refine z_iconst (v := 0) dX11_isFalse_28 rfl ?_
      refine z_goto 33 dX11_isFalse_29 (by decide) ?_
      refine w_X11_isFalse_J33 a0 l1 l2 0 a0 S31 h
set_option maxRecDepth 20000 in
set_option maxHeartbeats 4000000 in
theorem w_X11_falseRows_L19 {E : zE} {K65 : Int32 → zS → Prop} {Q : Int32 → zS → Prop} {X : String → zS → Prop} (hK65 : ∀ (l2 : Int32) (S : zS), K65 l2 S → zJ E (RX11, cX11_falseRows, 4, (some .int), false, [], zTr) ({ frames := 3, cells := 0, slots := 0, locals := 71 } : Room) (zq (qI Q)) (zx X) 65 [(2, .int l2)] [] [] S 0 0) : ∀ (m19 : Nat) (a0 : Nat) (l1 : Int32) (l2 : Int32) (l3 : Int32) (S : zS), p_X11_falseRows_L19 E K65 Q X m19 a0 l1 l2 l3 S → zJ E (RX11, cX11_falseRows, 4, (some .int), false, [], zTr) ({ frames := 3, cells := 0, slots := 0, locals := 71 } : Room) (zq (qI Q)) (zx X) 19 [(0, .ref a0), (1, .int l1), (2, .int l2), (3, .int l3)] [] [] S 0 0 := by
  intro m19
  induction m19 with
  | zero => intro a0 l1 l2 l3 S h; exact (show False from h).elim
  | succ m19 ih =>
    intro a0 l1 l2 l3 S h
    unfold p_X11_falseRows_L19 at h
    refine z_iload_n 3 dX11_falseRows_19 rfl rfl ?_
    refine z_aload_n 0 dX11_falseRows_20 rfl rfl ?_
    obtain ⟨hf5, h⟩ := h
    refine z_getQ (c := 11) (j := 4) (f := 1104) hf5.1 hf5.2 (Nat.le_of_ble_eq_true rfl) rfl zU_X11 (Nat.le_of_ble_eq_true rfl) (Nat.le_of_ble_eq_true rfl) ⟨_, zw_1302, Or.inl rfl⟩ rfl rfl dX11_falseRows_21 ?_
    refine z_iload_n 1 dX11_falseRows_24 rfl rfl ?_
    obtain ⟨b6, hb7, h⟩ := h
    rw [show va_rf (gR S 1104 a0) = Value.ref b6 from by rw [hb7]; rfl]
    obtain ⟨hf8, h⟩ := h
    obtain ⟨j9, hj10, h⟩ := h
    refine z_iald (j := j9) hf8.1 hf8.2 hj10.1 hj10.2.1 hj10.2.2 dX11_falseRows_25 ?_
    refine z_callSI (st := [.int l3]) (w_X11_all h) zw_1536 zw_1534 zw_1535 zw_74 zy_X11_all rfl rfl ⟨Nat.le_of_ble_eq_true rfl, Nat.le_of_ble_eq_true rfl⟩ ⟨(Nat.le_of_ble_eq_true rfl), (Nat.le_of_ble_eq_true rfl)⟩ (Nat.le_of_ble_eq_true rfl) dX11_falseRows_26 (fun _ _ hx => hx.elim) (fun r12 S11 h => ?_)
    refine z_widen (k' := 0) (n' := 0) (Nat.le_refl _) (Nat.le_refl _) ?_
    refine z_icmp_ge 65 dX11_falseRows_29 (by decide) (fun c25 => ?_) (fun c25 => ?_)
    · have h := h.1 c25
      refine z_sub [2] rfl ?_
      exact hK65 l2 S11 h
    · have h := h.2 c25
      refine z_iload_n 2 dX11_falseRows_32 rfl rfl ?_
      refine z_aload_n 0 dX11_falseRows_33 rfl rfl ?_
      refine z_iload_n 1 dX11_falseRows_34 rfl rfl ?_
      refine z_aload_n 0 dX11_falseRows_35 rfl rfl ?_
      refine z_iload_n 3 dX11_falseRows_36 rfl rfl ?_
      refine z_aload_n 0 dX11_falseRows_37 rfl rfl ?_
      obtain ⟨hf13, h⟩ := h
      refine z_getQ (c := 11) (j := 4) (f := 1104) hf13.1 hf13.2 (Nat.le_of_ble_eq_true rfl) rfl zU_X11 (Nat.le_of_ble_eq_true rfl) (Nat.le_of_ble_eq_true rfl) ⟨_, zw_1302, Or.inl rfl⟩ rfl rfl dX11_falseRows_38 ?_
      refine z_iload_n 1 dX11_falseRows_41 rfl rfl ?_
      obtain ⟨b14, hb15, h⟩ := h
      rw [show va_rf (gR S11 1104 a0) = Value.ref b14 from by rw [hb15]; rfl]
      obtain ⟨hf16, h⟩ := h
      obtain ⟨j17, hj18, h⟩ := h
      refine z_iald (j := j17) hf16.1 hf16.2 hj18.1 hj18.2.1 hj18.2.2 dX11_falseRows_42 ?_
      refine z_callVI (ci := 11) (st := [.int l1, .ref a0, .int l2]) (w_X11_rowOf h) hf13.1 hf13.2 (Nat.le_of_ble_eq_true rfl) rfl zw_1544 zw_1541 zw_1543 zw_42 zw_74 zy_X11_rowOf rfl rfl ⟨Nat.le_of_ble_eq_true rfl, Nat.le_of_ble_eq_true rfl⟩ ⟨(Nat.le_of_ble_eq_true rfl), (Nat.le_of_ble_eq_true rfl)⟩ (Nat.le_of_ble_eq_true rfl) dX11_falseRows_43 (fun _ _ hx => hx.elim) (fun r20 S19 h => ?_)
      refine z_widen (k' := 0) (n' := 0) (Nat.le_refl _) (Nat.le_refl _) ?_
      obtain ⟨hf24, h⟩ := h
      refine z_callVI (ci := 11) (st := [.int l2]) (w_X11_clashes h) hf24.1 hf24.2 (Nat.le_of_ble_eq_true rfl) rfl zw_1548 zw_1545 zw_1547 zw_43 zw_74 zy_X11_clashes rfl rfl ⟨Nat.le_of_ble_eq_true rfl, Nat.le_of_ble_eq_true rfl⟩ ⟨(Nat.le_of_ble_eq_true rfl), (Nat.le_of_ble_eq_true rfl)⟩ (Nat.le_of_ble_eq_true rfl) dX11_falseRows_46 (fun _ _ hx => hx.elim) (fun r22 S21 h => ?_)
      refine z_widen (k' := 0) (n' := 0) (Nat.le_refl _) (Nat.le_refl _) ?_
      refine z_if_eq 56 dX11_falseRows_49 (by decide) (fun c23 => ?_) (fun c23 => ?_)
      · have h := h.1 c23
        refine z_iconst (v := 0) dX11_falseRows_56 rfl ?_
        refine z_iadd dX11_falseRows_57 ?_
        refine z_istore_n (lv' := [(2, .int (l2 + 0)), (0, .ref a0), (1, .int l1), (3, .int l3)]) dX11_falseRows_58 rfl (Nat.le_of_ble_eq_true rfl) rfl ?_
        refine z_iinc (v := (l3 + 1)) (lv' := [(3, .int (l3 + 1)), (2, .int (l2 + 0)), (0, .ref a0), (1, .int l1)]) 3 dX11_falseRows_59 rfl rfl (Nat.le_of_ble_eq_true rfl) rfl ?_
        refine z_goto 19 dX11_falseRows_62 (by decide) ?_
        refine z_sub [2, 3, 1, 0] rfl ?_
        exact ih a0 l1 (l2 + 0) (l3 + 1) S21 h
      · have h := h.2 c23
        refine z_iconst (v := 1) dX11_falseRows_52 rfl ?_
        refine z_goto 57 dX11_falseRows_53 (by decide) ?_
        refine z_iadd dX11_falseRows_57 ?_
        refine z_istore_n (lv' := [(2, .int (l2 + 1)), (0, .ref a0), (1, .int l1), (3, .int l3)]) dX11_falseRows_58 rfl (Nat.le_of_ble_eq_true rfl) rfl ?_
        refine z_iinc (v := (l3 + 1)) (lv' := [(3, .int (l3 + 1)), (2, .int (l2 + 1)), (0, .ref a0), (1, .int l1)]) 3 dX11_falseRows_59 rfl rfl (Nat.le_of_ble_eq_true rfl) rfl ?_
        refine z_goto 19 dX11_falseRows_62 (by decide) ?_
        refine z_sub [2, 3, 1, 0] rfl ?_
        exact ih a0 l1 (l2 + 1) (l3 + 1) S21 h
set_option maxRecDepth 20000 in
set_option maxHeartbeats 4000000 in
theorem w_X11_falseRows {E : zE} {a0 : Nat} {l1 : Int32} {S : zS} {Q : Int32 → zS → Prop} {X : String → zS → Prop} (h : p_X11_falseRows E a0 l1 S Q X) : zM E yX11_falseRows cX11_falseRows 4 (some .int) ({ frames := 3, cells := 0, slots := 0, locals := 71 } : Room) [.ref a0, .int l1] S (qI Q) X := by
  unfold p_X11_falseRows at h
  refine zM_of RX11 false (by decide) rfl (fun h => by cases h) (Nat.le_of_ble_eq_true rfl) ?_
  refine z_aload_n 0 dX11_falseRows_0 rfl rfl ?_
  refine z_iload_n 1 dX11_falseRows_1 rfl rfl ?_
  obtain ⟨hf28, h⟩ := h
  refine z_callVI (ci := 11) (st := []) (w_X11_asksMethod h) hf28.1 hf28.2 (Nat.le_of_ble_eq_true rfl) rfl zw_1507 zw_1504 zw_1506 zw_39 zw_74 zy_X11_asksMethod rfl rfl ⟨Nat.le_of_ble_eq_true rfl, Nat.le_of_ble_eq_true rfl⟩ ⟨(Nat.le_of_ble_eq_true rfl), (Nat.le_of_ble_eq_true rfl)⟩ (Nat.le_of_ble_eq_true rfl) dX11_falseRows_2 (fun _ _ hx => hx.elim) (fun r2 S1 h => ?_)
  refine z_widen (k' := 0) (n' := 0) (Nat.le_refl _) (Nat.le_refl _) ?_
  refine z_if_ne 10 dX11_falseRows_5 (by decide) (fun c27 => ?_) (fun c27 => ?_)
  · have h := h.1 c27
    refine z_aload_n 0 dX11_falseRows_10 rfl rfl ?_
    refine z_iload_n 1 dX11_falseRows_11 rfl rfl ?_
    obtain ⟨hf26, h⟩ := h
    refine z_callVV (ci := 11) (st := []) (w_X11_laysPlain h) hf26.1 hf26.2 (Nat.le_of_ble_eq_true rfl) rfl zw_1540 zw_1537 zw_1539 zw_41 zw_74 zy_X11_laysPlain rfl rfl ⟨Nat.le_of_ble_eq_true rfl, Nat.le_of_ble_eq_true rfl⟩ ⟨(Nat.le_of_ble_eq_true rfl), (Nat.le_of_ble_eq_true rfl)⟩ (Nat.le_of_ble_eq_true rfl) dX11_falseRows_12 (fun _ _ hx => hx.elim) (fun S3 h => ?_)
    refine z_widen (k' := 0) (n' := 0) (Nat.le_refl _) (Nat.le_refl _) ?_
    refine z_iconst (v := 0) dX11_falseRows_15 rfl ?_
    refine z_istore_n (lv' := [(2, .int 0), (0, .ref a0), (1, .int l1)]) dX11_falseRows_16 rfl (Nat.le_of_ble_eq_true rfl) rfl ?_
    refine z_iconst (v := 0) dX11_falseRows_17 rfl ?_
    refine z_istore_n (lv' := [(3, .int 0), (2, .int 0), (0, .ref a0), (1, .int l1)]) dX11_falseRows_18 rfl (Nat.le_of_ble_eq_true rfl) rfl ?_
    obtain ⟨m19, h⟩ := h
    refine z_sub [2, 3, 1, 0] rfl ?_
    refine w_X11_falseRows_L19 (fun l2 S h => ?_) m19 a0 l1 0 0 S3 h
    refine z_iload_n 0 dX11_falseRows_65 rfl rfl ?_
    exact z_ireturn ⟨rfl, _, rfl, h⟩ rfl (Nat.le_of_ble_eq_true rfl) (Nat.le_of_ble_eq_true rfl) dX11_falseRows_66
  · have h := h.2 c27
    refine z_iconst (v := 0) dX11_falseRows_8 rfl ?_
    exact z_ireturn ⟨rfl, _, rfl, h⟩ rfl (Nat.le_of_ble_eq_true rfl) (Nat.le_of_ble_eq_true rfl) dX11_falseRows_9
set_option maxRecDepth 20000 in
set_option maxHeartbeats 4000000 in
theorem w_X11_lead_J82 {E : zE}  {Q : Int32 → zS → Prop} {X : String → zS → Prop}  (a0 : Nat) (l1 : Int32) (l2 : Int32) (S : zS) (h : p_X11_lead_J82 E  Q X a0 l1 l2 S) : zJ E (RX11, cX11_lead, 3, (some .int), false, [], zTr) ({ frames := 2, cells := 0, slots := 0, locals := 43 } : Room) (zq (qI Q)) (zx X) 82 [(0, .ref a0), (1, .int l1), (2, .int l2)] [] [] S 0 0 := by
  unfold p_X11_lead_J82 at h
  refine z_aload_n 0 dX11_lead_82 rfl rfl ?_
  obtain ⟨hf9, h⟩ := h
  refine z_getI (c := 11) (j := 0) (f := 1100) hf9.1 hf9.2 (Nat.le_of_ble_eq_true rfl) rfl zU_X11 (Nat.le_of_ble_eq_true rfl) (Nat.le_of_ble_eq_true rfl) ⟨_, zw_1298, Or.inl rfl⟩ rfl rfl dX11_lead_83 ?_
  refine z_if_le 91 dX11_lead_86 (by decide) (fun c20 => ?_) (fun c20 => ?_)
  · have h := h.1 c20
    refine z_aload_n 0 dX11_lead_91 rfl rfl ?_
    refine z_getQ (c := 11) (j := 9) (f := 1109) hf9.1 hf9.2 (Nat.le_of_ble_eq_true rfl) rfl zU_X11 (Nat.le_of_ble_eq_true rfl) (Nat.le_of_ble_eq_true rfl) ⟨_, zw_1307, Or.inl rfl⟩ rfl rfl dX11_lead_92 ?_
    refine z_aload_n 0 dX11_lead_95 rfl rfl ?_
    refine z_getI (c := 11) (j := 8) (f := 1108) hf9.1 hf9.2 (Nat.le_of_ble_eq_true rfl) rfl zU_X11 (Nat.le_of_ble_eq_true rfl) (Nat.le_of_ble_eq_true rfl) ⟨_, zw_1306, Or.inl rfl⟩ rfl rfl dX11_lead_96 ?_
    refine z_iconst (v := 3) dX11_lead_99 rfl ?_
    refine z_iload_n 1 dX11_lead_100 rfl rfl ?_
    refine z_imul dX11_lead_101 ?_
    refine z_iload_n 2 dX11_lead_102 rfl rfl ?_
    refine z_iadd dX11_lead_103 ?_
    obtain ⟨b10, hb11, h⟩ := h
    rw [show va_rf (gR S 1109 a0) = Value.ref b10 from by rw [hb11]; rfl]
    obtain ⟨hf12, h⟩ := h
    obtain ⟨j13, hj14, h⟩ := h
    have h := h _ rfl
    refine z_iast (j := j13) hf12.1 hf12.2 hj14.1 hj14.2.1 hj14.2.2 dX11_lead_104 ?_
    obtain ⟨S15, hS16⟩ : ∃ z, z = sA S b10 j13 ((3 * l1) + l2) := ⟨_, rfl⟩
    rw [← hS16] at h ⊢
    have hf9 : a0 ∈ gL S15 ∧ gK S15 a0 = 11 := by rw [hS16]; exact hf9
    have hf12 : b10 ∈ gL S15 ∧ gK S15 b10 = 12 := by rw [hS16]; exact hf12
    refine z_aload_n 0 dX11_lead_105 rfl rfl ?_
    refine z_dup dX11_lead_106 rfl ?_
    refine z_getI (c := 11) (j := 8) (f := 1108) hf9.1 hf9.2 (Nat.le_of_ble_eq_true rfl) rfl zU_X11 (Nat.le_of_ble_eq_true rfl) (Nat.le_of_ble_eq_true rfl) ⟨_, zw_1306, Or.inl rfl⟩ rfl rfl dX11_lead_107 ?_
    refine z_iconst (v := 1) dX11_lead_110 rfl ?_
    refine z_iadd dX11_lead_111 ?_
    have h := h _ rfl
    refine z_putV (c := 11) (j := 8) (ty0 := tyX11) (S' := sI S15 1108 a0 ((gI S15 1108 a0) + 1)) hf9.1 hf9.2 (Nat.le_of_ble_eq_true rfl) rfl zU_X11 tyX11_ok nmX11 (Nat.le_of_ble_eq_true rfl) (Nat.le_of_ble_eq_true rfl) ⟨_, zw_1306, Or.inl rfl⟩ (.inl rfl) rfl rfl rfl (zUpI (v := ((gI S15 1108 a0) + 1)) hf9.2 (Nat.le_of_ble_eq_true rfl) (Nat.le_of_ble_eq_true rfl) rfl rfl) dX11_lead_112 ?_
    obtain ⟨S17, hS18⟩ : ∃ z, z = sI S15 1108 a0 ((gI S15 1108 a0) + 1) := ⟨_, rfl⟩
    rw [← hS18] at h ⊢
    have hf9 : a0 ∈ gL S17 ∧ gK S17 a0 = 11 := by rw [hS18]; exact hf9
    have hf12 : b10 ∈ gL S17 ∧ gK S17 b10 = 12 := by rw [hS18]; exact hf12
    refine z_aload_n 0 dX11_lead_115 rfl rfl ?_
    refine z_getI (c := 11) (j := 8) (f := 1108) hf9.1 hf9.2 (Nat.le_of_ble_eq_true rfl) rfl zU_X11 (Nat.le_of_ble_eq_true rfl) (Nat.le_of_ble_eq_true rfl) ⟨_, zw_1306, Or.inl rfl⟩ rfl rfl dX11_lead_116 ?_
    exact z_ireturn ⟨rfl, _, rfl, h⟩ rfl (Nat.le_of_ble_eq_true rfl) (Nat.le_of_ble_eq_true rfl) dX11_lead_119
  · have h := h.2 c20
    refine z_iconst (v := 0) dX11_lead_89 rfl ?_
    exact z_ireturn ⟨rfl, _, rfl, h⟩ rfl (Nat.le_of_ble_eq_true rfl) (Nat.le_of_ble_eq_true rfl) dX11_lead_90
set_option maxRecDepth 20000 in
set_option maxHeartbeats 4000000 in
theorem w_X11_lead_J79 {E : zE}  {Q : Int32 → zS → Prop} {X : String → zS → Prop}  (a0 : Nat) (l1 : Int32) (l2 : Int32) (l100 : Int32) (a101 : Nat) (S : zS) (h : p_X11_lead_J79 E  Q X a0 l1 l2 l100 a101 S) : zJ E (RX11, cX11_lead, 3, (some .int), false, [], zTr) ({ frames := 2, cells := 0, slots := 0, locals := 43 } : Room) (zq (qI Q)) (zx X) 79 [(0, .ref a0), (1, .int l1), (2, .int l2)] [.int l100, .ref a101] [] S 0 0 := by
  unfold p_X11_lead_J79 at h
  obtain ⟨hf21, h⟩ := h
  have h := h _ rfl
  refine z_putV (c := 11) (j := 0) (ty0 := tyX11) (S' := sI S 1100 a101 l100) hf21.1 hf21.2 (Nat.le_of_ble_eq_true rfl) rfl zU_X11 tyX11_ok nmX11 (Nat.le_of_ble_eq_true rfl) (Nat.le_of_ble_eq_true rfl) ⟨_, zw_1298, Or.inl rfl⟩ (.inl rfl) rfl rfl rfl (zUpI (v := l100) hf21.2 (Nat.le_of_ble_eq_true rfl) (Nat.le_of_ble_eq_true rfl) rfl rfl) dX11_lead_79 ?_
  obtain ⟨S22, hS23⟩ : ∃ z, z = sI S 1100 a101 l100 := ⟨_, rfl⟩
  rw [← hS23] at h ⊢
  have hf21 : a101 ∈ gL S22 ∧ gK S22 a101 = 11 := by rw [hS23]; exact hf21
  refine w_X11_lead_J82 a0 l1 l2 S22 h
set_option maxRecDepth 20000 in
set_option maxHeartbeats 4000000 in
theorem w_X11_lead_J74 {E : zE}  {Q : Int32 → zS → Prop} {X : String → zS → Prop}  (a0 : Nat) (l1 : Int32) (l2 : Int32) (a100 : Nat) (S : zS) (h : p_X11_lead_J74 E  Q X a0 l1 l2 a100 S) : zJ E (RX11, cX11_lead, 3, (some .int), false, [], zTr) ({ frames := 2, cells := 0, slots := 0, locals := 43 } : Room) (zq (qI Q)) (zx X) 74 [(0, .ref a0), (1, .int l1), (2, .int l2)] [.ref a100] [] S 0 0 := by
  unfold p_X11_lead_J74 at h
  refine z_iconst (v := 3) dX11_lead_74 rfl ?_
  refine z_goto 79 dX11_lead_75 (by decide) ?_
  refine w_X11_lead_J79 a0 l1 l2 3 a100 S h
set_option maxRecDepth 20000 in
set_option maxHeartbeats 4000000 in
theorem w_X11_lead_J78 {E : zE}  {Q : Int32 → zS → Prop} {X : String → zS → Prop}  (a0 : Nat) (l1 : Int32) (l2 : Int32) (a100 : Nat) (S : zS) (h : p_X11_lead_J78 E  Q X a0 l1 l2 a100 S) : zJ E (RX11, cX11_lead, 3, (some .int), false, [], zTr) ({ frames := 2, cells := 0, slots := 0, locals := 43 } : Room) (zq (qI Q)) (zx X) 78 [(0, .ref a0), (1, .int l1), (2, .int l2)] [.ref a100] [] S 0 0 := by
  unfold p_X11_lead_J78 at h
  refine z_iconst (v := 0) dX11_lead_78 rfl ?_
  refine w_X11_lead_J79 a0 l1 l2 0 a100 S h
set_option maxRecDepth 20000 in
set_option maxHeartbeats 4000000 in
theorem w_X11_lead_J25 {E : zE}  {Q : Int32 → zS → Prop} {X : String → zS → Prop}  (a0 : Nat) (l1 : Int32) (l2 : Int32) (l100 : Int32) (a101 : Nat) (S : zS) (h : p_X11_lead_J25 E  Q X a0 l1 l2 l100 a101 S) : zJ E (RX11, cX11_lead, 3, (some .int), false, [], zTr) ({ frames := 2, cells := 0, slots := 0, locals := 43 } : Room) (zq (qI Q)) (zx X) 25 [(0, .ref a0), (1, .int l1), (2, .int l2)] [.int l100, .ref a101] [] S 0 0 := by
  unfold p_X11_lead_J25 at h
  obtain ⟨hf5, h⟩ := h
  have h := h _ rfl
  refine z_putV (c := 11) (j := 0) (ty0 := tyX11) (S' := sI S 1100 a101 l100) hf5.1 hf5.2 (Nat.le_of_ble_eq_true rfl) rfl zU_X11 tyX11_ok nmX11 (Nat.le_of_ble_eq_true rfl) (Nat.le_of_ble_eq_true rfl) ⟨_, zw_1298, Or.inl rfl⟩ (.inl rfl) rfl rfl rfl (zUpI (v := l100) hf5.2 (Nat.le_of_ble_eq_true rfl) (Nat.le_of_ble_eq_true rfl) rfl rfl) dX11_lead_25 ?_
  obtain ⟨S6, hS7⟩ : ∃ z, z = sI S 1100 a101 l100 := ⟨_, rfl⟩
  rw [← hS7] at h ⊢
  have hf5 : a101 ∈ gL S6 ∧ gK S6 a101 = 11 := by rw [hS7]; exact hf5
  refine z_aload_n 0 dX11_lead_28 rfl rfl ?_
  obtain ⟨hf8, h⟩ := h
  refine z_getI (c := 11) (j := 0) (f := 1100) hf8.1 hf8.2 (Nat.le_of_ble_eq_true rfl) rfl zU_X11 (Nat.le_of_ble_eq_true rfl) (Nat.le_of_ble_eq_true rfl) ⟨_, zw_1298, Or.inl rfl⟩ rfl rfl dX11_lead_29 ?_
  refine z_if_ne 82 dX11_lead_32 (by decide) (fun c42 => ?_) (fun c42 => ?_)
  · have h := h.1 c42
    refine w_X11_lead_J82 a0 l1 l2 S6 h
  · have h := h.2 c42
    refine z_aload_n 0 dX11_lead_35 rfl rfl ?_
    refine z_aload_n 0 dX11_lead_36 rfl rfl ?_
    refine z_getI (c := 11) (j := 8) (f := 1108) hf8.1 hf8.2 (Nat.le_of_ble_eq_true rfl) rfl zU_X11 (Nat.le_of_ble_eq_true rfl) (Nat.le_of_ble_eq_true rfl) ⟨_, zw_1306, Or.inl rfl⟩ rfl rfl dX11_lead_37 ?_
    refine z_bipush (v := 20) dX11_lead_40 rfl ?_
    refine z_icmp_eq 74 dX11_lead_42 (by decide) (fun c41 => ?_) (fun c41 => ?_)
    · have h := h.1 c41
      refine w_X11_lead_J74 a0 l1 l2 a0 S6 h
    · have h := h.2 c41
      refine z_aload_n 0 dX11_lead_45 rfl rfl ?_
      refine z_getI (c := 11) (j := 8) (f := 1108) hf8.1 hf8.2 (Nat.le_of_ble_eq_true rfl) rfl zU_X11 (Nat.le_of_ble_eq_true rfl) (Nat.le_of_ble_eq_true rfl) ⟨_, zw_1306, Or.inl rfl⟩ rfl rfl dX11_lead_46 ?_
      refine z_if_le 78 dX11_lead_49 (by decide) (fun c40 => ?_) (fun c40 => ?_)
      · have h := h.1 c40
        refine w_X11_lead_J78 a0 l1 l2 a0 S6 h
      · have h := h.2 c40
        refine z_aload_n 0 dX11_lead_52 rfl rfl ?_
        refine z_getQ (c := 11) (j := 4) (f := 1104) hf8.1 hf8.2 (Nat.le_of_ble_eq_true rfl) rfl zU_X11 (Nat.le_of_ble_eq_true rfl) (Nat.le_of_ble_eq_true rfl) ⟨_, zw_1302, Or.inl rfl⟩ rfl rfl dX11_lead_53 ?_
        refine z_aload_n 0 dX11_lead_56 rfl rfl ?_
        refine z_getQ (c := 11) (j := 9) (f := 1109) hf8.1 hf8.2 (Nat.le_of_ble_eq_true rfl) rfl zU_X11 (Nat.le_of_ble_eq_true rfl) (Nat.le_of_ble_eq_true rfl) ⟨_, zw_1307, Or.inl rfl⟩ rfl rfl dX11_lead_57 ?_
        refine z_iconst (v := 0) dX11_lead_60 rfl ?_
        obtain ⟨b24, hb25, h⟩ := h
        rw [show va_rf (gR S6 1109 a0) = Value.ref b24 from by rw [hb25]; rfl]
        obtain ⟨hf26, h⟩ := h
        obtain ⟨hj28, h⟩ := h
        refine z_iald (j := 0) hf26.1 hf26.2 rfl hj28.1 hj28.2 dX11_lead_61 ?_
        refine z_iconst (v := 3) dX11_lead_62 rfl ?_
        refine z_idiv dX11_lead_63 (by decide) ?_
        obtain ⟨b29, hb30, h⟩ := h
        rw [show va_rf (gR S6 1104 a0) = Value.ref b29 from by rw [hb30]; rfl]
        obtain ⟨hf31, h⟩ := h
        obtain ⟨j32, hj33, h⟩ := h
        refine z_iald (j := j32) hf31.1 hf31.2 hj33.1 hj33.2.1 hj33.2.2 dX11_lead_64 ?_
        refine z_aload_n 0 dX11_lead_65 rfl rfl ?_
        refine z_getQ (c := 11) (j := 4) (f := 1104) hf8.1 hf8.2 (Nat.le_of_ble_eq_true rfl) rfl zU_X11 (Nat.le_of_ble_eq_true rfl) (Nat.le_of_ble_eq_true rfl) ⟨_, zw_1302, Or.inl rfl⟩ rfl rfl dX11_lead_66 ?_
        refine z_iload_n 1 dX11_lead_69 rfl rfl ?_
        obtain ⟨b34, hb35, h⟩ := h
        rw [show va_rf (gR S6 1104 a0) = Value.ref b34 from by rw [hb35]; rfl]
        obtain ⟨hf36, h⟩ := h
        obtain ⟨j37, hj38, h⟩ := h
        refine z_iald (j := j37) hf36.1 hf36.2 hj38.1 hj38.2.1 hj38.2.2 dX11_lead_70 ?_
        refine z_icmp_eq 78 dX11_lead_71 (by decide) (fun c39 => ?_) (fun c39 => ?_)
        · have h := h.1 c39
          refine w_X11_lead_J78 a0 l1 l2 a0 S6 h
        · have h := h.2 c39
          refine w_X11_lead_J74 a0 l1 l2 a0 S6 h
set_option maxRecDepth 20000 in
set_option maxHeartbeats 4000000 in
theorem w_X11_lead {E : zE} {a0 : Nat} {l1 : Int32} {l2 : Int32} {S : zS} {Q : Int32 → zS → Prop} {X : String → zS → Prop} (h : p_X11_lead E a0 l1 l2 S Q X) : zM E yX11_lead cX11_lead 3 (some .int) ({ frames := 2, cells := 0, slots := 0, locals := 43 } : Room) [.ref a0, .int l1, .int l2] S (qI Q) X := by
  unfold p_X11_lead at h
  refine zM_of RX11 false (by decide) rfl (fun h => by cases h) (Nat.le_of_ble_eq_true rfl) ?_
  refine z_aload_n 0 dX11_lead_0 rfl rfl ?_
  refine z_aload_n 0 dX11_lead_1 rfl rfl ?_
  refine z_iload_n 1 dX11_lead_2 rfl rfl ?_
  obtain ⟨hf45, h⟩ := h
  refine z_callVI (ci := 11) (st := [.ref a0]) (w_X11_isMethod h) hf45.1 hf45.2 (Nat.le_of_ble_eq_true rfl) rfl zw_1454 zw_1451 zw_1453 zw_29 zw_74 zy_X11_isMethod rfl rfl ⟨Nat.le_of_ble_eq_true rfl, Nat.le_of_ble_eq_true rfl⟩ ⟨(Nat.le_of_ble_eq_true rfl), (Nat.le_of_ble_eq_true rfl)⟩ (Nat.le_of_ble_eq_true rfl) dX11_lead_3 (fun _ _ hx => hx.elim) (fun r2 S1 h => ?_)
  refine z_widen (k' := 0) (n' := 0) (Nat.le_refl _) (Nat.le_refl _) ?_
  refine z_if_ne 13 dX11_lead_6 (by decide) (fun c44 => ?_) (fun c44 => ?_)
  · have h := h.1 c44
    refine z_iload_n 2 dX11_lead_13 rfl rfl ?_
    refine z_callSI (st := [.ref a0]) (w_X11_isCall h) zw_1514 zw_1512 zw_1513 zw_74 zy_X11_isCall rfl rfl ⟨Nat.le_of_ble_eq_true rfl, Nat.le_of_ble_eq_true rfl⟩ ⟨(Nat.le_of_ble_eq_true rfl), (Nat.le_of_ble_eq_true rfl)⟩ (Nat.le_of_ble_eq_true rfl) dX11_lead_14 (fun _ _ hx => hx.elim) (fun r4 S3 h => ?_)
    refine z_widen (k' := 0) (n' := 0) (Nat.le_refl _) (Nat.le_refl _) ?_
    refine z_if_ne 24 dX11_lead_17 (by decide) (fun c43 => ?_) (fun c43 => ?_)
    · have h := h.1 c43
      refine z_iconst (v := 0) dX11_lead_24 rfl ?_
      refine w_X11_lead_J25 a0 l1 l2 0 a0 S3 h
    · have h := h.2 c43
      refine z_iconst (v := 2) dX11_lead_20 rfl ?_
      refine z_goto 25 dX11_lead_21 (by decide) ?_
      refine w_X11_lead_J25 a0 l1 l2 2 a0 S3 h
  · have h := h.2 c44
    refine z_iconst (v := 1) dX11_lead_9 rfl ?_
    refine z_goto 25 dX11_lead_10 (by decide) ?_
    refine w_X11_lead_J25 a0 l1 l2 1 a0 S1 h
set_option maxRecDepth 20000 in
set_option maxHeartbeats 4000000 in
theorem w_X11_dropLeads {E : zE} {a0 : Nat} {S : zS} {Q : Int32 → zS → Prop} {X : String → zS → Prop} (h : p_X11_dropLeads E a0 S Q X) : zM E yX11_dropLeads cX11_dropLeads 2 (some .int) ({ frames := 0, cells := 0, slots := 0, locals := 0 } : Room) [.ref a0] S (qI Q) X := by
  unfold p_X11_dropLeads at h
  refine zM_of RX11 false (by decide) rfl (fun h => by cases h) (Nat.le_of_ble_eq_true rfl) ?_
  refine z_aload_n 0 dX11_dropLeads_0 rfl rfl ?_
  refine z_iconst (v := 0) dX11_dropLeads_1 rfl ?_
  obtain ⟨hf1, h⟩ := h
  have h := h _ rfl
  refine z_putV (c := 11) (j := 0) (ty0 := tyX11) (S' := sI S 1100 a0 0) hf1.1 hf1.2 (Nat.le_of_ble_eq_true rfl) rfl zU_X11 tyX11_ok nmX11 (Nat.le_of_ble_eq_true rfl) (Nat.le_of_ble_eq_true rfl) ⟨_, zw_1298, Or.inl rfl⟩ (.inl rfl) rfl rfl rfl (zUpI (v := 0) hf1.2 (Nat.le_of_ble_eq_true rfl) (Nat.le_of_ble_eq_true rfl) rfl rfl) dX11_dropLeads_2 ?_
  obtain ⟨S2, hS3⟩ : ∃ z, z = sI S 1100 a0 0 := ⟨_, rfl⟩
  rw [← hS3] at h ⊢
  have hf1 : a0 ∈ gL S2 ∧ gK S2 a0 = 11 := by rw [hS3]; exact hf1
  refine z_aload_n 0 dX11_dropLeads_5 rfl rfl ?_
  refine z_getI (c := 11) (j := 8) (f := 1108) hf1.1 hf1.2 (Nat.le_of_ble_eq_true rfl) rfl zU_X11 (Nat.le_of_ble_eq_true rfl) (Nat.le_of_ble_eq_true rfl) ⟨_, zw_1306, Or.inl rfl⟩ rfl rfl dX11_dropLeads_6 ?_
  refine z_istore_n (lv' := [(1, .int (gI S2 1108 a0)), (0, .ref a0)]) dX11_dropLeads_9 rfl (Nat.le_of_ble_eq_true rfl) rfl ?_
  refine z_aload_n 1 dX11_dropLeads_10 rfl rfl ?_
  refine z_iconst (v := 0) dX11_dropLeads_11 rfl ?_
  have h := h _ rfl
  refine z_putV (c := 11) (j := 8) (ty0 := tyX11) (S' := sI S2 1108 a0 0) hf1.1 hf1.2 (Nat.le_of_ble_eq_true rfl) rfl zU_X11 tyX11_ok nmX11 (Nat.le_of_ble_eq_true rfl) (Nat.le_of_ble_eq_true rfl) ⟨_, zw_1306, Or.inl rfl⟩ (.inl rfl) rfl rfl rfl (zUpI (v := 0) hf1.2 (Nat.le_of_ble_eq_true rfl) (Nat.le_of_ble_eq_true rfl) rfl rfl) dX11_dropLeads_12 ?_
  obtain ⟨S4, hS5⟩ : ∃ z, z = sI S2 1108 a0 0 := ⟨_, rfl⟩
  rw [← hS5] at h ⊢
  have hf1 : a0 ∈ gL S4 ∧ gK S4 a0 = 11 := by rw [hS5]; exact hf1
  refine z_iload_n 0 dX11_dropLeads_15 rfl rfl ?_
  exact z_ireturn ⟨rfl, _, rfl, h⟩ rfl (Nat.le_of_ble_eq_true rfl) (Nat.le_of_ble_eq_true rfl) dX11_dropLeads_16
set_option maxRecDepth 20000 in
set_option maxHeartbeats 4000000 in
theorem w_X11_touch_L49 {E : zE} {K83 : Nat → zS → Prop} {Q : Int32 → zS → Prop} {X : String → zS → Prop} (hK83 : ∀ (a0 : Nat) (S : zS), K83 a0 S → zJ E (RX11, cX11_touch, 2, (some .int), false, [], zTr) ({ frames := 0, cells := 0, slots := 0, locals := 0 } : Room) (zq (qI Q)) (zx X) 83 [(0, .ref a0)] [] [] S 0 0) : ∀ (m49 : Nat) (a0 : Nat) (l1 : Int32) (S : zS), p_X11_touch_L49 E K83 Q X m49 a0 l1 S → zJ E (RX11, cX11_touch, 2, (some .int), false, [], zTr) ({ frames := 0, cells := 0, slots := 0, locals := 0 } : Room) (zq (qI Q)) (zx X) 49 [(0, .ref a0), (1, .int l1)] [] [] S 0 0 := by
  intro m49
  induction m49 with
  | zero => intro a0 l1 S h; exact (show False from h).elim
  | succ m49 ih =>
    intro a0 l1 S h
    unfold p_X11_touch_L49 at h
    refine z_iload_n 1 dX11_touch_49 rfl rfl ?_
    refine z_aload_n 0 dX11_touch_50 rfl rfl ?_
    obtain ⟨hf13, h⟩ := h
    refine z_getI (c := 11) (j := 8) (f := 1108) hf13.1 hf13.2 (Nat.le_of_ble_eq_true rfl) rfl zU_X11 (Nat.le_of_ble_eq_true rfl) (Nat.le_of_ble_eq_true rfl) ⟨_, zw_1306, Or.inl rfl⟩ rfl rfl dX11_touch_51 ?_
    refine z_icmp_ge 83 dX11_touch_54 (by decide) (fun c27 => ?_) (fun c27 => ?_)
    · have h := h.1 c27
      refine z_sub [0] rfl ?_
      exact hK83 a0 S h
    · have h := h.2 c27
      refine z_aload_n 0 dX11_touch_57 rfl rfl ?_
      refine z_getQ (c := 11) (j := 12) (f := 1112) hf13.1 hf13.2 (Nat.le_of_ble_eq_true rfl) rfl zU_X11 (Nat.le_of_ble_eq_true rfl) (Nat.le_of_ble_eq_true rfl) ⟨_, zw_1310, Or.inl rfl⟩ rfl rfl dX11_touch_58 ?_
      refine z_bipush (v := 20) dX11_touch_61 rfl ?_
      refine z_aload_n 0 dX11_touch_63 rfl rfl ?_
      refine z_getI (c := 11) (j := 10) (f := 1110) hf13.1 hf13.2 (Nat.le_of_ble_eq_true rfl) rfl zU_X11 (Nat.le_of_ble_eq_true rfl) (Nat.le_of_ble_eq_true rfl) ⟨_, zw_1308, Or.inl rfl⟩ rfl rfl dX11_touch_64 ?_
      refine z_imul dX11_touch_67 ?_
      refine z_iload_n 1 dX11_touch_68 rfl rfl ?_
      refine z_iadd dX11_touch_69 ?_
      refine z_aload_n 0 dX11_touch_70 rfl rfl ?_
      refine z_getQ (c := 11) (j := 9) (f := 1109) hf13.1 hf13.2 (Nat.le_of_ble_eq_true rfl) rfl zU_X11 (Nat.le_of_ble_eq_true rfl) (Nat.le_of_ble_eq_true rfl) ⟨_, zw_1307, Or.inl rfl⟩ rfl rfl dX11_touch_71 ?_
      refine z_iload_n 1 dX11_touch_74 rfl rfl ?_
      obtain ⟨b14, hb15, h⟩ := h
      rw [show va_rf (gR S 1109 a0) = Value.ref b14 from by rw [hb15]; rfl]
      obtain ⟨hf16, h⟩ := h
      obtain ⟨j17, hj18, h⟩ := h
      refine z_iald (j := j17) hf16.1 hf16.2 hj18.1 hj18.2.1 hj18.2.2 dX11_touch_75 ?_
      obtain ⟨b19, hb20, h⟩ := h
      rw [show va_rf (gR S 1112 a0) = Value.ref b19 from by rw [hb20]; rfl]
      obtain ⟨hf21, h⟩ := h
      obtain ⟨j22, hj23, h⟩ := h
      have h := h _ rfl
      refine z_iast (j := j22) hf21.1 hf21.2 hj23.1 hj23.2.1 hj23.2.2 dX11_touch_76 ?_
      obtain ⟨S24, hS25⟩ : ∃ z, z = sA S b19 j22 (gA S b14 j17) := ⟨_, rfl⟩
      rw [← hS25] at h ⊢
      have hf13 : a0 ∈ gL S24 ∧ gK S24 a0 = 11 := by rw [hS25]; exact hf13
      have hf16 : b14 ∈ gL S24 ∧ gK S24 b14 = 12 := by rw [hS25]; exact hf16
      have hf21 : b19 ∈ gL S24 ∧ gK S24 b19 = 12 := by rw [hS25]; exact hf21
      refine z_iinc (v := (l1 + 1)) (lv' := [(1, .int (l1 + 1)), (0, .ref a0)]) 1 dX11_touch_77 rfl rfl (Nat.le_of_ble_eq_true rfl) rfl ?_
      refine z_goto 49 dX11_touch_80 (by decide) ?_
      refine z_sub [1, 0] rfl ?_
      exact ih a0 (l1 + 1) S24 h
set_option maxRecDepth 20000 in
set_option maxHeartbeats 4000000 in
theorem w_X11_touch_J22 {E : zE}  {Q : Int32 → zS → Prop} {X : String → zS → Prop}  (a0 : Nat) (l100 : Int32) (a101 : Nat) (S : zS) (h : p_X11_touch_J22 E  Q X a0 l100 a101 S) : zJ E (RX11, cX11_touch, 2, (some .int), false, [], zTr) ({ frames := 0, cells := 0, slots := 0, locals := 0 } : Room) (zq (qI Q)) (zx X) 22 [(0, .ref a0)] [.int l100, .ref a101] [] S 0 0 := by
  unfold p_X11_touch_J22 at h
  obtain ⟨hf2, h⟩ := h
  have h := h _ rfl
  refine z_putV (c := 11) (j := 0) (ty0 := tyX11) (S' := sI S 1100 a101 l100) hf2.1 hf2.2 (Nat.le_of_ble_eq_true rfl) rfl zU_X11 tyX11_ok nmX11 (Nat.le_of_ble_eq_true rfl) (Nat.le_of_ble_eq_true rfl) ⟨_, zw_1298, Or.inl rfl⟩ (.inl rfl) rfl rfl rfl (zUpI (v := l100) hf2.2 (Nat.le_of_ble_eq_true rfl) (Nat.le_of_ble_eq_true rfl) rfl rfl) dX11_touch_22 ?_
  obtain ⟨S3, hS4⟩ : ∃ z, z = sI S 1100 a101 l100 := ⟨_, rfl⟩
  rw [← hS4] at h ⊢
  have hf2 : a101 ∈ gL S3 ∧ gK S3 a101 = 11 := by rw [hS4]; exact hf2
  refine z_aload_n 0 dX11_touch_25 rfl rfl ?_
  obtain ⟨hf5, h⟩ := h
  refine z_getI (c := 11) (j := 0) (f := 1100) hf5.1 hf5.2 (Nat.le_of_ble_eq_true rfl) rfl zU_X11 (Nat.le_of_ble_eq_true rfl) (Nat.le_of_ble_eq_true rfl) ⟨_, zw_1298, Or.inl rfl⟩ rfl rfl dX11_touch_26 ?_
  refine z_if_le 34 dX11_touch_29 (by decide) (fun c34 => ?_) (fun c34 => ?_)
  · have h := h.1 c34
    refine z_aload_n 0 dX11_touch_34 rfl rfl ?_
    refine z_getQ (c := 11) (j := 11) (f := 1111) hf5.1 hf5.2 (Nat.le_of_ble_eq_true rfl) rfl zU_X11 (Nat.le_of_ble_eq_true rfl) (Nat.le_of_ble_eq_true rfl) ⟨_, zw_1309, Or.inl rfl⟩ rfl rfl dX11_touch_35 ?_
    refine z_aload_n 0 dX11_touch_38 rfl rfl ?_
    refine z_getI (c := 11) (j := 10) (f := 1110) hf5.1 hf5.2 (Nat.le_of_ble_eq_true rfl) rfl zU_X11 (Nat.le_of_ble_eq_true rfl) (Nat.le_of_ble_eq_true rfl) ⟨_, zw_1308, Or.inl rfl⟩ rfl rfl dX11_touch_39 ?_
    refine z_aload_n 0 dX11_touch_42 rfl rfl ?_
    refine z_getI (c := 11) (j := 8) (f := 1108) hf5.1 hf5.2 (Nat.le_of_ble_eq_true rfl) rfl zU_X11 (Nat.le_of_ble_eq_true rfl) (Nat.le_of_ble_eq_true rfl) ⟨_, zw_1306, Or.inl rfl⟩ rfl rfl dX11_touch_43 ?_
    obtain ⟨b6, hb7, h⟩ := h
    rw [show va_rf (gR S3 1111 a0) = Value.ref b6 from by rw [hb7]; rfl]
    obtain ⟨hf8, h⟩ := h
    obtain ⟨j9, hj10, h⟩ := h
    have h := h _ rfl
    refine z_iast (j := j9) hf8.1 hf8.2 hj10.1 hj10.2.1 hj10.2.2 dX11_touch_46 ?_
    obtain ⟨S11, hS12⟩ : ∃ z, z = sA S3 b6 j9 (gI S3 1108 a0) := ⟨_, rfl⟩
    rw [← hS12] at h ⊢
    have hf5 : a0 ∈ gL S11 ∧ gK S11 a0 = 11 := by rw [hS12]; exact hf5
    have hf2 : a101 ∈ gL S11 ∧ gK S11 a101 = 11 := by rw [hS12]; exact hf2
    have hf8 : b6 ∈ gL S11 ∧ gK S11 b6 = 12 := by rw [hS12]; exact hf8
    refine z_iconst (v := 0) dX11_touch_47 rfl ?_
    refine z_istore_n (lv' := [(1, .int 0), (0, .ref a0)]) dX11_touch_48 rfl (Nat.le_of_ble_eq_true rfl) rfl ?_
    obtain ⟨m49, h⟩ := h
    refine z_sub [1, 0] rfl ?_
    refine w_X11_touch_L49 (fun a0 S h => ?_) m49 a0 0 S11 h
    refine z_aload_n 0 dX11_touch_83 rfl rfl ?_
    refine z_iconst (v := 0) dX11_touch_84 rfl ?_
    obtain ⟨hf28, h⟩ := h
    have h := h _ rfl
    refine z_putV (c := 11) (j := 8) (ty0 := tyX11) (S' := sI S 1108 a0 0) hf28.1 hf28.2 (Nat.le_of_ble_eq_true rfl) rfl zU_X11 tyX11_ok nmX11 (Nat.le_of_ble_eq_true rfl) (Nat.le_of_ble_eq_true rfl) ⟨_, zw_1306, Or.inl rfl⟩ (.inl rfl) rfl rfl rfl (zUpI (v := 0) hf28.2 (Nat.le_of_ble_eq_true rfl) (Nat.le_of_ble_eq_true rfl) rfl rfl) dX11_touch_85 ?_
    obtain ⟨S29, hS30⟩ : ∃ z, z = sI S 1108 a0 0 := ⟨_, rfl⟩
    rw [← hS30] at h ⊢
    have hf28 : a0 ∈ gL S29 ∧ gK S29 a0 = 11 := by rw [hS30]; exact hf28
    refine z_aload_n 0 dX11_touch_88 rfl rfl ?_
    refine z_dup dX11_touch_89 rfl ?_
    refine z_getI (c := 11) (j := 10) (f := 1110) hf28.1 hf28.2 (Nat.le_of_ble_eq_true rfl) rfl zU_X11 (Nat.le_of_ble_eq_true rfl) (Nat.le_of_ble_eq_true rfl) ⟨_, zw_1308, Or.inl rfl⟩ rfl rfl dX11_touch_90 ?_
    refine z_iconst (v := 1) dX11_touch_93 rfl ?_
    refine z_iadd dX11_touch_94 ?_
    have h := h _ rfl
    refine z_putV (c := 11) (j := 10) (ty0 := tyX11) (S' := sI S29 1110 a0 ((gI S29 1110 a0) + 1)) hf28.1 hf28.2 (Nat.le_of_ble_eq_true rfl) rfl zU_X11 tyX11_ok nmX11 (Nat.le_of_ble_eq_true rfl) (Nat.le_of_ble_eq_true rfl) ⟨_, zw_1308, Or.inl rfl⟩ (.inl rfl) rfl rfl rfl (zUpI (v := ((gI S29 1110 a0) + 1)) hf28.2 (Nat.le_of_ble_eq_true rfl) (Nat.le_of_ble_eq_true rfl) rfl rfl) dX11_touch_95 ?_
    obtain ⟨S31, hS32⟩ : ∃ z, z = sI S29 1110 a0 ((gI S29 1110 a0) + 1) := ⟨_, rfl⟩
    rw [← hS32] at h ⊢
    have hf28 : a0 ∈ gL S31 ∧ gK S31 a0 = 11 := by rw [hS32]; exact hf28
    refine z_aload_n 0 dX11_touch_98 rfl rfl ?_
    refine z_getI (c := 11) (j := 10) (f := 1110) hf28.1 hf28.2 (Nat.le_of_ble_eq_true rfl) rfl zU_X11 (Nat.le_of_ble_eq_true rfl) (Nat.le_of_ble_eq_true rfl) ⟨_, zw_1308, Or.inl rfl⟩ rfl rfl dX11_touch_99 ?_
    refine z_iconst (v := 1) dX11_touch_102 rfl ?_
    refine z_isub dX11_touch_103 ?_
    exact z_ireturn ⟨rfl, _, rfl, h⟩ rfl (Nat.le_of_ble_eq_true rfl) (Nat.le_of_ble_eq_true rfl) dX11_touch_104
  · have h := h.2 c34
    refine z_iconst (v := 0) dX11_touch_32 rfl ?_
    exact z_ireturn ⟨rfl, _, rfl, h⟩ rfl (Nat.le_of_ble_eq_true rfl) (Nat.le_of_ble_eq_true rfl) dX11_touch_33
set_option maxRecDepth 20000 in
set_option maxHeartbeats 4000000 in
theorem w_X11_touch_J17 {E : zE}  {Q : Int32 → zS → Prop} {X : String → zS → Prop}  (a0 : Nat) (a100 : Nat) (S : zS) (h : p_X11_touch_J17 E  Q X a0 a100 S) : zJ E (RX11, cX11_touch, 2, (some .int), false, [], zTr) ({ frames := 0, cells := 0, slots := 0, locals := 0 } : Room) (zq (qI Q)) (zx X) 17 [(0, .ref a0)] [.ref a100] [] S 0 0 := by
  unfold p_X11_touch_J17 at h
  refine z_iconst (v := 1) dX11_touch_17 rfl ?_
  refine z_goto 22 dX11_touch_18 (by decide) ?_
  refine w_X11_touch_J22 a0 1 a100 S h
set_option maxRecDepth 20000 in
set_option maxHeartbeats 4000000 in
theorem w_X11_touch {E : zE} {a0 : Nat} {S : zS} {Q : Int32 → zS → Prop} {X : String → zS → Prop} (h : p_X11_touch E a0 S Q X) : zM E yX11_touch cX11_touch 2 (some .int) ({ frames := 0, cells := 0, slots := 0, locals := 0 } : Room) [.ref a0] S (qI Q) X := by
  unfold p_X11_touch at h
  refine zM_of RX11 false (by decide) rfl (fun h => by cases h) (Nat.le_of_ble_eq_true rfl) ?_
  refine z_aload_n 0 dX11_touch_0 rfl rfl ?_
  refine z_aload_n 0 dX11_touch_1 rfl rfl ?_
  obtain ⟨hf1, h⟩ := h
  refine z_getI (c := 11) (j := 8) (f := 1108) hf1.1 hf1.2 (Nat.le_of_ble_eq_true rfl) rfl zU_X11 (Nat.le_of_ble_eq_true rfl) (Nat.le_of_ble_eq_true rfl) ⟨_, zw_1306, Or.inl rfl⟩ rfl rfl dX11_touch_2 ?_
  refine z_if_eq 17 dX11_touch_5 (by decide) (fun c36 => ?_) (fun c36 => ?_)
  · have h := h.1 c36
    refine w_X11_touch_J17 a0 a0 S h
  · have h := h.2 c36
    refine z_aload_n 0 dX11_touch_8 rfl rfl ?_
    refine z_getI (c := 11) (j := 10) (f := 1110) hf1.1 hf1.2 (Nat.le_of_ble_eq_true rfl) rfl zU_X11 (Nat.le_of_ble_eq_true rfl) (Nat.le_of_ble_eq_true rfl) ⟨_, zw_1308, Or.inl rfl⟩ rfl rfl dX11_touch_9 ?_
    refine z_bipush (v := 12) dX11_touch_12 rfl ?_
    refine z_icmp_ne 21 dX11_touch_14 (by decide) (fun c35 => ?_) (fun c35 => ?_)
    · have h := h.1 c35
      refine z_iconst (v := 0) dX11_touch_21 rfl ?_
      refine w_X11_touch_J22 a0 0 a0 S h
    · have h := h.2 c35
      refine w_X11_touch_J17 a0 a0 S h
set_option maxRecDepth 20000 in
set_option maxHeartbeats 4000000 in
theorem w_X11_compose_L58 {E : zE} {K74 : Nat → Int32 → Int32 → Int32 → zS → Prop} {Q : Int32 → zS → Prop} {X : String → zS → Prop} (hK74 : ∀ (a0 : Nat) (l1 : Int32) (l2 : Int32) (l3 : Int32) (S : zS), K74 a0 l1 l2 l3 S → zJ E (RX11, cX11_compose, 8, (some .int), false, [], zTr) ({ frames := 4, cells := 0, slots := 0, locals := 91 } : Room) (zq (qI Q)) (zx X) 74 [(0, .ref a0), (1, .int l1), (2, .int l2), (3, .int l3)] [] [] S 0 0) : ∀ (m58 : Nat) (a0 : Nat) (l1 : Int32) (l2 : Int32) (l3 : Int32) (l4 : Int32) (S : zS), p_X11_compose_L58 E K74 Q X m58 a0 l1 l2 l3 l4 S → zJ E (RX11, cX11_compose, 8, (some .int), false, [], zTr) ({ frames := 4, cells := 0, slots := 0, locals := 91 } : Room) (zq (qI Q)) (zx X) 58 [(0, .ref a0), (1, .int l1), (2, .int l2), (3, .int l3), (4, .int l4)] [] [] S 0 0 := by
  intro m58
  induction m58 with
  | zero => intro a0 l1 l2 l3 l4 S h; exact (show False from h).elim
  | succ m58 ih =>
    intro a0 l1 l2 l3 l4 S h
    unfold p_X11_compose_L58 at h
    refine z_iload 4 dX11_compose_58 rfl ?_
    refine z_iload_n 2 dX11_compose_60 rfl rfl ?_
    refine z_icmp_ge 74 dX11_compose_61 (by decide) (fun c10 => ?_) (fun c10 => ?_)
    · have h := h.1 c10
      refine z_sub [0, 1, 2, 3] rfl ?_
      exact hK74 a0 l1 l2 l3 S h
    · have h := h.2 c10
      refine z_iload_n 3 dX11_compose_64 rfl rfl ?_
      refine z_iconst (v := 3) dX11_compose_65 rfl ?_
      refine z_imul dX11_compose_66 ?_
      refine z_istore_n (lv' := [(3, .int (l3 * 3)), (0, .ref a0), (1, .int l1), (2, .int l2), (4, .int l4)]) dX11_compose_67 rfl (Nat.le_of_ble_eq_true rfl) rfl ?_
      refine z_iinc (v := (l4 + 1)) (lv' := [(4, .int (l4 + 1)), (3, .int (l3 * 3)), (0, .ref a0), (1, .int l1), (2, .int l2)]) 4 dX11_compose_68 rfl rfl (Nat.le_of_ble_eq_true rfl) rfl ?_
      refine z_goto 58 dX11_compose_71 (by decide) ?_
      refine z_sub [2, 3, 4, 1, 0] rfl ?_
      exact ih a0 l1 l2 (l3 * 3) (l4 + 1) S h
set_option maxRecDepth 20000 in
set_option maxHeartbeats 4000000 in
theorem w_X11_compose_L110 {E : zE} {K150 : Nat → Int32 → Int32 → Int32 → Int32 → zS → Prop} {Q : Int32 → zS → Prop} {X : String → zS → Prop} (hK150 : ∀ (a0 : Nat) (l1 : Int32) (l2 : Int32) (l3 : Int32) (l5 : Int32) (S : zS), K150 a0 l1 l2 l3 l5 S → zJ E (RX11, cX11_compose, 8, (some .int), false, [], zTr) ({ frames := 4, cells := 0, slots := 0, locals := 91 } : Room) (zq (qI Q)) (zx X) 150 [(0, .ref a0), (1, .int l1), (2, .int l2), (3, .int l3), (5, .int l5)] [] [] S 0 0) : ∀ (m110 : Nat) (a0 : Nat) (l1 : Int32) (l2 : Int32) (l3 : Int32) (l5 : Int32) (l6 : Int32) (l7 : Int32) (S : zS), p_X11_compose_L110 E K150 Q X m110 a0 l1 l2 l3 l5 l6 l7 S → zJ E (RX11, cX11_compose, 8, (some .int), false, [], zTr) ({ frames := 4, cells := 0, slots := 0, locals := 91 } : Room) (zq (qI Q)) (zx X) 110 [(0, .ref a0), (1, .int l1), (2, .int l2), (3, .int l3), (5, .int l5), (6, .int l6), (7, .int l7)] [] [] S 0 0 := by
  intro m110
  induction m110 with
  | zero => intro a0 l1 l2 l3 l5 l6 l7 S h; exact (show False from h).elim
  | succ m110 ih =>
    intro a0 l1 l2 l3 l5 l6 l7 S h
    unfold p_X11_compose_L110 at h
    refine z_iload 6 dX11_compose_110 rfl ?_
    refine z_if_lt 150 dX11_compose_112 (by decide) (fun c28 => ?_) (fun c28 => ?_)
    · have h := h.1 c28
      refine z_sub [0, 1, 2, 3, 4] rfl ?_
      exact hK150 a0 l1 l2 l3 l5 S h
    · have h := h.2 c28
      refine z_aload_n 0 dX11_compose_115 rfl rfl ?_
      obtain ⟨hf19, h⟩ := h
      refine z_getQ (c := 11) (j := 12) (f := 1112) hf19.1 hf19.2 (Nat.le_of_ble_eq_true rfl) rfl zU_X11 (Nat.le_of_ble_eq_true rfl) (Nat.le_of_ble_eq_true rfl) ⟨_, zw_1310, Or.inl rfl⟩ rfl rfl dX11_compose_116 ?_
      refine z_bipush (v := 20) dX11_compose_119 rfl ?_
      refine z_aload_n 0 dX11_compose_121 rfl rfl ?_
      refine z_getI (c := 11) (j := 10) (f := 1110) hf19.1 hf19.2 (Nat.le_of_ble_eq_true rfl) rfl zU_X11 (Nat.le_of_ble_eq_true rfl) (Nat.le_of_ble_eq_true rfl) ⟨_, zw_1308, Or.inl rfl⟩ rfl rfl dX11_compose_122 ?_
      refine z_imul dX11_compose_125 ?_
      refine z_iload 6 dX11_compose_126 rfl ?_
      refine z_iadd dX11_compose_128 ?_
      refine z_iconst (v := 3) dX11_compose_129 rfl ?_
      refine z_iload_n 1 dX11_compose_130 rfl rfl ?_
      refine z_imul dX11_compose_131 ?_
      refine z_iload 5 dX11_compose_132 rfl ?_
      refine z_iconst (v := 3) dX11_compose_134 rfl ?_
      refine z_irem dX11_compose_135 (by decide) ?_
      refine z_iadd dX11_compose_136 ?_
      obtain ⟨b20, hb21, h⟩ := h
      rw [show va_rf (gR S 1112 a0) = Value.ref b20 from by rw [hb21]; rfl]
      obtain ⟨hf22, h⟩ := h
      obtain ⟨j23, hj24, h⟩ := h
      have h := h _ rfl
      refine z_iast (j := j23) hf22.1 hf22.2 hj24.1 hj24.2.1 hj24.2.2 dX11_compose_137 ?_
      obtain ⟨S25, hS26⟩ : ∃ z, z = sA S b20 j23 ((3 * l1) + (l6 - l6 / 3 * 3)) := ⟨_, rfl⟩
      rw [← hS26] at h ⊢
      have hf19 : a0 ∈ gL S25 ∧ gK S25 a0 = 11 := by rw [hS26]; exact hf19
      have hf22 : b20 ∈ gL S25 ∧ gK S25 b20 = 12 := by rw [hS26]; exact hf22
      refine z_iload 5 dX11_compose_138 rfl ?_
      refine z_iconst (v := 3) dX11_compose_140 rfl ?_
      refine z_idiv dX11_compose_141 (by decide) ?_
      refine z_istore (lv' := [(6, .int (l6 / 3)), (0, .ref a0), (1, .int l1), (2, .int l2), (3, .int l3), (5, .int l5), (7, .int l7)]) dX11_compose_142 (Nat.le_of_ble_eq_true rfl) rfl ?_
      refine z_iinc (v := (l7 + (-1))) (lv' := [(7, .int (l7 + (-1))), (6, .int (l6 / 3)), (0, .ref a0), (1, .int l1), (2, .int l2), (3, .int l3), (5, .int l5)]) 6 dX11_compose_144 rfl rfl (Nat.le_of_ble_eq_true rfl) rfl ?_
      refine z_goto 110 dX11_compose_147 (by decide) ?_
      refine z_sub [2, 3, 4, 5, 6, 1, 0] rfl ?_
      exact ih a0 l1 l2 l3 l5 (l6 / 3) (l7 + (-1)) S25 h
set_option maxRecDepth 20000 in
set_option maxHeartbeats 4000000 in
theorem w_X11_compose_L90 {E : zE} {K166 : Nat → Int32 → zS → Prop} {Q : Int32 → zS → Prop} {X : String → zS → Prop} (hK166 : ∀ (a0 : Nat) (l4 : Int32) (S : zS), K166 a0 l4 S → zJ E (RX11, cX11_compose, 8, (some .int), false, [], zTr) ({ frames := 4, cells := 0, slots := 0, locals := 91 } : Room) (zq (qI Q)) (zx X) 166 [(0, .ref a0), (4, .int l4)] [] [] S 0 0) : ∀ (m90 : Nat) (a0 : Nat) (l1 : Int32) (l2 : Int32) (l3 : Int32) (l4 : Int32) (l5 : Int32) (S : zS), p_X11_compose_L90 E K166 Q X m90 a0 l1 l2 l3 l4 l5 S → zJ E (RX11, cX11_compose, 8, (some .int), false, [], zTr) ({ frames := 4, cells := 0, slots := 0, locals := 91 } : Room) (zq (qI Q)) (zx X) 90 [(0, .ref a0), (1, .int l1), (2, .int l2), (3, .int l3), (4, .int l4), (5, .int l5)] [] [] S 0 0 := by
  intro m90
  induction m90 with
  | zero => intro a0 l1 l2 l3 l4 l5 S h; exact (show False from h).elim
  | succ m90 ih =>
    intro a0 l1 l2 l3 l4 l5 S h
    unfold p_X11_compose_L90 at h
    refine z_iload 5 dX11_compose_90 rfl ?_
    refine z_iload_n 3 dX11_compose_92 rfl rfl ?_
    refine z_icmp_ge 166 dX11_compose_93 (by decide) (fun c33 => ?_) (fun c33 => ?_)
    · have h := h.1 c33
      refine z_sub [0, 4] rfl ?_
      exact hK166 a0 l4 S h
    · have h := h.2 c33
      refine z_iload 4 dX11_compose_96 rfl ?_
      refine z_if_ne 166 dX11_compose_98 (by decide) (fun c32 => ?_) (fun c32 => ?_)
      · have h := h.1 c32
        refine z_sub [0, 4] rfl ?_
        exact hK166 a0 l4 S h
      · have h := h.2 c32
        refine z_iload 5 dX11_compose_101 rfl ?_
        refine z_istore (lv' := [(6, .int l5), (0, .ref a0), (1, .int l1), (2, .int l2), (3, .int l3), (4, .int l4), (5, .int l5)]) dX11_compose_103 (Nat.le_of_ble_eq_true rfl) rfl ?_
        refine z_iload_n 3 dX11_compose_105 rfl rfl ?_
        refine z_iconst (v := 1) dX11_compose_106 rfl ?_
        refine z_isub dX11_compose_107 ?_
        refine z_istore (lv' := [(7, .int (l2 - 1)), (6, .int l5), (0, .ref a0), (1, .int l1), (2, .int l2), (3, .int l3), (4, .int l4), (5, .int l5)]) dX11_compose_108 (Nat.le_of_ble_eq_true rfl) rfl ?_
        obtain ⟨m110, h⟩ := h
        refine z_sub [2, 3, 4, 5, 7, 1, 0] rfl ?_
        refine w_X11_compose_L110 (fun a0 l1 l2 l3 l5 S h => ?_) m110 a0 l1 l2 l3 l5 l5 (l2 - 1) S h
        refine z_aload_n 0 dX11_compose_150 rfl rfl ?_
        refine z_aload_n 0 dX11_compose_151 rfl rfl ?_
        obtain ⟨hf29, h⟩ := h
        refine z_getI (c := 11) (j := 10) (f := 1110) hf29.1 hf29.2 (Nat.le_of_ble_eq_true rfl) rfl zU_X11 (Nat.le_of_ble_eq_true rfl) (Nat.le_of_ble_eq_true rfl) ⟨_, zw_1308, Or.inl rfl⟩ rfl rfl dX11_compose_152 ?_
        refine z_callVI (ci := 11) (st := []) (w_X11_isSound h) hf29.1 hf29.2 (Nat.le_of_ble_eq_true rfl) rfl zw_1474 zw_1471 zw_1473 zw_34 zw_74 zy_X11_isSound rfl rfl ⟨Nat.le_of_ble_eq_true rfl, Nat.le_of_ble_eq_true rfl⟩ ⟨(Nat.le_of_ble_eq_true rfl), (Nat.le_of_ble_eq_true rfl)⟩ (Nat.le_of_ble_eq_true rfl) dX11_compose_155 (fun _ _ hx => hx.elim) (fun r31 S30 h => ?_)
        refine z_widen (k' := 0) (n' := 0) (Nat.le_refl _) (Nat.le_refl _) ?_
        refine z_istore (lv' := [(4, .int r31), (0, .ref a0), (1, .int l1), (2, .int l2), (3, .int l3), (5, .int l5)]) dX11_compose_158 (Nat.le_of_ble_eq_true rfl) rfl ?_
        refine z_iinc (v := (l5 + 1)) (lv' := [(5, .int (l5 + 1)), (4, .int r31), (0, .ref a0), (1, .int l1), (2, .int l2), (3, .int l3)]) 5 dX11_compose_160 rfl rfl (Nat.le_of_ble_eq_true rfl) rfl ?_
        refine z_goto 90 dX11_compose_163 (by decide) ?_
        refine z_sub [2, 3, 4, 5, 1, 0] rfl ?_
        exact ih a0 l1 l2 l3 r31 (l5 + 1) S30 h
set_option maxRecDepth 20000 in
set_option maxHeartbeats 4000000 in
theorem w_X11_compose_J166 {E : zE}  {Q : Int32 → zS → Prop} {X : String → zS → Prop}  (a0 : Nat) (l4 : Int32) (S : zS) (h : p_X11_compose_J166 E  Q X a0 l4 S) : zJ E (RX11, cX11_compose, 8, (some .int), false, [], zTr) ({ frames := 4, cells := 0, slots := 0, locals := 91 } : Room) (zq (qI Q)) (zx X) 166 [(0, .ref a0), (4, .int l4)] [] [] S 0 0 := by
  unfold p_X11_compose_J166 at h
  refine z_aload_n 0 dX11_compose_166 rfl rfl ?_
  refine z_dup dX11_compose_167 rfl ?_
  obtain ⟨hf34, h⟩ := h
  refine z_getI (c := 11) (j := 10) (f := 1110) hf34.1 hf34.2 (Nat.le_of_ble_eq_true rfl) rfl zU_X11 (Nat.le_of_ble_eq_true rfl) (Nat.le_of_ble_eq_true rfl) ⟨_, zw_1308, Or.inl rfl⟩ rfl rfl dX11_compose_168 ?_
  refine z_iload 1 dX11_compose_171 rfl ?_
  refine z_if_eq 180 dX11_compose_173 (by decide) (fun c41 => ?_) (fun c41 => ?_)
  · have h := h.1 c41
    refine z_iconst (v := 0) dX11_compose_180 rfl ?_
    refine z_iadd dX11_compose_181 ?_
    have h := h _ rfl
    refine z_putV (c := 11) (j := 10) (ty0 := tyX11) (S' := sI S 1110 a0 ((gI S 1110 a0) + 0)) hf34.1 hf34.2 (Nat.le_of_ble_eq_true rfl) rfl zU_X11 tyX11_ok nmX11 (Nat.le_of_ble_eq_true rfl) (Nat.le_of_ble_eq_true rfl) ⟨_, zw_1308, Or.inl rfl⟩ (.inl rfl) rfl rfl rfl (zUpI (v := ((gI S 1110 a0) + 0)) hf34.2 (Nat.le_of_ble_eq_true rfl) (Nat.le_of_ble_eq_true rfl) rfl rfl) dX11_compose_182 ?_
    obtain ⟨S35, hS36⟩ : ∃ z, z = sI S 1110 a0 ((gI S 1110 a0) + 0) := ⟨_, rfl⟩
    rw [← hS36] at h ⊢
    have hf34 : a0 ∈ gL S35 ∧ gK S35 a0 = 11 := by rw [hS36]; exact hf34
    refine z_iload 1 dX11_compose_185 rfl ?_
    refine z_if_eq 199 dX11_compose_187 (by decide) (fun c37 => ?_) (fun c37 => ?_)
    · have h := h.1 c37
      refine z_iconst (v := (-1)) dX11_compose_199 rfl ?_
      exact z_ireturn ⟨rfl, _, rfl, h⟩ rfl (Nat.le_of_ble_eq_true rfl) (Nat.le_of_ble_eq_true rfl) dX11_compose_200
    · have h := h.2 c37
      refine z_aload_n 0 dX11_compose_190 rfl rfl ?_
      refine z_getI (c := 11) (j := 10) (f := 1110) hf34.1 hf34.2 (Nat.le_of_ble_eq_true rfl) rfl zU_X11 (Nat.le_of_ble_eq_true rfl) (Nat.le_of_ble_eq_true rfl) ⟨_, zw_1308, Or.inl rfl⟩ rfl rfl dX11_compose_191 ?_
      refine z_iconst (v := 1) dX11_compose_194 rfl ?_
      refine z_isub dX11_compose_195 ?_
      refine z_goto 200 dX11_compose_196 (by decide) ?_
      exact z_ireturn ⟨rfl, _, rfl, h⟩ rfl (Nat.le_of_ble_eq_true rfl) (Nat.le_of_ble_eq_true rfl) dX11_compose_200
  · have h := h.2 c41
    refine z_iconst (v := 1) dX11_compose_176 rfl ?_
    refine z_goto 181 dX11_compose_177 (by decide) ?_
    refine z_iadd dX11_compose_181 ?_
    have h := h _ rfl
    refine z_putV (c := 11) (j := 10) (ty0 := tyX11) (S' := sI S 1110 a0 ((gI S 1110 a0) + 1)) hf34.1 hf34.2 (Nat.le_of_ble_eq_true rfl) rfl zU_X11 tyX11_ok nmX11 (Nat.le_of_ble_eq_true rfl) (Nat.le_of_ble_eq_true rfl) ⟨_, zw_1308, Or.inl rfl⟩ (.inl rfl) rfl rfl rfl (zUpI (v := ((gI S 1110 a0) + 1)) hf34.2 (Nat.le_of_ble_eq_true rfl) (Nat.le_of_ble_eq_true rfl) rfl rfl) dX11_compose_182 ?_
    obtain ⟨S38, hS39⟩ : ∃ z, z = sI S 1110 a0 ((gI S 1110 a0) + 1) := ⟨_, rfl⟩
    rw [← hS39] at h ⊢
    have hf34 : a0 ∈ gL S38 ∧ gK S38 a0 = 11 := by rw [hS39]; exact hf34
    refine z_iload 1 dX11_compose_185 rfl ?_
    refine z_if_eq 199 dX11_compose_187 (by decide) (fun c40 => ?_) (fun c40 => ?_)
    · have h := h.1 c40
      refine z_iconst (v := (-1)) dX11_compose_199 rfl ?_
      exact z_ireturn ⟨rfl, _, rfl, h⟩ rfl (Nat.le_of_ble_eq_true rfl) (Nat.le_of_ble_eq_true rfl) dX11_compose_200
    · have h := h.2 c40
      refine z_aload_n 0 dX11_compose_190 rfl rfl ?_
      refine z_getI (c := 11) (j := 10) (f := 1110) hf34.1 hf34.2 (Nat.le_of_ble_eq_true rfl) rfl zU_X11 (Nat.le_of_ble_eq_true rfl) (Nat.le_of_ble_eq_true rfl) ⟨_, zw_1308, Or.inl rfl⟩ rfl rfl dX11_compose_191 ?_
      refine z_iconst (v := 1) dX11_compose_194 rfl ?_
      refine z_isub dX11_compose_195 ?_
      refine z_goto 200 dX11_compose_196 (by decide) ?_
      exact z_ireturn ⟨rfl, _, rfl, h⟩ rfl (Nat.le_of_ble_eq_true rfl) (Nat.le_of_ble_eq_true rfl) dX11_compose_200
set_option maxRecDepth 20000 in
set_option maxHeartbeats 4000000 in
theorem w_X11_compose_J41 {E : zE}  {Q : Int32 → zS → Prop} {X : String → zS → Prop}  (a0 : Nat) (l1 : Int32) (l2 : Int32) (l100 : Int32) (a101 : Nat) (S : zS) (h : p_X11_compose_J41 E  Q X a0 l1 l2 l100 a101 S) : zJ E (RX11, cX11_compose, 8, (some .int), false, [], zTr) ({ frames := 4, cells := 0, slots := 0, locals := 91 } : Room) (zq (qI Q)) (zx X) 41 [(0, .ref a0), (1, .int l1), (2, .int l2)] [.int l100, .ref a101] [] S 0 0 := by
  unfold p_X11_compose_J41 at h
  obtain ⟨hf6, h⟩ := h
  have h := h _ rfl
  refine z_putV (c := 11) (j := 0) (ty0 := tyX11) (S' := sI S 1100 a101 l100) hf6.1 hf6.2 (Nat.le_of_ble_eq_true rfl) rfl zU_X11 tyX11_ok nmX11 (Nat.le_of_ble_eq_true rfl) (Nat.le_of_ble_eq_true rfl) ⟨_, zw_1298, Or.inl rfl⟩ (.inl rfl) rfl rfl rfl (zUpI (v := l100) hf6.2 (Nat.le_of_ble_eq_true rfl) (Nat.le_of_ble_eq_true rfl) rfl rfl) dX11_compose_41 ?_
  obtain ⟨S7, hS8⟩ : ∃ z, z = sI S 1100 a101 l100 := ⟨_, rfl⟩
  rw [← hS8] at h ⊢
  have hf6 : a101 ∈ gL S7 ∧ gK S7 a101 = 11 := by rw [hS8]; exact hf6
  refine z_aload_n 0 dX11_compose_44 rfl rfl ?_
  obtain ⟨hf9, h⟩ := h
  refine z_getI (c := 11) (j := 0) (f := 1100) hf9.1 hf9.2 (Nat.le_of_ble_eq_true rfl) rfl zU_X11 (Nat.le_of_ble_eq_true rfl) (Nat.le_of_ble_eq_true rfl) ⟨_, zw_1298, Or.inl rfl⟩ rfl rfl dX11_compose_45 ?_
  refine z_if_le 53 dX11_compose_48 (by decide) (fun c43 => ?_) (fun c43 => ?_)
  · have h := h.1 c43
    refine z_iconst (v := 1) dX11_compose_53 rfl ?_
    refine z_istore_n (lv' := [(3, .int 1), (0, .ref a0), (1, .int l1), (2, .int l2)]) dX11_compose_54 rfl (Nat.le_of_ble_eq_true rfl) rfl ?_
    refine z_iconst (v := 0) dX11_compose_55 rfl ?_
    refine z_istore (lv' := [(4, .int 0), (3, .int 1), (0, .ref a0), (1, .int l1), (2, .int l2)]) dX11_compose_56 (Nat.le_of_ble_eq_true rfl) rfl ?_
    obtain ⟨m58, h⟩ := h
    refine z_sub [2, 3, 4, 1, 0] rfl ?_
    refine w_X11_compose_L58 (fun a0 l1 l2 l3 S h => ?_) m58 a0 l1 l2 1 0 S7 h
    refine z_aload_n 0 dX11_compose_74 rfl rfl ?_
    obtain ⟨hf11, h⟩ := h
    refine z_getQ (c := 11) (j := 11) (f := 1111) hf11.1 hf11.2 (Nat.le_of_ble_eq_true rfl) rfl zU_X11 (Nat.le_of_ble_eq_true rfl) (Nat.le_of_ble_eq_true rfl) ⟨_, zw_1309, Or.inl rfl⟩ rfl rfl dX11_compose_75 ?_
    refine z_aload_n 0 dX11_compose_78 rfl rfl ?_
    refine z_getI (c := 11) (j := 10) (f := 1110) hf11.1 hf11.2 (Nat.le_of_ble_eq_true rfl) rfl zU_X11 (Nat.le_of_ble_eq_true rfl) (Nat.le_of_ble_eq_true rfl) ⟨_, zw_1308, Or.inl rfl⟩ rfl rfl dX11_compose_79 ?_
    refine z_iload_n 2 dX11_compose_82 rfl rfl ?_
    obtain ⟨b12, hb13, h⟩ := h
    rw [show va_rf (gR S 1111 a0) = Value.ref b12 from by rw [hb13]; rfl]
    obtain ⟨hf14, h⟩ := h
    obtain ⟨j15, hj16, h⟩ := h
    have h := h _ rfl
    refine z_iast (j := j15) hf14.1 hf14.2 hj16.1 hj16.2.1 hj16.2.2 dX11_compose_83 ?_
    obtain ⟨S17, hS18⟩ : ∃ z, z = sA S b12 j15 l2 := ⟨_, rfl⟩
    rw [← hS18] at h ⊢
    have hf11 : a0 ∈ gL S17 ∧ gK S17 a0 = 11 := by rw [hS18]; exact hf11
    have hf14 : b12 ∈ gL S17 ∧ gK S17 b12 = 12 := by rw [hS18]; exact hf14
    refine z_iconst (v := 0) dX11_compose_84 rfl ?_
    refine z_istore (lv' := [(4, .int 0), (0, .ref a0), (1, .int l1), (2, .int l2), (3, .int l3)]) dX11_compose_85 (Nat.le_of_ble_eq_true rfl) rfl ?_
    refine z_iconst (v := 0) dX11_compose_87 rfl ?_
    refine z_istore (lv' := [(5, .int 0), (4, .int 0), (0, .ref a0), (1, .int l1), (2, .int l2), (3, .int l3)]) dX11_compose_88 (Nat.le_of_ble_eq_true rfl) rfl ?_
    obtain ⟨m90, h⟩ := h
    refine z_sub [2, 3, 4, 5, 1, 0] rfl ?_
    refine w_X11_compose_L90 (fun a0 l4 S h => ?_) m90 a0 l1 l2 l3 0 0 S17 h
    refine w_X11_compose_J166 a0 l4 S h
  · have h := h.2 c43
    refine z_iconst (v := 0) dX11_compose_51 rfl ?_
    exact z_ireturn ⟨rfl, _, rfl, h⟩ rfl (Nat.le_of_ble_eq_true rfl) (Nat.le_of_ble_eq_true rfl) dX11_compose_52
set_option maxRecDepth 20000 in
set_option maxHeartbeats 4000000 in
theorem w_X11_compose {E : zE} {a0 : Nat} {l1 : Int32} {l2 : Int32} {S : zS} {Q : Int32 → zS → Prop} {X : String → zS → Prop} (h : p_X11_compose E a0 l1 l2 S Q X) : zM E yX11_compose cX11_compose 8 (some .int) ({ frames := 4, cells := 0, slots := 0, locals := 91 } : Room) [.ref a0, .int l1, .int l2] S (qI Q) X := by
  unfold p_X11_compose at h
  refine zM_of RX11 false (by decide) rfl (fun h => by cases h) (Nat.le_of_ble_eq_true rfl) ?_
  refine z_aload_n 0 dX11_compose_0 rfl rfl ?_
  refine z_aload_n 0 dX11_compose_1 rfl rfl ?_
  refine z_iload_n 1 dX11_compose_2 rfl rfl ?_
  obtain ⟨hf47, h⟩ := h
  refine z_callVI (ci := 11) (st := [.ref a0]) (w_X11_isMethod h) hf47.1 hf47.2 (Nat.le_of_ble_eq_true rfl) rfl zw_1454 zw_1451 zw_1453 zw_29 zw_74 zy_X11_isMethod rfl rfl ⟨Nat.le_of_ble_eq_true rfl, Nat.le_of_ble_eq_true rfl⟩ ⟨(Nat.le_of_ble_eq_true rfl), (Nat.le_of_ble_eq_true rfl)⟩ (Nat.le_of_ble_eq_true rfl) dX11_compose_3 (fun _ _ hx => hx.elim) (fun r2 S1 h => ?_)
  refine z_widen (k' := 0) (n' := 0) (Nat.le_refl _) (Nat.le_refl _) ?_
  refine z_if_ne 13 dX11_compose_6 (by decide) (fun c46 => ?_) (fun c46 => ?_)
  · have h := h.1 c46
    refine z_iload_n 2 dX11_compose_13 rfl rfl ?_
    refine z_iconst (v := 1) dX11_compose_14 rfl ?_
    refine z_bipush (v := 6) dX11_compose_15 rfl ?_
    refine z_callSI (st := [.ref a0]) (w_X11_in h) zw_1435 zw_1433 zw_1434 zw_74 zy_X11_in rfl rfl ⟨Nat.le_of_ble_eq_true rfl, Nat.le_of_ble_eq_true rfl⟩ ⟨(Nat.le_of_ble_eq_true rfl), (Nat.le_of_ble_eq_true rfl)⟩ (Nat.le_of_ble_eq_true rfl) dX11_compose_17 (fun _ _ hx => hx.elim) (fun r4 S3 h => ?_)
    refine z_widen (k' := 0) (n' := 0) (Nat.le_refl _) (Nat.le_refl _) ?_
    refine z_if_ne 27 dX11_compose_20 (by decide) (fun c45 => ?_) (fun c45 => ?_)
    · have h := h.1 c45
      refine z_aload_n 0 dX11_compose_27 rfl rfl ?_
      obtain ⟨hf5, h⟩ := h
      refine z_getI (c := 11) (j := 10) (f := 1110) hf5.1 hf5.2 (Nat.le_of_ble_eq_true rfl) rfl zU_X11 (Nat.le_of_ble_eq_true rfl) (Nat.le_of_ble_eq_true rfl) ⟨_, zw_1308, Or.inl rfl⟩ rfl rfl dX11_compose_28 ?_
      refine z_bipush (v := 12) dX11_compose_31 rfl ?_
      refine z_icmp_ne 40 dX11_compose_33 (by decide) (fun c44 => ?_) (fun c44 => ?_)
      · have h := h.1 c44
        refine z_iconst (v := 0) dX11_compose_40 rfl ?_
        refine w_X11_compose_J41 a0 l1 l2 0 a0 S3 h
      · have h := h.2 c44
        refine z_iconst (v := 3) dX11_compose_36 rfl ?_
        refine z_goto 41 dX11_compose_37 (by decide) ?_
        refine w_X11_compose_J41 a0 l1 l2 3 a0 S3 h
    · have h := h.2 c45
      refine z_iconst (v := 2) dX11_compose_23 rfl ?_
      refine z_goto 41 dX11_compose_24 (by decide) ?_
      refine w_X11_compose_J41 a0 l1 l2 2 a0 S3 h
  · have h := h.2 c46
    refine z_iconst (v := 1) dX11_compose_9 rfl ?_
    refine z_goto 41 dX11_compose_10 (by decide) ?_
    refine w_X11_compose_J41 a0 l1 l2 1 a0 S1 h
set_option maxRecDepth 20000 in
set_option maxHeartbeats 4000000 in
theorem w_X11_isTouch {E : zE} {a0 : Nat} {l1 : Int32} {S : zS} {Q : Int32 → zS → Prop} {X : String → zS → Prop} (h : p_X11_isTouch E a0 l1 S Q X) : zM E yX11_isTouch cX11_isTouch 2 (some .boolean) ({ frames := 1, cells := 0, slots := 0, locals := 22 } : Room) [.ref a0, .int l1] S (qI Q) X := by
  unfold p_X11_isTouch at h
  refine zM_of RX11 false (by decide) rfl (fun h => by cases h) (Nat.le_of_ble_eq_true rfl) ?_
  refine z_iload_n 1 dX11_isTouch_0 rfl rfl ?_
  refine z_iconst (v := 0) dX11_isTouch_1 rfl ?_
  refine z_aload_n 0 dX11_isTouch_2 rfl rfl ?_
  obtain ⟨hf1, h⟩ := h
  refine z_getI (c := 11) (j := 10) (f := 1110) hf1.1 hf1.2 (Nat.le_of_ble_eq_true rfl) rfl zU_X11 (Nat.le_of_ble_eq_true rfl) (Nat.le_of_ble_eq_true rfl) ⟨_, zw_1308, Or.inl rfl⟩ rfl rfl dX11_isTouch_3 ?_
  refine z_iconst (v := 1) dX11_isTouch_6 rfl ?_
  refine z_isub dX11_isTouch_7 ?_
  refine z_callSI (st := []) (w_X11_in h) zw_1435 zw_1433 zw_1434 zw_74 zy_X11_in rfl rfl ⟨Nat.le_of_ble_eq_true rfl, Nat.le_of_ble_eq_true rfl⟩ ⟨(Nat.le_of_ble_eq_true rfl), (Nat.le_of_ble_eq_true rfl)⟩ (Nat.le_of_ble_eq_true rfl) dX11_isTouch_8 (fun _ _ hx => hx.elim) (fun r3 S2 h => ?_)
  refine z_widen (k' := 0) (n' := 0) (Nat.le_refl _) (Nat.le_refl _) ?_
  obtain ⟨hz4, h⟩ := h
  exact z_zreturn ⟨rfl, _, rfl, h⟩ rfl (zbn hz4) (Nat.le_of_ble_eq_true rfl) (Nat.le_of_ble_eq_true rfl) dX11_isTouch_11
set_option maxRecDepth 20000 in
set_option maxHeartbeats 4000000 in
theorem w_X11_asksTouch {E : zE} {a0 : Nat} {l1 : Int32} {S : zS} {Q : Int32 → zS → Prop} {X : String → zS → Prop} (h : p_X11_asksTouch E a0 l1 S Q X) : zM E yX11_asksTouch cX11_asksTouch 2 (some .boolean) ({ frames := 3, cells := 0, slots := 0, locals := 70 } : Room) [.ref a0, .int l1] S (qI Q) X := by
  unfold p_X11_asksTouch at h
  refine zM_of RX11 false (by decide) rfl (fun h => by cases h) (Nat.le_of_ble_eq_true rfl) ?_
  refine z_aload_n 0 dX11_asksTouch_0 rfl rfl ?_
  refine z_aload_n 0 dX11_asksTouch_1 rfl rfl ?_
  refine z_iload_n 1 dX11_asksTouch_2 rfl rfl ?_
  obtain ⟨hf30, h⟩ := h
  refine z_callVI (ci := 11) (st := [.ref a0]) (w_X11_isTouch h) hf30.1 hf30.2 (Nat.le_of_ble_eq_true rfl) rfl zw_1584 zw_1581 zw_1583 zw_45 zw_74 zy_X11_isTouch rfl rfl ⟨Nat.le_of_ble_eq_true rfl, Nat.le_of_ble_eq_true rfl⟩ ⟨(Nat.le_of_ble_eq_true rfl), (Nat.le_of_ble_eq_true rfl)⟩ (Nat.le_of_ble_eq_true rfl) dX11_asksTouch_3 (fun _ _ hx => hx.elim) (fun r2 S1 h => ?_)
  refine z_widen (k' := 0) (n' := 0) (Nat.le_refl _) (Nat.le_refl _) ?_
  refine z_if_eq 13 dX11_asksTouch_6 (by decide) (fun c29 => ?_) (fun c29 => ?_)
  · have h := h.1 c29
    refine z_iconst (v := 1) dX11_asksTouch_13 rfl ?_
    obtain ⟨hf3, h⟩ := h
    have h := h _ rfl
    refine z_putV (c := 11) (j := 0) (ty0 := tyX11) (S' := sI S1 1100 a0 1) hf3.1 hf3.2 (Nat.le_of_ble_eq_true rfl) rfl zU_X11 tyX11_ok nmX11 (Nat.le_of_ble_eq_true rfl) (Nat.le_of_ble_eq_true rfl) ⟨_, zw_1298, Or.inl rfl⟩ (.inl rfl) rfl rfl rfl (zUpI (v := 1) hf3.2 (Nat.le_of_ble_eq_true rfl) (Nat.le_of_ble_eq_true rfl) rfl rfl) dX11_asksTouch_14 ?_
    obtain ⟨S4, hS5⟩ : ∃ z, z = sI S1 1100 a0 1 := ⟨_, rfl⟩
    rw [← hS5] at h ⊢
    have hf3 : a0 ∈ gL S4 ∧ gK S4 a0 = 11 := by rw [hS5]; exact hf3
    refine z_aload_n 0 dX11_asksTouch_17 rfl rfl ?_
    refine z_getI (c := 11) (j := 0) (f := 1100) hf3.1 hf3.2 (Nat.le_of_ble_eq_true rfl) rfl zU_X11 (Nat.le_of_ble_eq_true rfl) (Nat.le_of_ble_eq_true rfl) ⟨_, zw_1298, Or.inl rfl⟩ rfl rfl dX11_asksTouch_18 ?_
    refine z_if_ne 29 dX11_asksTouch_21 (by decide) (fun c15 => ?_) (fun c15 => ?_)
    · have h := h.1 c15
      refine z_aload_n 0 dX11_asksTouch_29 rfl rfl ?_
      refine z_getI (c := 11) (j := 0) (f := 1100) hf3.1 hf3.2 (Nat.le_of_ble_eq_true rfl) rfl zU_X11 (Nat.le_of_ble_eq_true rfl) (Nat.le_of_ble_eq_true rfl) ⟨_, zw_1298, Or.inl rfl⟩ rfl rfl dX11_asksTouch_30 ?_
      refine z_if_ne 40 dX11_asksTouch_33 (by decide) (fun c8 => ?_) (fun c8 => ?_)
      · have h := h.1 c8
        refine z_iconst (v := 0) dX11_asksTouch_40 rfl ?_
        obtain ⟨hz6, h⟩ := h
        exact z_zreturn ⟨rfl, _, rfl, h⟩ rfl (zbn hz6) (Nat.le_of_ble_eq_true rfl) (Nat.le_of_ble_eq_true rfl) dX11_asksTouch_41
      · have h := h.2 c8
        refine z_iconst (v := 1) dX11_asksTouch_36 rfl ?_
        refine z_goto 41 dX11_asksTouch_37 (by decide) ?_
        obtain ⟨hz7, h⟩ := h
        exact z_zreturn ⟨rfl, _, rfl, h⟩ rfl (zbn hz7) (Nat.le_of_ble_eq_true rfl) (Nat.le_of_ble_eq_true rfl) dX11_asksTouch_41
    · have h := h.2 c15
      refine z_aload_n 0 dX11_asksTouch_24 rfl rfl ?_
      refine z_iload_n 1 dX11_asksTouch_25 rfl rfl ?_
      refine z_callVV (ci := 11) (st := []) (w_X11_writes h) hf3.1 hf3.2 (Nat.le_of_ble_eq_true rfl) rfl zw_1478 zw_1475 zw_1477 zw_35 zw_74 zy_X11_writes rfl rfl ⟨Nat.le_of_ble_eq_true rfl, Nat.le_of_ble_eq_true rfl⟩ ⟨(Nat.le_of_ble_eq_true rfl), (Nat.le_of_ble_eq_true rfl)⟩ (Nat.le_of_ble_eq_true rfl) dX11_asksTouch_26 (fun _ _ hx => hx.elim) (fun S9 h => ?_)
      refine z_widen (k' := 0) (n' := 0) (Nat.le_refl _) (Nat.le_refl _) ?_
      refine z_aload_n 0 dX11_asksTouch_29 rfl rfl ?_
      obtain ⟨hf11, h⟩ := h
      refine z_getI (c := 11) (j := 0) (f := 1100) hf11.1 hf11.2 (Nat.le_of_ble_eq_true rfl) rfl zU_X11 (Nat.le_of_ble_eq_true rfl) (Nat.le_of_ble_eq_true rfl) ⟨_, zw_1298, Or.inl rfl⟩ rfl rfl dX11_asksTouch_30 ?_
      refine z_if_ne 40 dX11_asksTouch_33 (by decide) (fun c14 => ?_) (fun c14 => ?_)
      · have h := h.1 c14
        refine z_iconst (v := 0) dX11_asksTouch_40 rfl ?_
        obtain ⟨hz12, h⟩ := h
        exact z_zreturn ⟨rfl, _, rfl, h⟩ rfl (zbn hz12) (Nat.le_of_ble_eq_true rfl) (Nat.le_of_ble_eq_true rfl) dX11_asksTouch_41
      · have h := h.2 c14
        refine z_iconst (v := 1) dX11_asksTouch_36 rfl ?_
        refine z_goto 41 dX11_asksTouch_37 (by decide) ?_
        obtain ⟨hz13, h⟩ := h
        exact z_zreturn ⟨rfl, _, rfl, h⟩ rfl (zbn hz13) (Nat.le_of_ble_eq_true rfl) (Nat.le_of_ble_eq_true rfl) dX11_asksTouch_41
  · have h := h.2 c29
    refine z_iconst (v := 0) dX11_asksTouch_9 rfl ?_
    refine z_goto 14 dX11_asksTouch_10 (by decide) ?_
    obtain ⟨hf16, h⟩ := h
    have h := h _ rfl
    refine z_putV (c := 11) (j := 0) (ty0 := tyX11) (S' := sI S1 1100 a0 0) hf16.1 hf16.2 (Nat.le_of_ble_eq_true rfl) rfl zU_X11 tyX11_ok nmX11 (Nat.le_of_ble_eq_true rfl) (Nat.le_of_ble_eq_true rfl) ⟨_, zw_1298, Or.inl rfl⟩ (.inl rfl) rfl rfl rfl (zUpI (v := 0) hf16.2 (Nat.le_of_ble_eq_true rfl) (Nat.le_of_ble_eq_true rfl) rfl rfl) dX11_asksTouch_14 ?_
    obtain ⟨S17, hS18⟩ : ∃ z, z = sI S1 1100 a0 0 := ⟨_, rfl⟩
    rw [← hS18] at h ⊢
    have hf16 : a0 ∈ gL S17 ∧ gK S17 a0 = 11 := by rw [hS18]; exact hf16
    refine z_aload_n 0 dX11_asksTouch_17 rfl rfl ?_
    refine z_getI (c := 11) (j := 0) (f := 1100) hf16.1 hf16.2 (Nat.le_of_ble_eq_true rfl) rfl zU_X11 (Nat.le_of_ble_eq_true rfl) (Nat.le_of_ble_eq_true rfl) ⟨_, zw_1298, Or.inl rfl⟩ rfl rfl dX11_asksTouch_18 ?_
    refine z_if_ne 29 dX11_asksTouch_21 (by decide) (fun c28 => ?_) (fun c28 => ?_)
    · have h := h.1 c28
      refine z_aload_n 0 dX11_asksTouch_29 rfl rfl ?_
      refine z_getI (c := 11) (j := 0) (f := 1100) hf16.1 hf16.2 (Nat.le_of_ble_eq_true rfl) rfl zU_X11 (Nat.le_of_ble_eq_true rfl) (Nat.le_of_ble_eq_true rfl) ⟨_, zw_1298, Or.inl rfl⟩ rfl rfl dX11_asksTouch_30 ?_
      refine z_if_ne 40 dX11_asksTouch_33 (by decide) (fun c21 => ?_) (fun c21 => ?_)
      · have h := h.1 c21
        refine z_iconst (v := 0) dX11_asksTouch_40 rfl ?_
        obtain ⟨hz19, h⟩ := h
        exact z_zreturn ⟨rfl, _, rfl, h⟩ rfl (zbn hz19) (Nat.le_of_ble_eq_true rfl) (Nat.le_of_ble_eq_true rfl) dX11_asksTouch_41
      · have h := h.2 c21
        refine z_iconst (v := 1) dX11_asksTouch_36 rfl ?_
        refine z_goto 41 dX11_asksTouch_37 (by decide) ?_
        obtain ⟨hz20, h⟩ := h
        exact z_zreturn ⟨rfl, _, rfl, h⟩ rfl (zbn hz20) (Nat.le_of_ble_eq_true rfl) (Nat.le_of_ble_eq_true rfl) dX11_asksTouch_41
    · have h := h.2 c28
      refine z_aload_n 0 dX11_asksTouch_24 rfl rfl ?_
      refine z_iload_n 1 dX11_asksTouch_25 rfl rfl ?_
      refine z_callVV (ci := 11) (st := []) (w_X11_writes h) hf16.1 hf16.2 (Nat.le_of_ble_eq_true rfl) rfl zw_1478 zw_1475 zw_1477 zw_35 zw_74 zy_X11_writes rfl rfl ⟨Nat.le_of_ble_eq_true rfl, Nat.le_of_ble_eq_true rfl⟩ ⟨(Nat.le_of_ble_eq_true rfl), (Nat.le_of_ble_eq_true rfl)⟩ (Nat.le_of_ble_eq_true rfl) dX11_asksTouch_26 (fun _ _ hx => hx.elim) (fun S22 h => ?_)
      refine z_widen (k' := 0) (n' := 0) (Nat.le_refl _) (Nat.le_refl _) ?_
      refine z_aload_n 0 dX11_asksTouch_29 rfl rfl ?_
      obtain ⟨hf24, h⟩ := h
      refine z_getI (c := 11) (j := 0) (f := 1100) hf24.1 hf24.2 (Nat.le_of_ble_eq_true rfl) rfl zU_X11 (Nat.le_of_ble_eq_true rfl) (Nat.le_of_ble_eq_true rfl) ⟨_, zw_1298, Or.inl rfl⟩ rfl rfl dX11_asksTouch_30 ?_
      refine z_if_ne 40 dX11_asksTouch_33 (by decide) (fun c27 => ?_) (fun c27 => ?_)
      · have h := h.1 c27
        refine z_iconst (v := 0) dX11_asksTouch_40 rfl ?_
        obtain ⟨hz25, h⟩ := h
        exact z_zreturn ⟨rfl, _, rfl, h⟩ rfl (zbn hz25) (Nat.le_of_ble_eq_true rfl) (Nat.le_of_ble_eq_true rfl) dX11_asksTouch_41
      · have h := h.2 c27
        refine z_iconst (v := 1) dX11_asksTouch_36 rfl ?_
        refine z_goto 41 dX11_asksTouch_37 (by decide) ?_
        obtain ⟨hz26, h⟩ := h
        exact z_zreturn ⟨rfl, _, rfl, h⟩ rfl (zbn hz26) (Nat.le_of_ble_eq_true rfl) (Nat.le_of_ble_eq_true rfl) dX11_asksTouch_41
set_option maxRecDepth 20000 in
set_option maxHeartbeats 4000000 in
theorem w_X11_touches {E : zE} {a0 : Nat} {S : zS} {Q : Int32 → zS → Prop} {X : String → zS → Prop} (h : p_X11_touches E a0 S Q X) : zM E yX11_touches cX11_touches 1 (some .int) ({ frames := 0, cells := 0, slots := 0, locals := 0 } : Room) [.ref a0] S (qI Q) X := by
  unfold p_X11_touches at h
  refine zM_of RX11 false (by decide) rfl (fun h => by cases h) (Nat.le_of_ble_eq_true rfl) ?_
  refine z_aload_n 0 dX11_touches_0 rfl rfl ?_
  refine z_iconst (v := 0) dX11_touches_1 rfl ?_
  obtain ⟨hf1, h⟩ := h
  have h := h _ rfl
  refine z_putV (c := 11) (j := 0) (ty0 := tyX11) (S' := sI S 1100 a0 0) hf1.1 hf1.2 (Nat.le_of_ble_eq_true rfl) rfl zU_X11 tyX11_ok nmX11 (Nat.le_of_ble_eq_true rfl) (Nat.le_of_ble_eq_true rfl) ⟨_, zw_1298, Or.inl rfl⟩ (.inl rfl) rfl rfl rfl (zUpI (v := 0) hf1.2 (Nat.le_of_ble_eq_true rfl) (Nat.le_of_ble_eq_true rfl) rfl rfl) dX11_touches_2 ?_
  obtain ⟨S2, hS3⟩ : ∃ z, z = sI S 1100 a0 0 := ⟨_, rfl⟩
  rw [← hS3] at h ⊢
  have hf1 : a0 ∈ gL S2 ∧ gK S2 a0 = 11 := by rw [hS3]; exact hf1
  refine z_aload_n 0 dX11_touches_5 rfl rfl ?_
  refine z_getI (c := 11) (j := 10) (f := 1110) hf1.1 hf1.2 (Nat.le_of_ble_eq_true rfl) rfl zU_X11 (Nat.le_of_ble_eq_true rfl) (Nat.le_of_ble_eq_true rfl) ⟨_, zw_1308, Or.inl rfl⟩ rfl rfl dX11_touches_6 ?_
  exact z_ireturn ⟨rfl, _, rfl, h⟩ rfl (Nat.le_of_ble_eq_true rfl) (Nat.le_of_ble_eq_true rfl) dX11_touches_9
set_option maxRecDepth 20000 in
set_option maxHeartbeats 4000000 in
theorem w_X11_leads {E : zE} {a0 : Nat} {l1 : Int32} {S : zS} {Q : Int32 → zS → Prop} {X : String → zS → Prop} (h : p_X11_leads E a0 l1 S Q X) : zM E yX11_leads cX11_leads 2 (some .int) ({ frames := 4, cells := 0, slots := 0, locals := 91 } : Room) [.ref a0, .int l1] S (qI Q) X := by
  unfold p_X11_leads at h
  refine zM_of RX11 false (by decide) rfl (fun h => by cases h) (Nat.le_of_ble_eq_true rfl) ?_
  refine z_aload_n 0 dX11_leads_0 rfl rfl ?_
  refine z_iload_n 1 dX11_leads_1 rfl rfl ?_
  obtain ⟨hf10, h⟩ := h
  refine z_callVI (ci := 11) (st := []) (w_X11_asksTouch h) hf10.1 hf10.2 (Nat.le_of_ble_eq_true rfl) rfl zw_1580 zw_1577 zw_1579 zw_44 zw_74 zy_X11_asksTouch rfl rfl ⟨Nat.le_of_ble_eq_true rfl, Nat.le_of_ble_eq_true rfl⟩ ⟨(Nat.le_of_ble_eq_true rfl), (Nat.le_of_ble_eq_true rfl)⟩ (Nat.le_of_ble_eq_true rfl) dX11_leads_2 (fun _ _ hx => hx.elim) (fun r2 S1 h => ?_)
  refine z_widen (k' := 0) (n' := 0) (Nat.le_refl _) (Nat.le_refl _) ?_
  refine z_if_eq 17 dX11_leads_5 (by decide) (fun c9 => ?_) (fun c9 => ?_)
  · have h := h.1 c9
    refine z_iconst (v := 0) dX11_leads_17 rfl ?_
    exact z_ireturn ⟨rfl, _, rfl, h⟩ rfl (Nat.le_of_ble_eq_true rfl) (Nat.le_of_ble_eq_true rfl) dX11_leads_18
  · have h := h.2 c9
    refine z_aload_n 0 dX11_leads_8 rfl rfl ?_
    obtain ⟨hf3, h⟩ := h
    refine z_getQ (c := 11) (j := 11) (f := 1111) hf3.1 hf3.2 (Nat.le_of_ble_eq_true rfl) rfl zU_X11 (Nat.le_of_ble_eq_true rfl) (Nat.le_of_ble_eq_true rfl) ⟨_, zw_1309, Or.inl rfl⟩ rfl rfl dX11_leads_9 ?_
    refine z_iload_n 1 dX11_leads_12 rfl rfl ?_
    obtain ⟨b4, hb5, h⟩ := h
    rw [show va_rf (gR S1 1111 a0) = Value.ref b4 from by rw [hb5]; rfl]
    obtain ⟨hf6, h⟩ := h
    obtain ⟨j7, hj8, h⟩ := h
    refine z_iald (j := j7) hf6.1 hf6.2 hj8.1 hj8.2.1 hj8.2.2 dX11_leads_13 ?_
    refine z_goto 18 dX11_leads_14 (by decide) ?_
    exact z_ireturn ⟨rfl, _, rfl, h⟩ rfl (Nat.le_of_ble_eq_true rfl) (Nat.le_of_ble_eq_true rfl) dX11_leads_18
set_option maxRecDepth 20000 in
set_option maxHeartbeats 4000000 in
theorem w_X11_leadAt_J30 {E : zE}  {Q : Int32 → zS → Prop} {X : String → zS → Prop}  (a0 : Nat) (l1 : Int32) (l2 : Int32) (l100 : Int32) (a101 : Nat) (S : zS) (h : p_X11_leadAt_J30 E  Q X a0 l1 l2 l100 a101 S) : zJ E (RX11, cX11_leadAt, 4, (some .int), false, [], zTr) ({ frames := 2, cells := 0, slots := 0, locals := 43 } : Room) (zq (qI Q)) (zx X) 30 [(0, .ref a0), (1, .int l1), (2, .int l2)] [.int l100, .ref a101] [] S 0 0 := by
  unfold p_X11_leadAt_J30 at h
  obtain ⟨hf3, h⟩ := h
  have h := h _ rfl
  refine z_putV (c := 11) (j := 0) (ty0 := tyX11) (S' := sI S 1100 a101 l100) hf3.1 hf3.2 (Nat.le_of_ble_eq_true rfl) rfl zU_X11 tyX11_ok nmX11 (Nat.le_of_ble_eq_true rfl) (Nat.le_of_ble_eq_true rfl) ⟨_, zw_1298, Or.inl rfl⟩ (.inl rfl) rfl rfl rfl (zUpI (v := l100) hf3.2 (Nat.le_of_ble_eq_true rfl) (Nat.le_of_ble_eq_true rfl) rfl rfl) dX11_leadAt_30 ?_
  obtain ⟨S4, hS5⟩ : ∃ z, z = sI S 1100 a101 l100 := ⟨_, rfl⟩
  rw [← hS5] at h ⊢
  have hf3 : a101 ∈ gL S4 ∧ gK S4 a101 = 11 := by rw [hS5]; exact hf3
  refine z_aload_n 0 dX11_leadAt_33 rfl rfl ?_
  obtain ⟨hf6, h⟩ := h
  refine z_getI (c := 11) (j := 0) (f := 1100) hf6.1 hf6.2 (Nat.le_of_ble_eq_true rfl) rfl zU_X11 (Nat.le_of_ble_eq_true rfl) (Nat.le_of_ble_eq_true rfl) ⟨_, zw_1298, Or.inl rfl⟩ rfl rfl dX11_leadAt_34 ?_
  refine z_if_le 44 dX11_leadAt_37 (by decide) (fun c12 => ?_) (fun c12 => ?_)
  · have h := h.1 c12
    refine z_aload_n 0 dX11_leadAt_44 rfl rfl ?_
    refine z_getQ (c := 11) (j := 12) (f := 1112) hf6.1 hf6.2 (Nat.le_of_ble_eq_true rfl) rfl zU_X11 (Nat.le_of_ble_eq_true rfl) (Nat.le_of_ble_eq_true rfl) ⟨_, zw_1310, Or.inl rfl⟩ rfl rfl dX11_leadAt_45 ?_
    refine z_bipush (v := 20) dX11_leadAt_48 rfl ?_
    refine z_iload_n 1 dX11_leadAt_50 rfl rfl ?_
    refine z_imul dX11_leadAt_51 ?_
    refine z_iload_n 2 dX11_leadAt_52 rfl rfl ?_
    refine z_iadd dX11_leadAt_53 ?_
    obtain ⟨b7, hb8, h⟩ := h
    rw [show va_rf (gR S4 1112 a0) = Value.ref b7 from by rw [hb8]; rfl]
    obtain ⟨hf9, h⟩ := h
    obtain ⟨j10, hj11, h⟩ := h
    refine z_iald (j := j10) hf9.1 hf9.2 hj11.1 hj11.2.1 hj11.2.2 dX11_leadAt_54 ?_
    refine z_istore_n (lv' := [(3, .int (gA S4 b7 j10)), (0, .ref a0), (1, .int l1), (2, .int l2)]) dX11_leadAt_55 rfl (Nat.le_of_ble_eq_true rfl) rfl ?_
    refine z_bipush (v := 10) dX11_leadAt_56 rfl ?_
    refine z_iload_n 0 dX11_leadAt_58 rfl rfl ?_
    refine z_iconst (v := 3) dX11_leadAt_59 rfl ?_
    refine z_idiv dX11_leadAt_60 (by decide) ?_
    refine z_imul dX11_leadAt_61 ?_
    refine z_iload_n 0 dX11_leadAt_62 rfl rfl ?_
    refine z_iconst (v := 3) dX11_leadAt_63 rfl ?_
    refine z_irem dX11_leadAt_64 (by decide) ?_
    refine z_iadd dX11_leadAt_65 ?_
    exact z_ireturn ⟨rfl, _, rfl, h⟩ rfl (Nat.le_of_ble_eq_true rfl) (Nat.le_of_ble_eq_true rfl) dX11_leadAt_66
  · have h := h.2 c12
    refine z_iconst (v := 0) dX11_leadAt_40 rfl ?_
    refine z_goto 55 dX11_leadAt_41 (by decide) ?_
    refine z_istore_n (lv' := [(3, .int 0), (0, .ref a0), (1, .int l1), (2, .int l2)]) dX11_leadAt_55 rfl (Nat.le_of_ble_eq_true rfl) rfl ?_
    refine z_bipush (v := 10) dX11_leadAt_56 rfl ?_
    refine z_iload_n 0 dX11_leadAt_58 rfl rfl ?_
    refine z_iconst (v := 3) dX11_leadAt_59 rfl ?_
    refine z_idiv dX11_leadAt_60 (by decide) ?_
    refine z_imul dX11_leadAt_61 ?_
    refine z_iload_n 0 dX11_leadAt_62 rfl rfl ?_
    refine z_iconst (v := 3) dX11_leadAt_63 rfl ?_
    refine z_irem dX11_leadAt_64 (by decide) ?_
    refine z_iadd dX11_leadAt_65 ?_
    exact z_ireturn ⟨rfl, _, rfl, h⟩ rfl (Nat.le_of_ble_eq_true rfl) (Nat.le_of_ble_eq_true rfl) dX11_leadAt_66
set_option maxRecDepth 20000 in
set_option maxHeartbeats 4000000 in
theorem w_X11_leadAt_J29 {E : zE}  {Q : Int32 → zS → Prop} {X : String → zS → Prop}  (a0 : Nat) (l1 : Int32) (l2 : Int32) (a100 : Nat) (S : zS) (h : p_X11_leadAt_J29 E  Q X a0 l1 l2 a100 S) : zJ E (RX11, cX11_leadAt, 4, (some .int), false, [], zTr) ({ frames := 2, cells := 0, slots := 0, locals := 43 } : Room) (zq (qI Q)) (zx X) 29 [(0, .ref a0), (1, .int l1), (2, .int l2)] [.ref a100] [] S 0 0 := by
  unfold p_X11_leadAt_J29 at h
  refine z_iconst (v := 1) dX11_leadAt_29 rfl ?_
  refine w_X11_leadAt_J30 a0 l1 l2 1 a100 S h
set_option maxRecDepth 20000 in
set_option maxHeartbeats 4000000 in
theorem w_X11_leadAt {E : zE} {a0 : Nat} {l1 : Int32} {l2 : Int32} {S : zS} {Q : Int32 → zS → Prop} {X : String → zS → Prop} (h : p_X11_leadAt E a0 l1 l2 S Q X) : zM E yX11_leadAt cX11_leadAt 4 (some .int) ({ frames := 2, cells := 0, slots := 0, locals := 43 } : Room) [.ref a0, .int l1, .int l2] S (qI Q) X := by
  unfold p_X11_leadAt at h
  refine zM_of RX11 false (by decide) rfl (fun h => by cases h) (Nat.le_of_ble_eq_true rfl) ?_
  refine z_aload_n 0 dX11_leadAt_0 rfl rfl ?_
  refine z_aload_n 0 dX11_leadAt_1 rfl rfl ?_
  refine z_iload_n 1 dX11_leadAt_2 rfl rfl ?_
  obtain ⟨hf23, h⟩ := h
  refine z_callVI (ci := 11) (st := [.ref a0]) (w_X11_isTouch h) hf23.1 hf23.2 (Nat.le_of_ble_eq_true rfl) rfl zw_1584 zw_1581 zw_1583 zw_45 zw_74 zy_X11_isTouch rfl rfl ⟨Nat.le_of_ble_eq_true rfl, Nat.le_of_ble_eq_true rfl⟩ ⟨(Nat.le_of_ble_eq_true rfl), (Nat.le_of_ble_eq_true rfl)⟩ (Nat.le_of_ble_eq_true rfl) dX11_leadAt_3 (fun _ _ hx => hx.elim) (fun r2 S1 h => ?_)
  refine z_widen (k' := 0) (n' := 0) (Nat.le_refl _) (Nat.le_refl _) ?_
  refine z_if_eq 29 dX11_leadAt_6 (by decide) (fun c22 => ?_) (fun c22 => ?_)
  · have h := h.1 c22
    refine w_X11_leadAt_J29 a0 l1 l2 a0 S1 h
  · have h := h.2 c22
    refine z_iload_n 2 dX11_leadAt_9 rfl rfl ?_
    refine z_iconst (v := 0) dX11_leadAt_10 rfl ?_
    refine z_aload_n 0 dX11_leadAt_11 rfl rfl ?_
    obtain ⟨hf13, h⟩ := h
    refine z_getQ (c := 11) (j := 11) (f := 1111) hf13.1 hf13.2 (Nat.le_of_ble_eq_true rfl) rfl zU_X11 (Nat.le_of_ble_eq_true rfl) (Nat.le_of_ble_eq_true rfl) ⟨_, zw_1309, Or.inl rfl⟩ rfl rfl dX11_leadAt_12 ?_
    refine z_iload_n 1 dX11_leadAt_15 rfl rfl ?_
    obtain ⟨b14, hb15, h⟩ := h
    rw [show va_rf (gR S1 1111 a0) = Value.ref b14 from by rw [hb15]; rfl]
    obtain ⟨hf16, h⟩ := h
    obtain ⟨j17, hj18, h⟩ := h
    refine z_iald (j := j17) hf16.1 hf16.2 hj18.1 hj18.2.1 hj18.2.2 dX11_leadAt_16 ?_
    refine z_iconst (v := 1) dX11_leadAt_17 rfl ?_
    refine z_isub dX11_leadAt_18 ?_
    refine z_callSI (st := [.ref a0]) (w_X11_in h) zw_1435 zw_1433 zw_1434 zw_74 zy_X11_in rfl rfl ⟨Nat.le_of_ble_eq_true rfl, Nat.le_of_ble_eq_true rfl⟩ ⟨(Nat.le_of_ble_eq_true rfl), (Nat.le_of_ble_eq_true rfl)⟩ (Nat.le_of_ble_eq_true rfl) dX11_leadAt_19 (fun _ _ hx => hx.elim) (fun r20 S19 h => ?_)
    refine z_widen (k' := 0) (n' := 0) (Nat.le_refl _) (Nat.le_refl _) ?_
    refine z_if_eq 29 dX11_leadAt_22 (by decide) (fun c21 => ?_) (fun c21 => ?_)
    · have h := h.1 c21
      refine w_X11_leadAt_J29 a0 l1 l2 a0 S19 h
    · have h := h.2 c21
      refine z_iconst (v := 0) dX11_leadAt_25 rfl ?_
      refine z_goto 30 dX11_leadAt_26 (by decide) ?_
      refine w_X11_leadAt_J30 a0 l1 l2 0 a0 S19 h
set_option maxRecDepth 20000 in
set_option maxHeartbeats 4000000 in
theorem w_X11_rows {E : zE} {a0 : Nat} {l1 : Int32} {S : zS} {Q : Int32 → zS → Prop} {X : String → zS → Prop} (h : p_X11_rows E a0 l1 S Q X) : zM E yX11_rows cX11_rows 2 (some .int) ({ frames := 4, cells := 0, slots := 0, locals := 91 } : Room) [.ref a0, .int l1] S (qI Q) X := by
  unfold p_X11_rows at h
  refine zM_of RX11 false (by decide) rfl (fun h => by cases h) (Nat.le_of_ble_eq_true rfl) ?_
  refine z_aload_n 0 dX11_rows_0 rfl rfl ?_
  refine z_iload_n 1 dX11_rows_1 rfl rfl ?_
  obtain ⟨hf5, h⟩ := h
  refine z_callVI (ci := 11) (st := []) (w_X11_asksTouch h) hf5.1 hf5.2 (Nat.le_of_ble_eq_true rfl) rfl zw_1580 zw_1577 zw_1579 zw_44 zw_74 zy_X11_asksTouch rfl rfl ⟨Nat.le_of_ble_eq_true rfl, Nat.le_of_ble_eq_true rfl⟩ ⟨(Nat.le_of_ble_eq_true rfl), (Nat.le_of_ble_eq_true rfl)⟩ (Nat.le_of_ble_eq_true rfl) dX11_rows_2 (fun _ _ hx => hx.elim) (fun r2 S1 h => ?_)
  refine z_widen (k' := 0) (n' := 0) (Nat.le_refl _) (Nat.le_refl _) ?_
  refine z_if_eq 15 dX11_rows_5 (by decide) (fun c4 => ?_) (fun c4 => ?_)
  · have h := h.1 c4
    refine z_iconst (v := 0) dX11_rows_15 rfl ?_
    exact z_ireturn ⟨rfl, _, rfl, h⟩ rfl (Nat.le_of_ble_eq_true rfl) (Nat.le_of_ble_eq_true rfl) dX11_rows_16
  · have h := h.2 c4
    refine z_aload_n 0 dX11_rows_8 rfl rfl ?_
    obtain ⟨hf3, h⟩ := h
    refine z_getI (c := 11) (j := 13) (f := 1113) hf3.1 hf3.2 (Nat.le_of_ble_eq_true rfl) rfl zU_X11 (Nat.le_of_ble_eq_true rfl) (Nat.le_of_ble_eq_true rfl) ⟨_, zw_1311, Or.inl rfl⟩ rfl rfl dX11_rows_9 ?_
    refine z_goto 16 dX11_rows_12 (by decide) ?_
    exact z_ireturn ⟨rfl, _, rfl, h⟩ rfl (Nat.le_of_ble_eq_true rfl) (Nat.le_of_ble_eq_true rfl) dX11_rows_16
set_option maxRecDepth 20000 in
set_option maxHeartbeats 4000000 in
theorem w_X11_asksRow {E : zE} {a0 : Nat} {l1 : Int32} {l2 : Int32} {S : zS} {Q : Int32 → zS → Prop} {X : String → zS → Prop} (h : p_X11_asksRow E a0 l1 l2 S Q X) : zM E yX11_asksRow cX11_asksRow 4 (some .boolean) ({ frames := 4, cells := 0, slots := 0, locals := 91 } : Room) [.ref a0, .int l1, .int l2] S (qI Q) X := by
  unfold p_X11_asksRow at h
  refine zM_of RX11 false (by decide) rfl (fun h => by cases h) (Nat.le_of_ble_eq_true rfl) ?_
  refine z_aload_n 0 dX11_asksRow_0 rfl rfl ?_
  refine z_iload_n 1 dX11_asksRow_1 rfl rfl ?_
  obtain ⟨hf35, h⟩ := h
  refine z_callVI (ci := 11) (st := []) (w_X11_asksTouch h) hf35.1 hf35.2 (Nat.le_of_ble_eq_true rfl) rfl zw_1580 zw_1577 zw_1579 zw_44 zw_74 zy_X11_asksTouch rfl rfl ⟨Nat.le_of_ble_eq_true rfl, Nat.le_of_ble_eq_true rfl⟩ ⟨(Nat.le_of_ble_eq_true rfl), (Nat.le_of_ble_eq_true rfl)⟩ (Nat.le_of_ble_eq_true rfl) dX11_asksRow_2 (fun _ _ hx => hx.elim) (fun r2 S1 h => ?_)
  refine z_widen (k' := 0) (n' := 0) (Nat.le_refl _) (Nat.le_refl _) ?_
  refine z_if_eq 26 dX11_asksRow_5 (by decide) (fun c34 => ?_) (fun c34 => ?_)
  · have h := h.1 c34
    refine z_iconst (v := 0) dX11_asksRow_26 rfl ?_
    refine z_istore_n (lv' := [(3, .int 0), (0, .ref a0), (1, .int l1), (2, .int l2)]) dX11_asksRow_27 rfl (Nat.le_of_ble_eq_true rfl) rfl ?_
    refine z_aload_n 1 dX11_asksRow_28 rfl rfl ?_
    refine z_iload_n 0 dX11_asksRow_29 rfl rfl ?_
    refine z_if_eq 37 dX11_asksRow_30 (by decide) (fun c11 => ?_) (fun c11 => ?_)
    · have h := h.1 c11
      refine z_iconst (v := 1) dX11_asksRow_37 rfl ?_
      obtain ⟨hf3, h⟩ := h
      have h := h _ rfl
      refine z_putV (c := 11) (j := 0) (ty0 := tyX11) (S' := sI S1 1100 a0 1) hf3.1 hf3.2 (Nat.le_of_ble_eq_true rfl) rfl zU_X11 tyX11_ok nmX11 (Nat.le_of_ble_eq_true rfl) (Nat.le_of_ble_eq_true rfl) ⟨_, zw_1298, Or.inl rfl⟩ (.inl rfl) rfl rfl rfl (zUpI (v := 1) hf3.2 (Nat.le_of_ble_eq_true rfl) (Nat.le_of_ble_eq_true rfl) rfl rfl) dX11_asksRow_38 ?_
      obtain ⟨S4, hS5⟩ : ∃ z, z = sI S1 1100 a0 1 := ⟨_, rfl⟩
      rw [← hS5] at h ⊢
      have hf3 : a0 ∈ gL S4 ∧ gK S4 a0 = 11 := by rw [hS5]; exact hf3
      refine z_iload_n 0 dX11_asksRow_41 rfl rfl ?_
      obtain ⟨hz6, h⟩ := h
      exact z_zreturn ⟨rfl, _, rfl, h⟩ rfl (zbn hz6) (Nat.le_of_ble_eq_true rfl) (Nat.le_of_ble_eq_true rfl) dX11_asksRow_42
    · have h := h.2 c11
      refine z_iconst (v := 0) dX11_asksRow_33 rfl ?_
      refine z_goto 38 dX11_asksRow_34 (by decide) ?_
      obtain ⟨hf7, h⟩ := h
      have h := h _ rfl
      refine z_putV (c := 11) (j := 0) (ty0 := tyX11) (S' := sI S1 1100 a0 0) hf7.1 hf7.2 (Nat.le_of_ble_eq_true rfl) rfl zU_X11 tyX11_ok nmX11 (Nat.le_of_ble_eq_true rfl) (Nat.le_of_ble_eq_true rfl) ⟨_, zw_1298, Or.inl rfl⟩ (.inl rfl) rfl rfl rfl (zUpI (v := 0) hf7.2 (Nat.le_of_ble_eq_true rfl) (Nat.le_of_ble_eq_true rfl) rfl rfl) dX11_asksRow_38 ?_
      obtain ⟨S8, hS9⟩ : ∃ z, z = sI S1 1100 a0 0 := ⟨_, rfl⟩
      rw [← hS9] at h ⊢
      have hf7 : a0 ∈ gL S8 ∧ gK S8 a0 = 11 := by rw [hS9]; exact hf7
      refine z_iload_n 0 dX11_asksRow_41 rfl rfl ?_
      obtain ⟨hz10, h⟩ := h
      exact z_zreturn ⟨rfl, _, rfl, h⟩ rfl (zbn hz10) (Nat.le_of_ble_eq_true rfl) (Nat.le_of_ble_eq_true rfl) dX11_asksRow_42
  · have h := h.2 c34
    refine z_iload_n 2 dX11_asksRow_8 rfl rfl ?_
    refine z_iconst (v := 0) dX11_asksRow_9 rfl ?_
    refine z_aload_n 0 dX11_asksRow_10 rfl rfl ?_
    obtain ⟨hf12, h⟩ := h
    refine z_getI (c := 11) (j := 13) (f := 1113) hf12.1 hf12.2 (Nat.le_of_ble_eq_true rfl) rfl zU_X11 (Nat.le_of_ble_eq_true rfl) (Nat.le_of_ble_eq_true rfl) ⟨_, zw_1311, Or.inl rfl⟩ rfl rfl dX11_asksRow_11 ?_
    refine z_iconst (v := 1) dX11_asksRow_14 rfl ?_
    refine z_isub dX11_asksRow_15 ?_
    refine z_callSI (st := []) (w_X11_in h) zw_1435 zw_1433 zw_1434 zw_74 zy_X11_in rfl rfl ⟨Nat.le_of_ble_eq_true rfl, Nat.le_of_ble_eq_true rfl⟩ ⟨(Nat.le_of_ble_eq_true rfl), (Nat.le_of_ble_eq_true rfl)⟩ (Nat.le_of_ble_eq_true rfl) dX11_asksRow_16 (fun _ _ hx => hx.elim) (fun r14 S13 h => ?_)
    refine z_widen (k' := 0) (n' := 0) (Nat.le_refl _) (Nat.le_refl _) ?_
    refine z_if_eq 26 dX11_asksRow_19 (by decide) (fun c33 => ?_) (fun c33 => ?_)
    · have h := h.1 c33
      refine z_iconst (v := 0) dX11_asksRow_26 rfl ?_
      refine z_istore_n (lv' := [(3, .int 0), (0, .ref a0), (1, .int l1), (2, .int l2)]) dX11_asksRow_27 rfl (Nat.le_of_ble_eq_true rfl) rfl ?_
      refine z_aload_n 1 dX11_asksRow_28 rfl rfl ?_
      refine z_iload_n 0 dX11_asksRow_29 rfl rfl ?_
      refine z_if_eq 37 dX11_asksRow_30 (by decide) (fun c23 => ?_) (fun c23 => ?_)
      · have h := h.1 c23
        refine z_iconst (v := 1) dX11_asksRow_37 rfl ?_
        obtain ⟨hf15, h⟩ := h
        have h := h _ rfl
        refine z_putV (c := 11) (j := 0) (ty0 := tyX11) (S' := sI S13 1100 a0 1) hf15.1 hf15.2 (Nat.le_of_ble_eq_true rfl) rfl zU_X11 tyX11_ok nmX11 (Nat.le_of_ble_eq_true rfl) (Nat.le_of_ble_eq_true rfl) ⟨_, zw_1298, Or.inl rfl⟩ (.inl rfl) rfl rfl rfl (zUpI (v := 1) hf15.2 (Nat.le_of_ble_eq_true rfl) (Nat.le_of_ble_eq_true rfl) rfl rfl) dX11_asksRow_38 ?_
        obtain ⟨S16, hS17⟩ : ∃ z, z = sI S13 1100 a0 1 := ⟨_, rfl⟩
        rw [← hS17] at h ⊢
        have hf15 : a0 ∈ gL S16 ∧ gK S16 a0 = 11 := by rw [hS17]; exact hf15
        refine z_iload_n 0 dX11_asksRow_41 rfl rfl ?_
        obtain ⟨hz18, h⟩ := h
        exact z_zreturn ⟨rfl, _, rfl, h⟩ rfl (zbn hz18) (Nat.le_of_ble_eq_true rfl) (Nat.le_of_ble_eq_true rfl) dX11_asksRow_42
      · have h := h.2 c23
        refine z_iconst (v := 0) dX11_asksRow_33 rfl ?_
        refine z_goto 38 dX11_asksRow_34 (by decide) ?_
        obtain ⟨hf19, h⟩ := h
        have h := h _ rfl
        refine z_putV (c := 11) (j := 0) (ty0 := tyX11) (S' := sI S13 1100 a0 0) hf19.1 hf19.2 (Nat.le_of_ble_eq_true rfl) rfl zU_X11 tyX11_ok nmX11 (Nat.le_of_ble_eq_true rfl) (Nat.le_of_ble_eq_true rfl) ⟨_, zw_1298, Or.inl rfl⟩ (.inl rfl) rfl rfl rfl (zUpI (v := 0) hf19.2 (Nat.le_of_ble_eq_true rfl) (Nat.le_of_ble_eq_true rfl) rfl rfl) dX11_asksRow_38 ?_
        obtain ⟨S20, hS21⟩ : ∃ z, z = sI S13 1100 a0 0 := ⟨_, rfl⟩
        rw [← hS21] at h ⊢
        have hf19 : a0 ∈ gL S20 ∧ gK S20 a0 = 11 := by rw [hS21]; exact hf19
        refine z_iload_n 0 dX11_asksRow_41 rfl rfl ?_
        obtain ⟨hz22, h⟩ := h
        exact z_zreturn ⟨rfl, _, rfl, h⟩ rfl (zbn hz22) (Nat.le_of_ble_eq_true rfl) (Nat.le_of_ble_eq_true rfl) dX11_asksRow_42
    · have h := h.2 c33
      refine z_iconst (v := 1) dX11_asksRow_22 rfl ?_
      refine z_goto 27 dX11_asksRow_23 (by decide) ?_
      refine z_istore_n (lv' := [(3, .int 1), (0, .ref a0), (1, .int l1), (2, .int l2)]) dX11_asksRow_27 rfl (Nat.le_of_ble_eq_true rfl) rfl ?_
      refine z_aload_n 1 dX11_asksRow_28 rfl rfl ?_
      refine z_iload_n 0 dX11_asksRow_29 rfl rfl ?_
      refine z_if_eq 37 dX11_asksRow_30 (by decide) (fun c32 => ?_) (fun c32 => ?_)
      · have h := h.1 c32
        refine z_iconst (v := 1) dX11_asksRow_37 rfl ?_
        obtain ⟨hf24, h⟩ := h
        have h := h _ rfl
        refine z_putV (c := 11) (j := 0) (ty0 := tyX11) (S' := sI S13 1100 a0 1) hf24.1 hf24.2 (Nat.le_of_ble_eq_true rfl) rfl zU_X11 tyX11_ok nmX11 (Nat.le_of_ble_eq_true rfl) (Nat.le_of_ble_eq_true rfl) ⟨_, zw_1298, Or.inl rfl⟩ (.inl rfl) rfl rfl rfl (zUpI (v := 1) hf24.2 (Nat.le_of_ble_eq_true rfl) (Nat.le_of_ble_eq_true rfl) rfl rfl) dX11_asksRow_38 ?_
        obtain ⟨S25, hS26⟩ : ∃ z, z = sI S13 1100 a0 1 := ⟨_, rfl⟩
        rw [← hS26] at h ⊢
        have hf24 : a0 ∈ gL S25 ∧ gK S25 a0 = 11 := by rw [hS26]; exact hf24
        refine z_iload_n 0 dX11_asksRow_41 rfl rfl ?_
        obtain ⟨hz27, h⟩ := h
        exact z_zreturn ⟨rfl, _, rfl, h⟩ rfl (zbn hz27) (Nat.le_of_ble_eq_true rfl) (Nat.le_of_ble_eq_true rfl) dX11_asksRow_42
      · have h := h.2 c32
        refine z_iconst (v := 0) dX11_asksRow_33 rfl ?_
        refine z_goto 38 dX11_asksRow_34 (by decide) ?_
        obtain ⟨hf28, h⟩ := h
        have h := h _ rfl
        refine z_putV (c := 11) (j := 0) (ty0 := tyX11) (S' := sI S13 1100 a0 0) hf28.1 hf28.2 (Nat.le_of_ble_eq_true rfl) rfl zU_X11 tyX11_ok nmX11 (Nat.le_of_ble_eq_true rfl) (Nat.le_of_ble_eq_true rfl) ⟨_, zw_1298, Or.inl rfl⟩ (.inl rfl) rfl rfl rfl (zUpI (v := 0) hf28.2 (Nat.le_of_ble_eq_true rfl) (Nat.le_of_ble_eq_true rfl) rfl rfl) dX11_asksRow_38 ?_
        obtain ⟨S29, hS30⟩ : ∃ z, z = sI S13 1100 a0 0 := ⟨_, rfl⟩
        rw [← hS30] at h ⊢
        have hf28 : a0 ∈ gL S29 ∧ gK S29 a0 = 11 := by rw [hS30]; exact hf28
        refine z_iload_n 0 dX11_asksRow_41 rfl rfl ?_
        obtain ⟨hz31, h⟩ := h
        exact z_zreturn ⟨rfl, _, rfl, h⟩ rfl (zbn hz31) (Nat.le_of_ble_eq_true rfl) (Nat.le_of_ble_eq_true rfl) dX11_asksRow_42
set_option maxRecDepth 20000 in
set_option maxHeartbeats 4000000 in
theorem w_X11_rowAt {E : zE} {a0 : Nat} {l1 : Int32} {l2 : Int32} {S : zS} {Q : Int32 → zS → Prop} {X : String → zS → Prop} (h : p_X11_rowAt E a0 l1 l2 S Q X) : zM E yX11_rowAt cX11_rowAt 3 (some .int) ({ frames := 5, cells := 0, slots := 0, locals := 114 } : Room) [.ref a0, .int l1, .int l2] S (qI Q) X := by
  unfold p_X11_rowAt at h
  refine zM_of RX11 false (by decide) rfl (fun h => by cases h) (Nat.le_of_ble_eq_true rfl) ?_
  refine z_aload_n 0 dX11_rowAt_0 rfl rfl ?_
  refine z_iload_n 1 dX11_rowAt_1 rfl rfl ?_
  refine z_iload_n 2 dX11_rowAt_2 rfl rfl ?_
  obtain ⟨hf14, h⟩ := h
  refine z_callVI (ci := 11) (st := []) (w_X11_asksRow h) hf14.1 hf14.2 (Nat.le_of_ble_eq_true rfl) rfl zw_1600 zw_1597 zw_1599 zw_46 zw_74 zy_X11_asksRow rfl rfl ⟨Nat.le_of_ble_eq_true rfl, Nat.le_of_ble_eq_true rfl⟩ ⟨(Nat.le_of_ble_eq_true rfl), (Nat.le_of_ble_eq_true rfl)⟩ (Nat.le_of_ble_eq_true rfl) dX11_rowAt_3 (fun _ _ hx => hx.elim) (fun r2 S1 h => ?_)
  refine z_widen (k' := 0) (n' := 0) (Nat.le_refl _) (Nat.le_refl _) ?_
  refine z_if_eq 26 dX11_rowAt_6 (by decide) (fun c13 => ?_) (fun c13 => ?_)
  · have h := h.1 c13
    refine z_iconst (v := 0) dX11_rowAt_26 rfl ?_
    exact z_ireturn ⟨rfl, _, rfl, h⟩ rfl (Nat.le_of_ble_eq_true rfl) (Nat.le_of_ble_eq_true rfl) dX11_rowAt_27
  · have h := h.2 c13
    refine z_aload_n 0 dX11_rowAt_9 rfl rfl ?_
    obtain ⟨hf3, h⟩ := h
    refine z_getQ (c := 11) (j := 14) (f := 1114) hf3.1 hf3.2 (Nat.le_of_ble_eq_true rfl) rfl zU_X11 (Nat.le_of_ble_eq_true rfl) (Nat.le_of_ble_eq_true rfl) ⟨_, zw_1312, Or.inl rfl⟩ rfl rfl dX11_rowAt_10 ?_
    refine z_iload_n 2 dX11_rowAt_13 rfl rfl ?_
    obtain ⟨b4, hb5, h⟩ := h
    rw [show va_rf (gR S1 1114 a0) = Value.ref b4 from by rw [hb5]; rfl]
    obtain ⟨hf6, h⟩ := h
    obtain ⟨j7, hj8, h⟩ := h
    refine z_iald (j := j7) hf6.1 hf6.2 hj8.1 hj8.2.1 hj8.2.2 dX11_rowAt_14 ?_
    refine z_aload_n 0 dX11_rowAt_15 rfl rfl ?_
    refine z_iload_n 1 dX11_rowAt_16 rfl rfl ?_
    refine z_callVI (ci := 11) (st := [.int (gA S1 b4 j7)]) (w_X11_stageOf h) hf3.1 hf3.2 (Nat.le_of_ble_eq_true rfl) rfl zw_1462 zw_1459 zw_1461 zw_31 zw_74 zy_X11_stageOf rfl rfl ⟨Nat.le_of_ble_eq_true rfl, Nat.le_of_ble_eq_true rfl⟩ ⟨(Nat.le_of_ble_eq_true rfl), (Nat.le_of_ble_eq_true rfl)⟩ (Nat.le_of_ble_eq_true rfl) dX11_rowAt_17 (fun _ _ hx => hx.elim) (fun r10 S9 h => ?_)
    refine z_widen (k' := 0) (n' := 0) (Nat.le_refl _) (Nat.le_refl _) ?_
    refine z_callSI (st := []) (w_X11_number h) zw_1525 zw_1523 zw_1524 zw_74 zy_X11_number rfl rfl ⟨Nat.le_of_ble_eq_true rfl, Nat.le_of_ble_eq_true rfl⟩ ⟨(Nat.le_of_ble_eq_true rfl), (Nat.le_of_ble_eq_true rfl)⟩ (Nat.le_of_ble_eq_true rfl) dX11_rowAt_20 (fun _ _ hx => hx.elim) (fun r12 S11 h => ?_)
    refine z_widen (k' := 0) (n' := 0) (Nat.le_refl _) (Nat.le_refl _) ?_
    refine z_goto 27 dX11_rowAt_23 (by decide) ?_
    exact z_ireturn ⟨rfl, _, rfl, h⟩ rfl (Nat.le_of_ble_eq_true rfl) (Nat.le_of_ble_eq_true rfl) dX11_rowAt_27
set_option maxRecDepth 20000 in
set_option maxHeartbeats 4000000 in
theorem w_X11_bellAt_J29 {E : zE}  {Q : Int32 → zS → Prop} {X : String → zS → Prop}  (a0 : Nat) (l2 : Int32) (l3 : Int32) (l100 : Int32) (S : zS) (h : p_X11_bellAt_J29 E  Q X a0 l2 l3 l100 S) : zJ E (RX11, cX11_bellAt, 5, (some .int), false, [], zTr) ({ frames := 5, cells := 0, slots := 0, locals := 114 } : Room) (zq (qI Q)) (zx X) 29 [(0, .ref a0), (2, .int l2), (3, .int l3)] [.int l100] [] S 0 0 := by
  unfold p_X11_bellAt_J29 at h
  refine z_istore (lv' := [(4, .int l100), (0, .ref a0), (2, .int l2), (3, .int l3)]) dX11_bellAt_29 (Nat.le_of_ble_eq_true rfl) rfl ?_
  refine z_aload_n 1 dX11_bellAt_31 rfl rfl ?_
  refine z_iload 0 dX11_bellAt_32 rfl ?_
  refine z_if_eq 41 dX11_bellAt_34 (by decide) (fun c25 => ?_) (fun c25 => ?_)
  · have h := h.1 c25
    refine z_iconst (v := 1) dX11_bellAt_41 rfl ?_
    obtain ⟨hf3, h⟩ := h
    have h := h _ rfl
    refine z_putV (c := 11) (j := 0) (ty0 := tyX11) (S' := sI S 1100 a0 1) hf3.1 hf3.2 (Nat.le_of_ble_eq_true rfl) rfl zU_X11 tyX11_ok nmX11 (Nat.le_of_ble_eq_true rfl) (Nat.le_of_ble_eq_true rfl) ⟨_, zw_1298, Or.inl rfl⟩ (.inl rfl) rfl rfl rfl (zUpI (v := 1) hf3.2 (Nat.le_of_ble_eq_true rfl) (Nat.le_of_ble_eq_true rfl) rfl rfl) dX11_bellAt_42 ?_
    obtain ⟨S4, hS5⟩ : ∃ z, z = sI S 1100 a0 1 := ⟨_, rfl⟩
    rw [← hS5] at h ⊢
    have hf3 : a0 ∈ gL S4 ∧ gK S4 a0 = 11 := by rw [hS5]; exact hf3
    refine z_iload 0 dX11_bellAt_45 rfl ?_
    refine z_if_eq 63 dX11_bellAt_47 (by decide) (fun c13 => ?_) (fun c13 => ?_)
    · have h := h.1 c13
      refine z_iconst (v := 0) dX11_bellAt_63 rfl ?_
      exact z_ireturn ⟨rfl, _, rfl, h⟩ rfl (Nat.le_of_ble_eq_true rfl) (Nat.le_of_ble_eq_true rfl) dX11_bellAt_64
    · have h := h.2 c13
      refine z_aload_n 1 dX11_bellAt_50 rfl rfl ?_
      refine z_getQ (c := 11) (j := 14) (f := 1114) hf3.1 hf3.2 (Nat.le_of_ble_eq_true rfl) rfl zU_X11 (Nat.le_of_ble_eq_true rfl) (Nat.le_of_ble_eq_true rfl) ⟨_, zw_1312, Or.inl rfl⟩ rfl rfl dX11_bellAt_51 ?_
      refine z_iload_n 2 dX11_bellAt_54 rfl rfl ?_
      obtain ⟨b6, hb7, h⟩ := h
      rw [show va_rf (gR S4 1114 a0) = Value.ref b6 from by rw [hb7]; rfl]
      obtain ⟨hf8, h⟩ := h
      obtain ⟨j9, hj10, h⟩ := h
      refine z_iald (j := j9) hf8.1 hf8.2 hj10.1 hj10.2.1 hj10.2.2 dX11_bellAt_55 ?_
      refine z_iload_n 3 dX11_bellAt_56 rfl rfl ?_
      refine z_callSI (st := []) (w_X11_bell h) zw_1491 zw_1489 zw_1490 zw_74 zy_X11_bell rfl rfl ⟨Nat.le_of_ble_eq_true rfl, Nat.le_of_ble_eq_true rfl⟩ ⟨(Nat.le_of_ble_eq_true rfl), (Nat.le_of_ble_eq_true rfl)⟩ (Nat.le_of_ble_eq_true rfl) dX11_bellAt_57 (fun _ _ hx => hx.elim) (fun r12 S11 h => ?_)
      refine z_widen (k' := 0) (n' := 0) (Nat.le_refl _) (Nat.le_refl _) ?_
      refine z_goto 64 dX11_bellAt_60 (by decide) ?_
      exact z_ireturn ⟨rfl, _, rfl, h⟩ rfl (Nat.le_of_ble_eq_true rfl) (Nat.le_of_ble_eq_true rfl) dX11_bellAt_64
  · have h := h.2 c25
    refine z_iconst (v := 0) dX11_bellAt_37 rfl ?_
    refine z_goto 42 dX11_bellAt_38 (by decide) ?_
    obtain ⟨hf14, h⟩ := h
    have h := h _ rfl
    refine z_putV (c := 11) (j := 0) (ty0 := tyX11) (S' := sI S 1100 a0 0) hf14.1 hf14.2 (Nat.le_of_ble_eq_true rfl) rfl zU_X11 tyX11_ok nmX11 (Nat.le_of_ble_eq_true rfl) (Nat.le_of_ble_eq_true rfl) ⟨_, zw_1298, Or.inl rfl⟩ (.inl rfl) rfl rfl rfl (zUpI (v := 0) hf14.2 (Nat.le_of_ble_eq_true rfl) (Nat.le_of_ble_eq_true rfl) rfl rfl) dX11_bellAt_42 ?_
    obtain ⟨S15, hS16⟩ : ∃ z, z = sI S 1100 a0 0 := ⟨_, rfl⟩
    rw [← hS16] at h ⊢
    have hf14 : a0 ∈ gL S15 ∧ gK S15 a0 = 11 := by rw [hS16]; exact hf14
    refine z_iload 0 dX11_bellAt_45 rfl ?_
    refine z_if_eq 63 dX11_bellAt_47 (by decide) (fun c24 => ?_) (fun c24 => ?_)
    · have h := h.1 c24
      refine z_iconst (v := 0) dX11_bellAt_63 rfl ?_
      exact z_ireturn ⟨rfl, _, rfl, h⟩ rfl (Nat.le_of_ble_eq_true rfl) (Nat.le_of_ble_eq_true rfl) dX11_bellAt_64
    · have h := h.2 c24
      refine z_aload_n 1 dX11_bellAt_50 rfl rfl ?_
      refine z_getQ (c := 11) (j := 14) (f := 1114) hf14.1 hf14.2 (Nat.le_of_ble_eq_true rfl) rfl zU_X11 (Nat.le_of_ble_eq_true rfl) (Nat.le_of_ble_eq_true rfl) ⟨_, zw_1312, Or.inl rfl⟩ rfl rfl dX11_bellAt_51 ?_
      refine z_iload_n 2 dX11_bellAt_54 rfl rfl ?_
      obtain ⟨b17, hb18, h⟩ := h
      rw [show va_rf (gR S15 1114 a0) = Value.ref b17 from by rw [hb18]; rfl]
      obtain ⟨hf19, h⟩ := h
      obtain ⟨j20, hj21, h⟩ := h
      refine z_iald (j := j20) hf19.1 hf19.2 hj21.1 hj21.2.1 hj21.2.2 dX11_bellAt_55 ?_
      refine z_iload_n 3 dX11_bellAt_56 rfl rfl ?_
      refine z_callSI (st := []) (w_X11_bell h) zw_1491 zw_1489 zw_1490 zw_74 zy_X11_bell rfl rfl ⟨Nat.le_of_ble_eq_true rfl, Nat.le_of_ble_eq_true rfl⟩ ⟨(Nat.le_of_ble_eq_true rfl), (Nat.le_of_ble_eq_true rfl)⟩ (Nat.le_of_ble_eq_true rfl) dX11_bellAt_57 (fun _ _ hx => hx.elim) (fun r23 S22 h => ?_)
      refine z_widen (k' := 0) (n' := 0) (Nat.le_refl _) (Nat.le_refl _) ?_
      refine z_goto 64 dX11_bellAt_60 (by decide) ?_
      exact z_ireturn ⟨rfl, _, rfl, h⟩ rfl (Nat.le_of_ble_eq_true rfl) (Nat.le_of_ble_eq_true rfl) dX11_bellAt_64
set_option maxRecDepth 20000 in
set_option maxHeartbeats 4000000 in
theorem w_X11_bellAt_J28 {E : zE}  {Q : Int32 → zS → Prop} {X : String → zS → Prop}  (a0 : Nat) (l2 : Int32) (l3 : Int32) (S : zS) (h : p_X11_bellAt_J28 E  Q X a0 l2 l3 S) : zJ E (RX11, cX11_bellAt, 5, (some .int), false, [], zTr) ({ frames := 5, cells := 0, slots := 0, locals := 114 } : Room) (zq (qI Q)) (zx X) 28 [(0, .ref a0), (2, .int l2), (3, .int l3)] [] [] S 0 0 := by
  unfold p_X11_bellAt_J28 at h
  refine z_iconst (v := 0) dX11_bellAt_28 rfl ?_
  refine w_X11_bellAt_J29 a0 l2 l3 0 S h
set_option maxRecDepth 20000 in
set_option maxHeartbeats 4000000 in
theorem w_X11_bellAt {E : zE} {a0 : Nat} {l1 : Int32} {l2 : Int32} {l3 : Int32} {S : zS} {Q : Int32 → zS → Prop} {X : String → zS → Prop} (h : p_X11_bellAt E a0 l1 l2 l3 S Q X) : zM E yX11_bellAt cX11_bellAt 5 (some .int) ({ frames := 5, cells := 0, slots := 0, locals := 114 } : Room) [.ref a0, .int l1, .int l2, .int l3] S (qI Q) X := by
  unfold p_X11_bellAt at h
  refine zM_of RX11 false (by decide) rfl (fun h => by cases h) (Nat.le_of_ble_eq_true rfl) ?_
  refine z_aload_n 0 dX11_bellAt_0 rfl rfl ?_
  refine z_iload_n 1 dX11_bellAt_1 rfl rfl ?_
  refine z_iload_n 2 dX11_bellAt_2 rfl rfl ?_
  obtain ⟨hf33, h⟩ := h
  refine z_callVI (ci := 11) (st := []) (w_X11_asksRow h) hf33.1 hf33.2 (Nat.le_of_ble_eq_true rfl) rfl zw_1600 zw_1597 zw_1599 zw_46 zw_74 zy_X11_asksRow rfl rfl ⟨Nat.le_of_ble_eq_true rfl, Nat.le_of_ble_eq_true rfl⟩ ⟨(Nat.le_of_ble_eq_true rfl), (Nat.le_of_ble_eq_true rfl)⟩ (Nat.le_of_ble_eq_true rfl) dX11_bellAt_3 (fun _ _ hx => hx.elim) (fun r2 S1 h => ?_)
  refine z_widen (k' := 0) (n' := 0) (Nat.le_refl _) (Nat.le_refl _) ?_
  refine z_if_eq 28 dX11_bellAt_6 (by decide) (fun c32 => ?_) (fun c32 => ?_)
  · have h := h.1 c32
    refine z_sub [0, 2, 3] rfl ?_
    refine w_X11_bellAt_J28 a0 l2 l3 S1 h
  · have h := h.2 c32
    refine z_iload_n 3 dX11_bellAt_9 rfl rfl ?_
    refine z_iconst (v := 0) dX11_bellAt_10 rfl ?_
    refine z_aload_n 0 dX11_bellAt_11 rfl rfl ?_
    refine z_iload_n 1 dX11_bellAt_12 rfl rfl ?_
    obtain ⟨hf31, h⟩ := h
    refine z_callVI (ci := 11) (st := [.int 0, .int l3]) (w_X11_stageOf h) hf31.1 hf31.2 (Nat.le_of_ble_eq_true rfl) rfl zw_1462 zw_1459 zw_1461 zw_31 zw_74 zy_X11_stageOf rfl rfl ⟨Nat.le_of_ble_eq_true rfl, Nat.le_of_ble_eq_true rfl⟩ ⟨(Nat.le_of_ble_eq_true rfl), (Nat.le_of_ble_eq_true rfl)⟩ (Nat.le_of_ble_eq_true rfl) dX11_bellAt_13 (fun _ _ hx => hx.elim) (fun r27 S26 h => ?_)
    refine z_widen (k' := 0) (n' := 0) (Nat.le_refl _) (Nat.le_refl _) ?_
    refine z_iconst (v := 1) dX11_bellAt_16 rfl ?_
    refine z_isub dX11_bellAt_17 ?_
    refine z_callSI (st := []) (w_X11_in h) zw_1435 zw_1433 zw_1434 zw_74 zy_X11_in rfl rfl ⟨Nat.le_of_ble_eq_true rfl, Nat.le_of_ble_eq_true rfl⟩ ⟨(Nat.le_of_ble_eq_true rfl), (Nat.le_of_ble_eq_true rfl)⟩ (Nat.le_of_ble_eq_true rfl) dX11_bellAt_18 (fun _ _ hx => hx.elim) (fun r29 S28 h => ?_)
    refine z_widen (k' := 0) (n' := 0) (Nat.le_refl _) (Nat.le_refl _) ?_
    refine z_if_eq 28 dX11_bellAt_21 (by decide) (fun c30 => ?_) (fun c30 => ?_)
    · have h := h.1 c30
      refine z_sub [0, 2, 3] rfl ?_
      refine w_X11_bellAt_J28 a0 l2 l3 S28 h
    · have h := h.2 c30
      refine z_iconst (v := 1) dX11_bellAt_24 rfl ?_
      refine z_goto 29 dX11_bellAt_25 (by decide) ?_
      refine z_sub [0, 2, 3] rfl ?_
      refine w_X11_bellAt_J29 a0 l2 l3 1 S28 h
set_option maxRecDepth 20000 in
set_option maxHeartbeats 4000000 in
theorem w_X11_isTrue {E : zE} {a0 : Nat} {l1 : Int32} {S : zS} {Q : Int32 → zS → Prop} {X : String → zS → Prop} (h : p_X11_isTrue E a0 l1 S Q X) : zM E yX11_isTrue cX11_isTrue 2 (some .boolean) ({ frames := 4, cells := 0, slots := 0, locals := 91 } : Room) [.ref a0, .int l1] S (qI Q) X := by
  unfold p_X11_isTrue at h
  refine zM_of RX11 false (by decide) rfl (fun h => by cases h) (Nat.le_of_ble_eq_true rfl) ?_
  refine z_aload_n 0 dX11_isTrue_0 rfl rfl ?_
  refine z_iload_n 1 dX11_isTrue_1 rfl rfl ?_
  obtain ⟨hf11, h⟩ := h
  refine z_callVI (ci := 11) (st := []) (w_X11_asksTouch h) hf11.1 hf11.2 (Nat.le_of_ble_eq_true rfl) rfl zw_1580 zw_1577 zw_1579 zw_44 zw_74 zy_X11_asksTouch rfl rfl ⟨Nat.le_of_ble_eq_true rfl, Nat.le_of_ble_eq_true rfl⟩ ⟨(Nat.le_of_ble_eq_true rfl), (Nat.le_of_ble_eq_true rfl)⟩ (Nat.le_of_ble_eq_true rfl) dX11_isTrue_2 (fun _ _ hx => hx.elim) (fun r2 S1 h => ?_)
  refine z_widen (k' := 0) (n' := 0) (Nat.le_refl _) (Nat.le_refl _) ?_
  refine z_if_eq 20 dX11_isTrue_5 (by decide) (fun c10 => ?_) (fun c10 => ?_)
  · have h := h.1 c10
    refine z_iconst (v := 0) dX11_isTrue_20 rfl ?_
    obtain ⟨hz3, h⟩ := h
    exact z_zreturn ⟨rfl, _, rfl, h⟩ rfl (zbn hz3) (Nat.le_of_ble_eq_true rfl) (Nat.le_of_ble_eq_true rfl) dX11_isTrue_21
  · have h := h.2 c10
    refine z_aload_n 0 dX11_isTrue_8 rfl rfl ?_
    obtain ⟨hf9, h⟩ := h
    refine z_callVI (ci := 11) (st := []) (w_X11_repeat h) hf9.1 hf9.2 (Nat.le_of_ble_eq_true rfl) rfl zw_1495 zw_1492 zw_1494 zw_37 zw_74 zy_X11_repeat rfl rfl ⟨Nat.le_of_ble_eq_true rfl, Nat.le_of_ble_eq_true rfl⟩ ⟨(Nat.le_of_ble_eq_true rfl), (Nat.le_of_ble_eq_true rfl)⟩ (Nat.le_of_ble_eq_true rfl) dX11_isTrue_9 (fun _ _ hx => hx.elim) (fun r5 S4 h => ?_)
    refine z_widen (k' := 0) (n' := 0) (Nat.le_refl _) (Nat.le_refl _) ?_
    refine z_iconst (v := (-1)) dX11_isTrue_12 rfl ?_
    refine z_icmp_ne 20 dX11_isTrue_13 (by decide) (fun c8 => ?_) (fun c8 => ?_)
    · have h := h.1 c8
      refine z_iconst (v := 0) dX11_isTrue_20 rfl ?_
      obtain ⟨hz6, h⟩ := h
      exact z_zreturn ⟨rfl, _, rfl, h⟩ rfl (zbn hz6) (Nat.le_of_ble_eq_true rfl) (Nat.le_of_ble_eq_true rfl) dX11_isTrue_21
    · have h := h.2 c8
      refine z_iconst (v := 1) dX11_isTrue_16 rfl ?_
      refine z_goto 21 dX11_isTrue_17 (by decide) ?_
      obtain ⟨hz7, h⟩ := h
      exact z_zreturn ⟨rfl, _, rfl, h⟩ rfl (zbn hz7) (Nat.le_of_ble_eq_true rfl) (Nat.le_of_ble_eq_true rfl) dX11_isTrue_21
set_option maxRecDepth 20000 in
set_option maxHeartbeats 4000000 in
theorem w_X11_comesRound {E : zE} {a0 : Nat} {l1 : Int32} {S : zS} {Q : Int32 → zS → Prop} {X : String → zS → Prop} (h : p_X11_comesRound E a0 l1 S Q X) : zM E yX11_comesRound cX11_comesRound 2 (some .boolean) ({ frames := 4, cells := 0, slots := 0, locals := 91 } : Room) [.ref a0, .int l1] S (qI Q) X := by
  unfold p_X11_comesRound at h
  refine zM_of RX11 false (by decide) rfl (fun h => by cases h) (Nat.le_of_ble_eq_true rfl) ?_
  refine z_aload_n 0 dX11_comesRound_0 rfl rfl ?_
  refine z_iload_n 1 dX11_comesRound_1 rfl rfl ?_
  obtain ⟨hf18, h⟩ := h
  refine z_callVI (ci := 11) (st := []) (w_X11_asksTouch h) hf18.1 hf18.2 (Nat.le_of_ble_eq_true rfl) rfl zw_1580 zw_1577 zw_1579 zw_44 zw_74 zy_X11_asksTouch rfl rfl ⟨Nat.le_of_ble_eq_true rfl, Nat.le_of_ble_eq_true rfl⟩ ⟨(Nat.le_of_ble_eq_true rfl), (Nat.le_of_ble_eq_true rfl)⟩ (Nat.le_of_ble_eq_true rfl) dX11_comesRound_2 (fun _ _ hx => hx.elim) (fun r2 S1 h => ?_)
  refine z_widen (k' := 0) (n' := 0) (Nat.le_refl _) (Nat.le_refl _) ?_
  refine z_if_eq 34 dX11_comesRound_5 (by decide) (fun c17 => ?_) (fun c17 => ?_)
  · have h := h.1 c17
    refine z_iconst (v := 0) dX11_comesRound_34 rfl ?_
    obtain ⟨hz3, h⟩ := h
    exact z_zreturn ⟨rfl, _, rfl, h⟩ rfl (zbn hz3) (Nat.le_of_ble_eq_true rfl) (Nat.le_of_ble_eq_true rfl) dX11_comesRound_35
  · have h := h.2 c17
    refine z_aload_n 0 dX11_comesRound_8 rfl rfl ?_
    obtain ⟨hf4, h⟩ := h
    refine z_getQ (c := 11) (j := 14) (f := 1114) hf4.1 hf4.2 (Nat.le_of_ble_eq_true rfl) rfl zU_X11 (Nat.le_of_ble_eq_true rfl) (Nat.le_of_ble_eq_true rfl) ⟨_, zw_1312, Or.inl rfl⟩ rfl rfl dX11_comesRound_9 ?_
    refine z_aload_n 0 dX11_comesRound_12 rfl rfl ?_
    refine z_getI (c := 11) (j := 13) (f := 1113) hf4.1 hf4.2 (Nat.le_of_ble_eq_true rfl) rfl zU_X11 (Nat.le_of_ble_eq_true rfl) (Nat.le_of_ble_eq_true rfl) ⟨_, zw_1311, Or.inl rfl⟩ rfl rfl dX11_comesRound_13 ?_
    refine z_iconst (v := 1) dX11_comesRound_16 rfl ?_
    refine z_isub dX11_comesRound_17 ?_
    obtain ⟨b5, hb6, h⟩ := h
    rw [show va_rf (gR S1 1114 a0) = Value.ref b5 from by rw [hb6]; rfl]
    obtain ⟨hf7, h⟩ := h
    obtain ⟨j8, hj9, h⟩ := h
    refine z_iald (j := j8) hf7.1 hf7.2 hj9.1 hj9.2.1 hj9.2.2 dX11_comesRound_18 ?_
    refine z_aload_n 0 dX11_comesRound_19 rfl rfl ?_
    refine z_iload_n 1 dX11_comesRound_20 rfl rfl ?_
    refine z_callVI (ci := 11) (st := [.int (gA S1 b5 j8)]) (w_X11_stageOf h) hf4.1 hf4.2 (Nat.le_of_ble_eq_true rfl) rfl zw_1462 zw_1459 zw_1461 zw_31 zw_74 zy_X11_stageOf rfl rfl ⟨Nat.le_of_ble_eq_true rfl, Nat.le_of_ble_eq_true rfl⟩ ⟨(Nat.le_of_ble_eq_true rfl), (Nat.le_of_ble_eq_true rfl)⟩ (Nat.le_of_ble_eq_true rfl) dX11_comesRound_21 (fun _ _ hx => hx.elim) (fun r11 S10 h => ?_)
    refine z_widen (k' := 0) (n' := 0) (Nat.le_refl _) (Nat.le_refl _) ?_
    refine z_callSI (st := [.int (gA S1 b5 j8)]) (w_X11_rounds h) zw_1481 zw_1479 zw_1480 zw_74 zy_X11_rounds rfl rfl ⟨Nat.le_of_ble_eq_true rfl, Nat.le_of_ble_eq_true rfl⟩ ⟨(Nat.le_of_ble_eq_true rfl), (Nat.le_of_ble_eq_true rfl)⟩ (Nat.le_of_ble_eq_true rfl) dX11_comesRound_24 (fun _ _ hx => hx.elim) (fun r13 S12 h => ?_)
    refine z_widen (k' := 0) (n' := 0) (Nat.le_refl _) (Nat.le_refl _) ?_
    refine z_icmp_ne 34 dX11_comesRound_27 (by decide) (fun c16 => ?_) (fun c16 => ?_)
    · have h := h.1 c16
      refine z_iconst (v := 0) dX11_comesRound_34 rfl ?_
      obtain ⟨hz14, h⟩ := h
      exact z_zreturn ⟨rfl, _, rfl, h⟩ rfl (zbn hz14) (Nat.le_of_ble_eq_true rfl) (Nat.le_of_ble_eq_true rfl) dX11_comesRound_35
    · have h := h.2 c16
      refine z_iconst (v := 1) dX11_comesRound_30 rfl ?_
      refine z_goto 35 dX11_comesRound_31 (by decide) ?_
      obtain ⟨hz15, h⟩ := h
      exact z_zreturn ⟨rfl, _, rfl, h⟩ rfl (zbn hz15) (Nat.le_of_ble_eq_true rfl) (Nat.le_of_ble_eq_true rfl) dX11_comesRound_35
set_option maxRecDepth 20000 in
set_option maxHeartbeats 4000000 in
theorem w_X11_firstRepeat {E : zE} {a0 : Nat} {l1 : Int32} {S : zS} {Q : Int32 → zS → Prop} {X : String → zS → Prop} (h : p_X11_firstRepeat E a0 l1 S Q X) : zM E yX11_firstRepeat cX11_firstRepeat 2 (some .int) ({ frames := 4, cells := 0, slots := 0, locals := 91 } : Room) [.ref a0, .int l1] S (qI Q) X := by
  unfold p_X11_firstRepeat at h
  refine zM_of RX11 false (by decide) rfl (fun h => by cases h) (Nat.le_of_ble_eq_true rfl) ?_
  refine z_aload_n 0 dX11_firstRepeat_0 rfl rfl ?_
  refine z_iload_n 1 dX11_firstRepeat_1 rfl rfl ?_
  obtain ⟨hf7, h⟩ := h
  refine z_callVI (ci := 11) (st := []) (w_X11_asksTouch h) hf7.1 hf7.2 (Nat.le_of_ble_eq_true rfl) rfl zw_1580 zw_1577 zw_1579 zw_44 zw_74 zy_X11_asksTouch rfl rfl ⟨Nat.le_of_ble_eq_true rfl, Nat.le_of_ble_eq_true rfl⟩ ⟨(Nat.le_of_ble_eq_true rfl), (Nat.le_of_ble_eq_true rfl)⟩ (Nat.le_of_ble_eq_true rfl) dX11_firstRepeat_2 (fun _ _ hx => hx.elim) (fun r2 S1 h => ?_)
  refine z_widen (k' := 0) (n' := 0) (Nat.le_refl _) (Nat.le_refl _) ?_
  refine z_if_eq 15 dX11_firstRepeat_5 (by decide) (fun c6 => ?_) (fun c6 => ?_)
  · have h := h.1 c6
    refine z_iconst (v := 0) dX11_firstRepeat_15 rfl ?_
    exact z_ireturn ⟨rfl, _, rfl, h⟩ rfl (Nat.le_of_ble_eq_true rfl) (Nat.le_of_ble_eq_true rfl) dX11_firstRepeat_16
  · have h := h.2 c6
    refine z_aload_n 0 dX11_firstRepeat_8 rfl rfl ?_
    obtain ⟨hf5, h⟩ := h
    refine z_callVI (ci := 11) (st := []) (w_X11_repeat h) hf5.1 hf5.2 (Nat.le_of_ble_eq_true rfl) rfl zw_1495 zw_1492 zw_1494 zw_37 zw_74 zy_X11_repeat rfl rfl ⟨Nat.le_of_ble_eq_true rfl, Nat.le_of_ble_eq_true rfl⟩ ⟨(Nat.le_of_ble_eq_true rfl), (Nat.le_of_ble_eq_true rfl)⟩ (Nat.le_of_ble_eq_true rfl) dX11_firstRepeat_9 (fun _ _ hx => hx.elim) (fun r4 S3 h => ?_)
    refine z_widen (k' := 0) (n' := 0) (Nat.le_refl _) (Nat.le_refl _) ?_
    refine z_goto 16 dX11_firstRepeat_12 (by decide) ?_
    exact z_ireturn ⟨rfl, _, rfl, h⟩ rfl (Nat.le_of_ble_eq_true rfl) (Nat.le_of_ble_eq_true rfl) dX11_firstRepeat_16
set_option maxRecDepth 20000 in
set_option maxHeartbeats 4000000 in
theorem w_X11_isBell {E : zE} {l0 : Int32} {S : zS} {Q : Int32 → zS → Prop} {X : String → zS → Prop} (h : p_X11_isBell E l0 S Q X) : zM E yX11_isBell cX11_isBell 1 (some .boolean) ({ frames := 1, cells := 0, slots := 0, locals := 22 } : Room) [.int l0] S (qI Q) X := by
  unfold p_X11_isBell at h
  refine zM_of RX11 false (by decide) rfl (fun h => by cases h) (Nat.le_of_ble_eq_true rfl) ?_
  refine z_iload_n 0 dX11_isBell_0 rfl rfl ?_
  refine z_iconst (v := 0) dX11_isBell_1 rfl ?_
  refine z_iconst (v := 5) dX11_isBell_2 rfl ?_
  refine z_callSI (st := []) (w_X11_in h) zw_1435 zw_1433 zw_1434 zw_74 zy_X11_in rfl rfl ⟨Nat.le_of_ble_eq_true rfl, Nat.le_of_ble_eq_true rfl⟩ ⟨(Nat.le_of_ble_eq_true rfl), (Nat.le_of_ble_eq_true rfl)⟩ (Nat.le_of_ble_eq_true rfl) dX11_isBell_3 (fun _ _ hx => hx.elim) (fun r2 S1 h => ?_)
  refine z_widen (k' := 0) (n' := 0) (Nat.le_refl _) (Nat.le_refl _) ?_
  obtain ⟨hz3, h⟩ := h
  exact z_zreturn ⟨rfl, _, rfl, h⟩ rfl (zbn hz3) (Nat.le_of_ble_eq_true rfl) (Nat.le_of_ble_eq_true rfl) dX11_isBell_6
set_option maxRecDepth 20000 in
set_option maxHeartbeats 4000000 in
theorem w_X11_takeOut_J28 {E : zE}  {Q : Int32 → zS → Prop} {X : String → zS → Prop}  (a0 : Nat) (l1 : Int32) (a100 : Nat) (S : zS) (h : p_X11_takeOut_J28 E  Q X a0 l1 a100 S) : zJ E (RX11, cX11_takeOut, 2, (some .int), false, [], zTr) ({ frames := 5, cells := 0, slots := 0, locals := 115 } : Room) (zq (qI Q)) (zx X) 28 [(0, .ref a0), (1, .int l1)] [.ref a100] [] S 0 0 := by
  unfold p_X11_takeOut_J28 at h
  refine z_iconst (v := 2) dX11_takeOut_28 rfl ?_
  refine z_goto 33 dX11_takeOut_29 (by decide) ?_
  obtain ⟨hf9, h⟩ := h
  have h := h _ rfl
  refine z_putV (c := 11) (j := 0) (ty0 := tyX11) (S' := sI S 1100 a100 2) hf9.1 hf9.2 (Nat.le_of_ble_eq_true rfl) rfl zU_X11 tyX11_ok nmX11 (Nat.le_of_ble_eq_true rfl) (Nat.le_of_ble_eq_true rfl) ⟨_, zw_1298, Or.inl rfl⟩ (.inl rfl) rfl rfl rfl (zUpI (v := 2) hf9.2 (Nat.le_of_ble_eq_true rfl) (Nat.le_of_ble_eq_true rfl) rfl rfl) dX11_takeOut_33 ?_
  obtain ⟨S10, hS11⟩ : ∃ z, z = sI S 1100 a100 2 := ⟨_, rfl⟩
  rw [← hS11] at h ⊢
  have hf9 : a100 ∈ gL S10 ∧ gK S10 a100 = 11 := by rw [hS11]; exact hf9
  refine z_aload_n 0 dX11_takeOut_36 rfl rfl ?_
  obtain ⟨hf12, h⟩ := h
  refine z_getI (c := 11) (j := 0) (f := 1100) hf12.1 hf12.2 (Nat.le_of_ble_eq_true rfl) rfl zU_X11 (Nat.le_of_ble_eq_true rfl) (Nat.le_of_ble_eq_true rfl) ⟨_, zw_1298, Or.inl rfl⟩ rfl rfl dX11_takeOut_37 ?_
  refine z_if_le 45 dX11_takeOut_40 (by decide) (fun c23 => ?_) (fun c23 => ?_)
  · have h := h.1 c23
    refine z_aload_n 0 dX11_takeOut_45 rfl rfl ?_
    refine z_getQ (c := 11) (j := 19) (f := 1119) hf12.1 hf12.2 (Nat.le_of_ble_eq_true rfl) rfl zU_X11 (Nat.le_of_ble_eq_true rfl) (Nat.le_of_ble_eq_true rfl) ⟨_, zw_1317, Or.inl rfl⟩ rfl rfl dX11_takeOut_46 ?_
    refine z_iload_n 1 dX11_takeOut_49 rfl rfl ?_
    refine z_iconst (v := 1) dX11_takeOut_50 rfl ?_
    obtain ⟨b13, hb14, h⟩ := h
    rw [show va_rf (gR S10 1119 a0) = Value.ref b13 from by rw [hb14]; rfl]
    obtain ⟨hf15, h⟩ := h
    obtain ⟨j16, hj17, h⟩ := h
    obtain ⟨hx22, h⟩ := h
    have h := h _ rfl
    refine z_zast (j := j16) hf15.1 hf15.2 hj17.1 hj17.2.1 hj17.2.2 (zbb hx22) dX11_takeOut_51 ?_
    obtain ⟨S18, hS19⟩ : ∃ z, z = sA S10 b13 j16 1 := ⟨_, rfl⟩
    rw [← hS19] at h ⊢
    have hf12 : a0 ∈ gL S18 ∧ gK S18 a0 = 11 := by rw [hS19]; exact hf12
    have hf9 : a100 ∈ gL S18 ∧ gK S18 a100 = 11 := by rw [hS19]; exact hf9
    have hf15 : b13 ∈ gL S18 ∧ gK S18 b13 = 13 := by rw [hS19]; exact hf15
    refine z_aload_n 0 dX11_takeOut_52 rfl rfl ?_
    refine z_callVI (ci := 11) (st := []) (w_X11_drops h) hf12.1 hf12.2 (Nat.le_of_ble_eq_true rfl) rfl zw_1458 zw_1455 zw_1457 zw_30 zw_74 zy_X11_drops rfl rfl ⟨Nat.le_of_ble_eq_true rfl, Nat.le_of_ble_eq_true rfl⟩ ⟨(Nat.le_of_ble_eq_true rfl), (Nat.le_of_ble_eq_true rfl)⟩ (Nat.le_of_ble_eq_true rfl) dX11_takeOut_53 (fun _ _ hx => hx.elim) (fun r21 S20 h => ?_)
    refine z_widen (k' := 0) (n' := 0) (Nat.le_refl _) (Nat.le_refl _) ?_
    exact z_ireturn ⟨rfl, _, rfl, h⟩ rfl (Nat.le_of_ble_eq_true rfl) (Nat.le_of_ble_eq_true rfl) dX11_takeOut_56
  · have h := h.2 c23
    refine z_iconst (v := 0) dX11_takeOut_43 rfl ?_
    exact z_ireturn ⟨rfl, _, rfl, h⟩ rfl (Nat.le_of_ble_eq_true rfl) (Nat.le_of_ble_eq_true rfl) dX11_takeOut_44
set_option maxRecDepth 20000 in
set_option maxHeartbeats 4000000 in
theorem w_X11_takeOut {E : zE} {a0 : Nat} {l1 : Int32} {S : zS} {Q : Int32 → zS → Prop} {X : String → zS → Prop} (h : p_X11_takeOut E a0 l1 S Q X) : zM E yX11_takeOut cX11_takeOut 2 (some .int) ({ frames := 5, cells := 0, slots := 0, locals := 115 } : Room) [.ref a0, .int l1] S (qI Q) X := by
  unfold p_X11_takeOut at h
  refine zM_of RX11 false (by decide) rfl (fun h => by cases h) (Nat.le_of_ble_eq_true rfl) ?_
  refine z_aload_n 0 dX11_takeOut_0 rfl rfl ?_
  refine z_iload_n 1 dX11_takeOut_1 rfl rfl ?_
  refine z_callSI (st := [.ref a0]) (w_X11_isBell h) zw_1623 zw_1621 zw_1622 zw_74 zy_X11_isBell rfl rfl ⟨Nat.le_of_ble_eq_true rfl, Nat.le_of_ble_eq_true rfl⟩ ⟨(Nat.le_of_ble_eq_true rfl), (Nat.le_of_ble_eq_true rfl)⟩ (Nat.le_of_ble_eq_true rfl) dX11_takeOut_2 (fun _ _ hx => hx.elim) (fun r2 S1 h => ?_)
  refine z_widen (k' := 0) (n' := 0) (Nat.le_refl _) (Nat.le_refl _) ?_
  refine z_if_ne 12 dX11_takeOut_5 (by decide) (fun c53 => ?_) (fun c53 => ?_)
  · have h := h.1 c53
    refine z_aload_n 0 dX11_takeOut_12 rfl rfl ?_
    obtain ⟨hf3, h⟩ := h
    refine z_getQ (c := 11) (j := 19) (f := 1119) hf3.1 hf3.2 (Nat.le_of_ble_eq_true rfl) rfl zU_X11 (Nat.le_of_ble_eq_true rfl) (Nat.le_of_ble_eq_true rfl) ⟨_, zw_1317, Or.inl rfl⟩ rfl rfl dX11_takeOut_13 ?_
    refine z_iload_n 1 dX11_takeOut_16 rfl rfl ?_
    obtain ⟨b4, hb5, h⟩ := h
    rw [show va_rf (gR S1 1119 a0) = Value.ref b4 from by rw [hb5]; rfl]
    obtain ⟨hf6, h⟩ := h
    obtain ⟨j7, hj8, h⟩ := h
    refine z_zald (j := j7) hf6.1 hf6.2 hj8.1 hj8.2.1 hj8.2.2 dX11_takeOut_17 ?_
    refine z_if_ne 28 dX11_takeOut_18 (by decide) (fun c38 => ?_) (fun c38 => ?_)
    · have h := h.1 c38
      refine w_X11_takeOut_J28 a0 l1 a0 S1 h
    · have h := h.2 c38
      refine z_aload_n 0 dX11_takeOut_21 rfl rfl ?_
      refine z_getI (c := 11) (j := 27) (f := 1127) hf3.1 hf3.2 (Nat.le_of_ble_eq_true rfl) rfl zU_X11 (Nat.le_of_ble_eq_true rfl) (Nat.le_of_ble_eq_true rfl) ⟨_, zw_1325, Or.inl rfl⟩ rfl rfl dX11_takeOut_22 ?_
      refine z_if_eq 32 dX11_takeOut_25 (by decide) (fun c37 => ?_) (fun c37 => ?_)
      · have h := h.1 c37
        refine z_iconst (v := 0) dX11_takeOut_32 rfl ?_
        have h := h _ rfl
        refine z_putV (c := 11) (j := 0) (ty0 := tyX11) (S' := sI S1 1100 a0 0) hf3.1 hf3.2 (Nat.le_of_ble_eq_true rfl) rfl zU_X11 tyX11_ok nmX11 (Nat.le_of_ble_eq_true rfl) (Nat.le_of_ble_eq_true rfl) ⟨_, zw_1298, Or.inl rfl⟩ (.inl rfl) rfl rfl rfl (zUpI (v := 0) hf3.2 (Nat.le_of_ble_eq_true rfl) (Nat.le_of_ble_eq_true rfl) rfl rfl) dX11_takeOut_33 ?_
        obtain ⟨S24, hS25⟩ : ∃ z, z = sI S1 1100 a0 0 := ⟨_, rfl⟩
        rw [← hS25] at h ⊢
        have hf3 : a0 ∈ gL S24 ∧ gK S24 a0 = 11 := by rw [hS25]; exact hf3
        have hf6 : b4 ∈ gL S24 ∧ gK S24 b4 = 13 := by rw [hS25]; exact hf6
        refine z_aload_n 0 dX11_takeOut_36 rfl rfl ?_
        refine z_getI (c := 11) (j := 0) (f := 1100) hf3.1 hf3.2 (Nat.le_of_ble_eq_true rfl) rfl zU_X11 (Nat.le_of_ble_eq_true rfl) (Nat.le_of_ble_eq_true rfl) ⟨_, zw_1298, Or.inl rfl⟩ rfl rfl dX11_takeOut_37 ?_
        refine z_if_le 45 dX11_takeOut_40 (by decide) (fun c36 => ?_) (fun c36 => ?_)
        · have h := h.1 c36
          refine z_aload_n 0 dX11_takeOut_45 rfl rfl ?_
          refine z_getQ (c := 11) (j := 19) (f := 1119) hf3.1 hf3.2 (Nat.le_of_ble_eq_true rfl) rfl zU_X11 (Nat.le_of_ble_eq_true rfl) (Nat.le_of_ble_eq_true rfl) ⟨_, zw_1317, Or.inl rfl⟩ rfl rfl dX11_takeOut_46 ?_
          refine z_iload_n 1 dX11_takeOut_49 rfl rfl ?_
          refine z_iconst (v := 1) dX11_takeOut_50 rfl ?_
          obtain ⟨b26, hb27, h⟩ := h
          rw [show va_rf (gR S24 1119 a0) = Value.ref b26 from by rw [hb27]; rfl]
          obtain ⟨hf28, h⟩ := h
          obtain ⟨j29, hj30, h⟩ := h
          obtain ⟨hx35, h⟩ := h
          have h := h _ rfl
          refine z_zast (j := j29) hf28.1 hf28.2 hj30.1 hj30.2.1 hj30.2.2 (zbb hx35) dX11_takeOut_51 ?_
          obtain ⟨S31, hS32⟩ : ∃ z, z = sA S24 b26 j29 1 := ⟨_, rfl⟩
          rw [← hS32] at h ⊢
          have hf3 : a0 ∈ gL S31 ∧ gK S31 a0 = 11 := by rw [hS32]; exact hf3
          have hf28 : b26 ∈ gL S31 ∧ gK S31 b26 = 13 := by rw [hS32]; exact hf28
          have hf6 : b4 ∈ gL S31 ∧ gK S31 b4 = 13 := by rw [hS32]; exact hf6
          refine z_aload_n 0 dX11_takeOut_52 rfl rfl ?_
          refine z_callVI (ci := 11) (st := []) (w_X11_drops h) hf3.1 hf3.2 (Nat.le_of_ble_eq_true rfl) rfl zw_1458 zw_1455 zw_1457 zw_30 zw_74 zy_X11_drops rfl rfl ⟨Nat.le_of_ble_eq_true rfl, Nat.le_of_ble_eq_true rfl⟩ ⟨(Nat.le_of_ble_eq_true rfl), (Nat.le_of_ble_eq_true rfl)⟩ (Nat.le_of_ble_eq_true rfl) dX11_takeOut_53 (fun _ _ hx => hx.elim) (fun r34 S33 h => ?_)
          refine z_widen (k' := 0) (n' := 0) (Nat.le_refl _) (Nat.le_refl _) ?_
          exact z_ireturn ⟨rfl, _, rfl, h⟩ rfl (Nat.le_of_ble_eq_true rfl) (Nat.le_of_ble_eq_true rfl) dX11_takeOut_56
        · have h := h.2 c36
          refine z_iconst (v := 0) dX11_takeOut_43 rfl ?_
          exact z_ireturn ⟨rfl, _, rfl, h⟩ rfl (Nat.le_of_ble_eq_true rfl) (Nat.le_of_ble_eq_true rfl) dX11_takeOut_44
      · have h := h.2 c37
        refine w_X11_takeOut_J28 a0 l1 a0 S1 h
  · have h := h.2 c53
    refine z_iconst (v := 1) dX11_takeOut_8 rfl ?_
    refine z_goto 33 dX11_takeOut_9 (by decide) ?_
    obtain ⟨hf39, h⟩ := h
    have h := h _ rfl
    refine z_putV (c := 11) (j := 0) (ty0 := tyX11) (S' := sI S1 1100 a0 1) hf39.1 hf39.2 (Nat.le_of_ble_eq_true rfl) rfl zU_X11 tyX11_ok nmX11 (Nat.le_of_ble_eq_true rfl) (Nat.le_of_ble_eq_true rfl) ⟨_, zw_1298, Or.inl rfl⟩ (.inl rfl) rfl rfl rfl (zUpI (v := 1) hf39.2 (Nat.le_of_ble_eq_true rfl) (Nat.le_of_ble_eq_true rfl) rfl rfl) dX11_takeOut_33 ?_
    obtain ⟨S40, hS41⟩ : ∃ z, z = sI S1 1100 a0 1 := ⟨_, rfl⟩
    rw [← hS41] at h ⊢
    have hf39 : a0 ∈ gL S40 ∧ gK S40 a0 = 11 := by rw [hS41]; exact hf39
    refine z_aload_n 0 dX11_takeOut_36 rfl rfl ?_
    refine z_getI (c := 11) (j := 0) (f := 1100) hf39.1 hf39.2 (Nat.le_of_ble_eq_true rfl) rfl zU_X11 (Nat.le_of_ble_eq_true rfl) (Nat.le_of_ble_eq_true rfl) ⟨_, zw_1298, Or.inl rfl⟩ rfl rfl dX11_takeOut_37 ?_
    refine z_if_le 45 dX11_takeOut_40 (by decide) (fun c52 => ?_) (fun c52 => ?_)
    · have h := h.1 c52
      refine z_aload_n 0 dX11_takeOut_45 rfl rfl ?_
      refine z_getQ (c := 11) (j := 19) (f := 1119) hf39.1 hf39.2 (Nat.le_of_ble_eq_true rfl) rfl zU_X11 (Nat.le_of_ble_eq_true rfl) (Nat.le_of_ble_eq_true rfl) ⟨_, zw_1317, Or.inl rfl⟩ rfl rfl dX11_takeOut_46 ?_
      refine z_iload_n 1 dX11_takeOut_49 rfl rfl ?_
      refine z_iconst (v := 1) dX11_takeOut_50 rfl ?_
      obtain ⟨b42, hb43, h⟩ := h
      rw [show va_rf (gR S40 1119 a0) = Value.ref b42 from by rw [hb43]; rfl]
      obtain ⟨hf44, h⟩ := h
      obtain ⟨j45, hj46, h⟩ := h
      obtain ⟨hx51, h⟩ := h
      have h := h _ rfl
      refine z_zast (j := j45) hf44.1 hf44.2 hj46.1 hj46.2.1 hj46.2.2 (zbb hx51) dX11_takeOut_51 ?_
      obtain ⟨S47, hS48⟩ : ∃ z, z = sA S40 b42 j45 1 := ⟨_, rfl⟩
      rw [← hS48] at h ⊢
      have hf39 : a0 ∈ gL S47 ∧ gK S47 a0 = 11 := by rw [hS48]; exact hf39
      have hf44 : b42 ∈ gL S47 ∧ gK S47 b42 = 13 := by rw [hS48]; exact hf44
      refine z_aload_n 0 dX11_takeOut_52 rfl rfl ?_
      refine z_callVI (ci := 11) (st := []) (w_X11_drops h) hf39.1 hf39.2 (Nat.le_of_ble_eq_true rfl) rfl zw_1458 zw_1455 zw_1457 zw_30 zw_74 zy_X11_drops rfl rfl ⟨Nat.le_of_ble_eq_true rfl, Nat.le_of_ble_eq_true rfl⟩ ⟨(Nat.le_of_ble_eq_true rfl), (Nat.le_of_ble_eq_true rfl)⟩ (Nat.le_of_ble_eq_true rfl) dX11_takeOut_53 (fun _ _ hx => hx.elim) (fun r50 S49 h => ?_)
      refine z_widen (k' := 0) (n' := 0) (Nat.le_refl _) (Nat.le_refl _) ?_
      exact z_ireturn ⟨rfl, _, rfl, h⟩ rfl (Nat.le_of_ble_eq_true rfl) (Nat.le_of_ble_eq_true rfl) dX11_takeOut_56
    · have h := h.2 c52
      refine z_iconst (v := 0) dX11_takeOut_43 rfl ?_
      exact z_ireturn ⟨rfl, _, rfl, h⟩ rfl (Nat.le_of_ble_eq_true rfl) (Nat.le_of_ble_eq_true rfl) dX11_takeOut_44
set_option maxRecDepth 20000 in
set_option maxHeartbeats 4000000 in
theorem w_X11_bringIn_J26 {E : zE}  {Q : Int32 → zS → Prop} {X : String → zS → Prop}  (a0 : Nat) (l1 : Int32) (l100 : Int32) (a101 : Nat) (S : zS) (h : p_X11_bringIn_J26 E  Q X a0 l1 l100 a101 S) : zJ E (RX11, cX11_bringIn, 2, (some .boolean), false, [], zTr) ({ frames := 2, cells := 0, slots := 0, locals := 42 } : Room) (zq (qI Q)) (zx X) 26 [(0, .ref a0), (1, .int l1)] [.int l100, .ref a101] [] S 0 0 := by
  unfold p_X11_bringIn_J26 at h
  obtain ⟨hf9, h⟩ := h
  have h := h _ rfl
  refine z_putV (c := 11) (j := 0) (ty0 := tyX11) (S' := sI S 1100 a101 l100) hf9.1 hf9.2 (Nat.le_of_ble_eq_true rfl) rfl zU_X11 tyX11_ok nmX11 (Nat.le_of_ble_eq_true rfl) (Nat.le_of_ble_eq_true rfl) ⟨_, zw_1298, Or.inl rfl⟩ (.inl rfl) rfl rfl rfl (zUpI (v := l100) hf9.2 (Nat.le_of_ble_eq_true rfl) (Nat.le_of_ble_eq_true rfl) rfl rfl) dX11_bringIn_26 ?_
  obtain ⟨S10, hS11⟩ : ∃ z, z = sI S 1100 a101 l100 := ⟨_, rfl⟩
  rw [← hS11] at h ⊢
  have hf9 : a101 ∈ gL S10 ∧ gK S10 a101 = 11 := by rw [hS11]; exact hf9
  refine z_aload_n 0 dX11_bringIn_29 rfl rfl ?_
  obtain ⟨hf12, h⟩ := h
  refine z_getI (c := 11) (j := 0) (f := 1100) hf12.1 hf12.2 (Nat.le_of_ble_eq_true rfl) rfl zU_X11 (Nat.le_of_ble_eq_true rfl) (Nat.le_of_ble_eq_true rfl) ⟨_, zw_1298, Or.inl rfl⟩ rfl rfl dX11_bringIn_30 ?_
  refine z_if_le 38 dX11_bringIn_33 (by decide) (fun c25 => ?_) (fun c25 => ?_)
  · have h := h.1 c25
    refine z_aload_n 0 dX11_bringIn_38 rfl rfl ?_
    refine z_getQ (c := 11) (j := 19) (f := 1119) hf12.1 hf12.2 (Nat.le_of_ble_eq_true rfl) rfl zU_X11 (Nat.le_of_ble_eq_true rfl) (Nat.le_of_ble_eq_true rfl) ⟨_, zw_1317, Or.inl rfl⟩ rfl rfl dX11_bringIn_39 ?_
    refine z_iload_n 1 dX11_bringIn_42 rfl rfl ?_
    refine z_iconst (v := 0) dX11_bringIn_43 rfl ?_
    obtain ⟨b13, hb14, h⟩ := h
    rw [show va_rf (gR S10 1119 a0) = Value.ref b13 from by rw [hb14]; rfl]
    obtain ⟨hf15, h⟩ := h
    obtain ⟨j16, hj17, h⟩ := h
    obtain ⟨hx23, h⟩ := h
    have h := h _ rfl
    refine z_zast (j := j16) hf15.1 hf15.2 hj17.1 hj17.2.1 hj17.2.2 (zbb hx23) dX11_bringIn_44 ?_
    obtain ⟨S18, hS19⟩ : ∃ z, z = sA S10 b13 j16 0 := ⟨_, rfl⟩
    rw [← hS19] at h ⊢
    have hf12 : a0 ∈ gL S18 ∧ gK S18 a0 = 11 := by rw [hS19]; exact hf12
    have hf9 : a101 ∈ gL S18 ∧ gK S18 a101 = 11 := by rw [hS19]; exact hf9
    have hf15 : b13 ∈ gL S18 ∧ gK S18 b13 = 13 := by rw [hS19]; exact hf15
    refine z_aload_n 0 dX11_bringIn_45 rfl rfl ?_
    refine z_iload_n 1 dX11_bringIn_46 rfl rfl ?_
    refine z_callVI (ci := 11) (st := []) (w_X11_isInNow h) hf12.1 hf12.2 (Nat.le_of_ble_eq_true rfl) rfl zw_1470 zw_1467 zw_1469 zw_33 zw_74 zy_X11_isInNow rfl rfl ⟨Nat.le_of_ble_eq_true rfl, Nat.le_of_ble_eq_true rfl⟩ ⟨(Nat.le_of_ble_eq_true rfl), (Nat.le_of_ble_eq_true rfl)⟩ (Nat.le_of_ble_eq_true rfl) dX11_bringIn_47 (fun _ _ hx => hx.elim) (fun r21 S20 h => ?_)
    refine z_widen (k' := 0) (n' := 0) (Nat.le_refl _) (Nat.le_refl _) ?_
    obtain ⟨hz22, h⟩ := h
    exact z_zreturn ⟨rfl, _, rfl, h⟩ rfl (zbn hz22) (Nat.le_of_ble_eq_true rfl) (Nat.le_of_ble_eq_true rfl) dX11_bringIn_50
  · have h := h.2 c25
    refine z_iconst (v := 0) dX11_bringIn_36 rfl ?_
    obtain ⟨hz24, h⟩ := h
    exact z_zreturn ⟨rfl, _, rfl, h⟩ rfl (zbn hz24) (Nat.le_of_ble_eq_true rfl) (Nat.le_of_ble_eq_true rfl) dX11_bringIn_37
set_option maxRecDepth 20000 in
set_option maxHeartbeats 4000000 in
theorem w_X11_bringIn {E : zE} {a0 : Nat} {l1 : Int32} {S : zS} {Q : Int32 → zS → Prop} {X : String → zS → Prop} (h : p_X11_bringIn E a0 l1 S Q X) : zM E yX11_bringIn cX11_bringIn 2 (some .boolean) ({ frames := 2, cells := 0, slots := 0, locals := 42 } : Room) [.ref a0, .int l1] S (qI Q) X := by
  unfold p_X11_bringIn at h
  refine zM_of RX11 false (by decide) rfl (fun h => by cases h) (Nat.le_of_ble_eq_true rfl) ?_
  refine z_aload_n 0 dX11_bringIn_0 rfl rfl ?_
  refine z_iload_n 1 dX11_bringIn_1 rfl rfl ?_
  refine z_callSI (st := [.ref a0]) (w_X11_isBell h) zw_1623 zw_1621 zw_1622 zw_74 zy_X11_isBell rfl rfl ⟨Nat.le_of_ble_eq_true rfl, Nat.le_of_ble_eq_true rfl⟩ ⟨(Nat.le_of_ble_eq_true rfl), (Nat.le_of_ble_eq_true rfl)⟩ (Nat.le_of_ble_eq_true rfl) dX11_bringIn_2 (fun _ _ hx => hx.elim) (fun r2 S1 h => ?_)
  refine z_widen (k' := 0) (n' := 0) (Nat.le_refl _) (Nat.le_refl _) ?_
  refine z_if_ne 12 dX11_bringIn_5 (by decide) (fun c27 => ?_) (fun c27 => ?_)
  · have h := h.1 c27
    refine z_aload_n 0 dX11_bringIn_12 rfl rfl ?_
    obtain ⟨hf3, h⟩ := h
    refine z_getQ (c := 11) (j := 19) (f := 1119) hf3.1 hf3.2 (Nat.le_of_ble_eq_true rfl) rfl zU_X11 (Nat.le_of_ble_eq_true rfl) (Nat.le_of_ble_eq_true rfl) ⟨_, zw_1317, Or.inl rfl⟩ rfl rfl dX11_bringIn_13 ?_
    refine z_iload_n 1 dX11_bringIn_16 rfl rfl ?_
    obtain ⟨b4, hb5, h⟩ := h
    rw [show va_rf (gR S1 1119 a0) = Value.ref b4 from by rw [hb5]; rfl]
    obtain ⟨hf6, h⟩ := h
    obtain ⟨j7, hj8, h⟩ := h
    refine z_zald (j := j7) hf6.1 hf6.2 hj8.1 hj8.2.1 hj8.2.2 dX11_bringIn_17 ?_
    refine z_if_eq 25 dX11_bringIn_18 (by decide) (fun c26 => ?_) (fun c26 => ?_)
    · have h := h.1 c26
      refine z_iconst (v := 2) dX11_bringIn_25 rfl ?_
      refine w_X11_bringIn_J26 a0 l1 2 a0 S1 h
    · have h := h.2 c26
      refine z_iconst (v := 0) dX11_bringIn_21 rfl ?_
      refine z_goto 26 dX11_bringIn_22 (by decide) ?_
      refine w_X11_bringIn_J26 a0 l1 0 a0 S1 h
  · have h := h.2 c27
    refine z_iconst (v := 1) dX11_bringIn_8 rfl ?_
    refine z_goto 26 dX11_bringIn_9 (by decide) ?_
    refine w_X11_bringIn_J26 a0 l1 1 a0 S1 h
set_option maxRecDepth 20000 in
set_option maxHeartbeats 4000000 in
theorem w_X11_mend_J37 {E : zE}  {Q : Int32 → zS → Prop} {X : String → zS → Prop}  (a0 : Nat) (l1 : Int32) (l2 : Int32) (l100 : Int32) (a101 : Nat) (S : zS) (h : p_X11_mend_J37 E  Q X a0 l1 l2 l100 a101 S) : zJ E (RX11, cX11_mend, 4, (some .int), false, [], zTr) ({ frames := 2, cells := 0, slots := 0, locals := 42 } : Room) (zq (qI Q)) (zx X) 37 [(0, .ref a0), (1, .int l1), (2, .int l2)] [.int l100, .ref a101] [] S 0 0 := by
  unfold p_X11_mend_J37 at h
  obtain ⟨hf6, h⟩ := h
  have h := h _ rfl
  refine z_putV (c := 11) (j := 0) (ty0 := tyX11) (S' := sI S 1100 a101 l100) hf6.1 hf6.2 (Nat.le_of_ble_eq_true rfl) rfl zU_X11 tyX11_ok nmX11 (Nat.le_of_ble_eq_true rfl) (Nat.le_of_ble_eq_true rfl) ⟨_, zw_1298, Or.inl rfl⟩ (.inl rfl) rfl rfl rfl (zUpI (v := l100) hf6.2 (Nat.le_of_ble_eq_true rfl) (Nat.le_of_ble_eq_true rfl) rfl rfl) dX11_mend_37 ?_
  obtain ⟨S7, hS8⟩ : ∃ z, z = sI S 1100 a101 l100 := ⟨_, rfl⟩
  rw [← hS8] at h ⊢
  have hf6 : a101 ∈ gL S7 ∧ gK S7 a101 = 11 := by rw [hS8]; exact hf6
  refine z_aload_n 0 dX11_mend_40 rfl rfl ?_
  obtain ⟨hf9, h⟩ := h
  refine z_getI (c := 11) (j := 0) (f := 1100) hf9.1 hf9.2 (Nat.le_of_ble_eq_true rfl) rfl zU_X11 (Nat.le_of_ble_eq_true rfl) (Nat.le_of_ble_eq_true rfl) ⟨_, zw_1298, Or.inl rfl⟩ rfl rfl dX11_mend_41 ?_
  refine z_if_le 49 dX11_mend_44 (by decide) (fun c31 => ?_) (fun c31 => ?_)
  · have h := h.1 c31
    refine z_aload_n 0 dX11_mend_49 rfl rfl ?_
    refine z_getQ (c := 11) (j := 17) (f := 1117) hf9.1 hf9.2 (Nat.le_of_ble_eq_true rfl) rfl zU_X11 (Nat.le_of_ble_eq_true rfl) (Nat.le_of_ble_eq_true rfl) ⟨_, zw_1315, Or.inl rfl⟩ rfl rfl dX11_mend_50 ?_
    refine z_bipush (v := 6) dX11_mend_53 rfl ?_
    refine z_iload_n 2 dX11_mend_55 rfl rfl ?_
    refine z_imul dX11_mend_56 ?_
    refine z_iload_n 1 dX11_mend_57 rfl rfl ?_
    refine z_iadd dX11_mend_58 ?_
    obtain ⟨b10, hb11, h⟩ := h
    rw [show va_rf (gR S7 1117 a0) = Value.ref b10 from by rw [hb11]; rfl]
    obtain ⟨hf12, h⟩ := h
    obtain ⟨j13, hj14, h⟩ := h
    refine z_iald (j := j13) hf12.1 hf12.2 hj14.1 hj14.2.1 hj14.2.2 dX11_mend_59 ?_
    refine z_istore_n (lv' := [(3, .int (gA S7 b10 j13)), (0, .ref a0), (1, .int l1), (2, .int l2)]) dX11_mend_60 rfl (Nat.le_of_ble_eq_true rfl) rfl ?_
    refine z_aload_n 1 dX11_mend_61 rfl rfl ?_
    refine z_getQ (c := 11) (j := 17) (f := 1117) hf9.1 hf9.2 (Nat.le_of_ble_eq_true rfl) rfl zU_X11 (Nat.le_of_ble_eq_true rfl) (Nat.le_of_ble_eq_true rfl) ⟨_, zw_1315, Or.inl rfl⟩ rfl rfl dX11_mend_62 ?_
    refine z_bipush (v := 6) dX11_mend_65 rfl ?_
    refine z_iload_n 3 dX11_mend_67 rfl rfl ?_
    refine z_imul dX11_mend_68 ?_
    refine z_iload_n 2 dX11_mend_69 rfl rfl ?_
    refine z_iadd dX11_mend_70 ?_
    refine z_iconst (v := 0) dX11_mend_71 rfl ?_
    obtain ⟨b15, hb16, h⟩ := h
    rw [show va_rf (gR S7 1117 a0) = Value.ref b15 from by rw [hb16]; rfl]
    obtain ⟨hf17, h⟩ := h
    obtain ⟨j18, hj19, h⟩ := h
    have h := h _ rfl
    refine z_iast (j := j18) hf17.1 hf17.2 hj19.1 hj19.2.1 hj19.2.2 dX11_mend_72 ?_
    obtain ⟨S20, hS21⟩ : ∃ z, z = sA S7 b15 j18 0 := ⟨_, rfl⟩
    rw [← hS21] at h ⊢
    have hf9 : a0 ∈ gL S20 ∧ gK S20 a0 = 11 := by rw [hS21]; exact hf9
    have hf6 : a101 ∈ gL S20 ∧ gK S20 a101 = 11 := by rw [hS21]; exact hf6
    have hf12 : b10 ∈ gL S20 ∧ gK S20 b10 = 12 := by rw [hS21]; exact hf12
    have hf17 : b15 ∈ gL S20 ∧ gK S20 b15 = 12 := by rw [hS21]; exact hf17
    refine z_aload_n 1 dX11_mend_73 rfl rfl ?_
    refine z_getQ (c := 11) (j := 18) (f := 1118) hf9.1 hf9.2 (Nat.le_of_ble_eq_true rfl) rfl zU_X11 (Nat.le_of_ble_eq_true rfl) (Nat.le_of_ble_eq_true rfl) ⟨_, zw_1316, Or.inl rfl⟩ rfl rfl dX11_mend_74 ?_
    refine z_bipush (v := 6) dX11_mend_77 rfl ?_
    refine z_iload_n 3 dX11_mend_79 rfl rfl ?_
    refine z_imul dX11_mend_80 ?_
    refine z_iload_n 2 dX11_mend_81 rfl rfl ?_
    refine z_iadd dX11_mend_82 ?_
    refine z_iconst (v := 0) dX11_mend_83 rfl ?_
    obtain ⟨b22, hb23, h⟩ := h
    rw [show va_rf (gR S20 1118 a0) = Value.ref b22 from by rw [hb23]; rfl]
    obtain ⟨hf24, h⟩ := h
    obtain ⟨j25, hj26, h⟩ := h
    obtain ⟨hx29, h⟩ := h
    have h := h _ rfl
    refine z_zast (j := j25) hf24.1 hf24.2 hj26.1 hj26.2.1 hj26.2.2 (zbb hx29) dX11_mend_84 ?_
    obtain ⟨S27, hS28⟩ : ∃ z, z = sA S20 b22 j25 0 := ⟨_, rfl⟩
    rw [← hS28] at h ⊢
    have hf9 : a0 ∈ gL S27 ∧ gK S27 a0 = 11 := by rw [hS28]; exact hf9
    have hf6 : a101 ∈ gL S27 ∧ gK S27 a101 = 11 := by rw [hS28]; exact hf6
    have hf12 : b10 ∈ gL S27 ∧ gK S27 b10 = 12 := by rw [hS28]; exact hf12
    have hf17 : b15 ∈ gL S27 ∧ gK S27 b15 = 12 := by rw [hS28]; exact hf17
    have hf24 : b22 ∈ gL S27 ∧ gK S27 b22 = 13 := by rw [hS28]; exact hf24
    refine z_iload_n 0 dX11_mend_85 rfl rfl ?_
    exact z_ireturn ⟨rfl, _, rfl, h⟩ rfl (Nat.le_of_ble_eq_true rfl) (Nat.le_of_ble_eq_true rfl) dX11_mend_86
  · have h := h.2 c31
    refine z_iconst (v := 0) dX11_mend_47 rfl ?_
    exact z_ireturn ⟨rfl, _, rfl, h⟩ rfl (Nat.le_of_ble_eq_true rfl) (Nat.le_of_ble_eq_true rfl) dX11_mend_48
set_option maxRecDepth 20000 in
set_option maxHeartbeats 4000000 in
theorem w_X11_mend {E : zE} {a0 : Nat} {l1 : Int32} {l2 : Int32} {S : zS} {Q : Int32 → zS → Prop} {X : String → zS → Prop} (h : p_X11_mend E a0 l1 l2 S Q X) : zM E yX11_mend cX11_mend 4 (some .int) ({ frames := 2, cells := 0, slots := 0, locals := 42 } : Room) [.ref a0, .int l1, .int l2] S (qI Q) X := by
  unfold p_X11_mend at h
  refine zM_of RX11 false (by decide) rfl (fun h => by cases h) (Nat.le_of_ble_eq_true rfl) ?_
  refine z_aload_n 0 dX11_mend_0 rfl rfl ?_
  refine z_iload_n 1 dX11_mend_1 rfl rfl ?_
  refine z_callSI (st := [.ref a0]) (w_X11_isBell h) zw_1623 zw_1621 zw_1622 zw_74 zy_X11_isBell rfl rfl ⟨Nat.le_of_ble_eq_true rfl, Nat.le_of_ble_eq_true rfl⟩ ⟨(Nat.le_of_ble_eq_true rfl), (Nat.le_of_ble_eq_true rfl)⟩ (Nat.le_of_ble_eq_true rfl) dX11_mend_2 (fun _ _ hx => hx.elim) (fun r2 S1 h => ?_)
  refine z_widen (k' := 0) (n' := 0) (Nat.le_refl _) (Nat.le_refl _) ?_
  refine z_if_ne 12 dX11_mend_5 (by decide) (fun c34 => ?_) (fun c34 => ?_)
  · have h := h.1 c34
    refine z_iload_n 2 dX11_mend_12 rfl rfl ?_
    refine z_iconst (v := 0) dX11_mend_13 rfl ?_
    refine z_iconst (v := 1) dX11_mend_14 rfl ?_
    refine z_callSI (st := [.ref a0]) (w_X11_in h) zw_1435 zw_1433 zw_1434 zw_74 zy_X11_in rfl rfl ⟨Nat.le_of_ble_eq_true rfl, Nat.le_of_ble_eq_true rfl⟩ ⟨(Nat.le_of_ble_eq_true rfl), (Nat.le_of_ble_eq_true rfl)⟩ (Nat.le_of_ble_eq_true rfl) dX11_mend_15 (fun _ _ hx => hx.elim) (fun r4 S3 h => ?_)
    refine z_widen (k' := 0) (n' := 0) (Nat.le_refl _) (Nat.le_refl _) ?_
    refine z_if_ne 25 dX11_mend_18 (by decide) (fun c33 => ?_) (fun c33 => ?_)
    · have h := h.1 c33
      refine z_aload_n 0 dX11_mend_25 rfl rfl ?_
      obtain ⟨hf5, h⟩ := h
      refine z_getI (c := 11) (j := 27) (f := 1127) hf5.1 hf5.2 (Nat.le_of_ble_eq_true rfl) rfl zU_X11 (Nat.le_of_ble_eq_true rfl) (Nat.le_of_ble_eq_true rfl) ⟨_, zw_1325, Or.inl rfl⟩ rfl rfl dX11_mend_26 ?_
      refine z_if_eq 36 dX11_mend_29 (by decide) (fun c32 => ?_) (fun c32 => ?_)
      · have h := h.1 c32
        refine z_iconst (v := 0) dX11_mend_36 rfl ?_
        refine w_X11_mend_J37 a0 l1 l2 0 a0 S3 h
      · have h := h.2 c32
        refine z_iconst (v := 3) dX11_mend_32 rfl ?_
        refine z_goto 37 dX11_mend_33 (by decide) ?_
        refine w_X11_mend_J37 a0 l1 l2 3 a0 S3 h
    · have h := h.2 c33
      refine z_iconst (v := 2) dX11_mend_21 rfl ?_
      refine z_goto 37 dX11_mend_22 (by decide) ?_
      refine w_X11_mend_J37 a0 l1 l2 2 a0 S3 h
  · have h := h.2 c34
    refine z_iconst (v := 1) dX11_mend_8 rfl ?_
    refine z_goto 37 dX11_mend_9 (by decide) ?_
    refine w_X11_mend_J37 a0 l1 l2 1 a0 S1 h
set_option maxRecDepth 20000 in
set_option maxHeartbeats 4000000 in
theorem w_X11_wear_J26 {E : zE}  {Q : Int32 → zS → Prop} {X : String → zS → Prop}  (a0 : Nat) (l1 : Int32) (l2 : Int32) (l100 : Int32) (a101 : Nat) (S : zS) (h : p_X11_wear_J26 E  Q X a0 l1 l2 l100 a101 S) : zJ E (RX11, cX11_wear, 3, (some .int), false, [], zTr) ({ frames := 2, cells := 0, slots := 0, locals := 42 } : Room) (zq (qI Q)) (zx X) 26 [(0, .ref a0), (1, .int l1), (2, .int l2)] [.int l100, .ref a101] [] S 0 0 := by
  unfold p_X11_wear_J26 at h
  obtain ⟨hf5, h⟩ := h
  have h := h _ rfl
  refine z_putV (c := 11) (j := 0) (ty0 := tyX11) (S' := sI S 1100 a101 l100) hf5.1 hf5.2 (Nat.le_of_ble_eq_true rfl) rfl zU_X11 tyX11_ok nmX11 (Nat.le_of_ble_eq_true rfl) (Nat.le_of_ble_eq_true rfl) ⟨_, zw_1298, Or.inl rfl⟩ (.inl rfl) rfl rfl rfl (zUpI (v := l100) hf5.2 (Nat.le_of_ble_eq_true rfl) (Nat.le_of_ble_eq_true rfl) rfl rfl) dX11_wear_26 ?_
  obtain ⟨S6, hS7⟩ : ∃ z, z = sI S 1100 a101 l100 := ⟨_, rfl⟩
  rw [← hS7] at h ⊢
  have hf5 : a101 ∈ gL S6 ∧ gK S6 a101 = 11 := by rw [hS7]; exact hf5
  refine z_aload_n 0 dX11_wear_29 rfl rfl ?_
  obtain ⟨hf8, h⟩ := h
  refine z_getI (c := 11) (j := 0) (f := 1100) hf8.1 hf8.2 (Nat.le_of_ble_eq_true rfl) rfl zU_X11 (Nat.le_of_ble_eq_true rfl) (Nat.le_of_ble_eq_true rfl) ⟨_, zw_1298, Or.inl rfl⟩ rfl rfl dX11_wear_30 ?_
  refine z_if_le 40 dX11_wear_33 (by decide) (fun c14 => ?_) (fun c14 => ?_)
  · have h := h.1 c14
    refine z_aload_n 0 dX11_wear_40 rfl rfl ?_
    refine z_getQ (c := 11) (j := 17) (f := 1117) hf8.1 hf8.2 (Nat.le_of_ble_eq_true rfl) rfl zU_X11 (Nat.le_of_ble_eq_true rfl) (Nat.le_of_ble_eq_true rfl) ⟨_, zw_1315, Or.inl rfl⟩ rfl rfl dX11_wear_41 ?_
    refine z_bipush (v := 6) dX11_wear_44 rfl ?_
    refine z_iload_n 2 dX11_wear_46 rfl rfl ?_
    refine z_imul dX11_wear_47 ?_
    refine z_iload_n 1 dX11_wear_48 rfl rfl ?_
    refine z_iadd dX11_wear_49 ?_
    obtain ⟨b9, hb10, h⟩ := h
    rw [show va_rf (gR S6 1117 a0) = Value.ref b9 from by rw [hb10]; rfl]
    obtain ⟨hf11, h⟩ := h
    obtain ⟨j12, hj13, h⟩ := h
    refine z_iald (j := j12) hf11.1 hf11.2 hj13.1 hj13.2.1 hj13.2.2 dX11_wear_50 ?_
    exact z_ireturn ⟨rfl, _, rfl, h⟩ rfl (Nat.le_of_ble_eq_true rfl) (Nat.le_of_ble_eq_true rfl) dX11_wear_51
  · have h := h.2 c14
    refine z_iconst (v := 0) dX11_wear_36 rfl ?_
    refine z_goto 51 dX11_wear_37 (by decide) ?_
    exact z_ireturn ⟨rfl, _, rfl, h⟩ rfl (Nat.le_of_ble_eq_true rfl) (Nat.le_of_ble_eq_true rfl) dX11_wear_51
set_option maxRecDepth 20000 in
set_option maxHeartbeats 4000000 in
theorem w_X11_wear {E : zE} {a0 : Nat} {l1 : Int32} {l2 : Int32} {S : zS} {Q : Int32 → zS → Prop} {X : String → zS → Prop} (h : p_X11_wear E a0 l1 l2 S Q X) : zM E yX11_wear cX11_wear 3 (some .int) ({ frames := 2, cells := 0, slots := 0, locals := 42 } : Room) [.ref a0, .int l1, .int l2] S (qI Q) X := by
  unfold p_X11_wear at h
  refine zM_of RX11 false (by decide) rfl (fun h => by cases h) (Nat.le_of_ble_eq_true rfl) ?_
  refine z_aload_n 0 dX11_wear_0 rfl rfl ?_
  refine z_iload_n 1 dX11_wear_1 rfl rfl ?_
  refine z_callSI (st := [.ref a0]) (w_X11_isBell h) zw_1623 zw_1621 zw_1622 zw_74 zy_X11_isBell rfl rfl ⟨Nat.le_of_ble_eq_true rfl, Nat.le_of_ble_eq_true rfl⟩ ⟨(Nat.le_of_ble_eq_true rfl), (Nat.le_of_ble_eq_true rfl)⟩ (Nat.le_of_ble_eq_true rfl) dX11_wear_2 (fun _ _ hx => hx.elim) (fun r2 S1 h => ?_)
  refine z_widen (k' := 0) (n' := 0) (Nat.le_refl _) (Nat.le_refl _) ?_
  refine z_if_ne 12 dX11_wear_5 (by decide) (fun c16 => ?_) (fun c16 => ?_)
  · have h := h.1 c16
    refine z_iload_n 2 dX11_wear_12 rfl rfl ?_
    refine z_iconst (v := 0) dX11_wear_13 rfl ?_
    refine z_iconst (v := 1) dX11_wear_14 rfl ?_
    refine z_callSI (st := [.ref a0]) (w_X11_in h) zw_1435 zw_1433 zw_1434 zw_74 zy_X11_in rfl rfl ⟨Nat.le_of_ble_eq_true rfl, Nat.le_of_ble_eq_true rfl⟩ ⟨(Nat.le_of_ble_eq_true rfl), (Nat.le_of_ble_eq_true rfl)⟩ (Nat.le_of_ble_eq_true rfl) dX11_wear_15 (fun _ _ hx => hx.elim) (fun r4 S3 h => ?_)
    refine z_widen (k' := 0) (n' := 0) (Nat.le_refl _) (Nat.le_refl _) ?_
    refine z_if_eq 25 dX11_wear_18 (by decide) (fun c15 => ?_) (fun c15 => ?_)
    · have h := h.1 c15
      refine z_iconst (v := 2) dX11_wear_25 rfl ?_
      refine w_X11_wear_J26 a0 l1 l2 2 a0 S3 h
    · have h := h.2 c15
      refine z_iconst (v := 0) dX11_wear_21 rfl ?_
      refine z_goto 26 dX11_wear_22 (by decide) ?_
      refine w_X11_wear_J26 a0 l1 l2 0 a0 S3 h
  · have h := h.2 c16
    refine z_iconst (v := 1) dX11_wear_8 rfl ?_
    refine z_goto 26 dX11_wear_9 (by decide) ?_
    refine w_X11_wear_J26 a0 l1 l2 1 a0 S1 h
set_option maxRecDepth 20000 in
set_option maxHeartbeats 4000000 in
theorem w_X11_isIn {E : zE} {a0 : Nat} {l1 : Int32} {S : zS} {Q : Int32 → zS → Prop} {X : String → zS → Prop} (h : p_X11_isIn E a0 l1 S Q X) : zM E yX11_isIn cX11_isIn 2 (some .boolean) ({ frames := 2, cells := 0, slots := 0, locals := 42 } : Room) [.ref a0, .int l1] S (qI Q) X := by
  unfold p_X11_isIn at h
  refine zM_of RX11 false (by decide) rfl (fun h => by cases h) (Nat.le_of_ble_eq_true rfl) ?_
  refine z_aload_n 0 dX11_isIn_0 rfl rfl ?_
  refine z_iload_n 1 dX11_isIn_1 rfl rfl ?_
  refine z_callSI (st := [.ref a0]) (w_X11_isBell h) zw_1623 zw_1621 zw_1622 zw_74 zy_X11_isBell rfl rfl ⟨Nat.le_of_ble_eq_true rfl, Nat.le_of_ble_eq_true rfl⟩ ⟨(Nat.le_of_ble_eq_true rfl), (Nat.le_of_ble_eq_true rfl)⟩ (Nat.le_of_ble_eq_true rfl) dX11_isIn_2 (fun _ _ hx => hx.elim) (fun r2 S1 h => ?_)
  refine z_widen (k' := 0) (n' := 0) (Nat.le_refl _) (Nat.le_refl _) ?_
  refine z_if_eq 12 dX11_isIn_5 (by decide) (fun c23 => ?_) (fun c23 => ?_)
  · have h := h.1 c23
    refine z_iconst (v := 1) dX11_isIn_12 rfl ?_
    obtain ⟨hf3, h⟩ := h
    have h := h _ rfl
    refine z_putV (c := 11) (j := 0) (ty0 := tyX11) (S' := sI S1 1100 a0 1) hf3.1 hf3.2 (Nat.le_of_ble_eq_true rfl) rfl zU_X11 tyX11_ok nmX11 (Nat.le_of_ble_eq_true rfl) (Nat.le_of_ble_eq_true rfl) ⟨_, zw_1298, Or.inl rfl⟩ (.inl rfl) rfl rfl rfl (zUpI (v := 1) hf3.2 (Nat.le_of_ble_eq_true rfl) (Nat.le_of_ble_eq_true rfl) rfl rfl) dX11_isIn_13 ?_
    obtain ⟨S4, hS5⟩ : ∃ z, z = sI S1 1100 a0 1 := ⟨_, rfl⟩
    rw [← hS5] at h ⊢
    have hf3 : a0 ∈ gL S4 ∧ gK S4 a0 = 11 := by rw [hS5]; exact hf3
    refine z_aload_n 0 dX11_isIn_16 rfl rfl ?_
    refine z_getI (c := 11) (j := 0) (f := 1100) hf3.1 hf3.2 (Nat.le_of_ble_eq_true rfl) rfl zU_X11 (Nat.le_of_ble_eq_true rfl) (Nat.le_of_ble_eq_true rfl) ⟨_, zw_1298, Or.inl rfl⟩ rfl rfl dX11_isIn_17 ?_
    refine z_if_ne 35 dX11_isIn_20 (by decide) (fun c12 => ?_) (fun c12 => ?_)
    · have h := h.1 c12
      refine z_iconst (v := 0) dX11_isIn_35 rfl ?_
      obtain ⟨hz6, h⟩ := h
      exact z_zreturn ⟨rfl, _, rfl, h⟩ rfl (zbn hz6) (Nat.le_of_ble_eq_true rfl) (Nat.le_of_ble_eq_true rfl) dX11_isIn_36
    · have h := h.2 c12
      refine z_aload_n 0 dX11_isIn_23 rfl rfl ?_
      refine z_iload_n 1 dX11_isIn_24 rfl rfl ?_
      refine z_callVI (ci := 11) (st := []) (w_X11_isInNow h) hf3.1 hf3.2 (Nat.le_of_ble_eq_true rfl) rfl zw_1470 zw_1467 zw_1469 zw_33 zw_74 zy_X11_isInNow rfl rfl ⟨Nat.le_of_ble_eq_true rfl, Nat.le_of_ble_eq_true rfl⟩ ⟨(Nat.le_of_ble_eq_true rfl), (Nat.le_of_ble_eq_true rfl)⟩ (Nat.le_of_ble_eq_true rfl) dX11_isIn_25 (fun _ _ hx => hx.elim) (fun r8 S7 h => ?_)
      refine z_widen (k' := 0) (n' := 0) (Nat.le_refl _) (Nat.le_refl _) ?_
      refine z_if_eq 35 dX11_isIn_28 (by decide) (fun c11 => ?_) (fun c11 => ?_)
      · have h := h.1 c11
        refine z_iconst (v := 0) dX11_isIn_35 rfl ?_
        obtain ⟨hz9, h⟩ := h
        exact z_zreturn ⟨rfl, _, rfl, h⟩ rfl (zbn hz9) (Nat.le_of_ble_eq_true rfl) (Nat.le_of_ble_eq_true rfl) dX11_isIn_36
      · have h := h.2 c11
        refine z_iconst (v := 1) dX11_isIn_31 rfl ?_
        refine z_goto 36 dX11_isIn_32 (by decide) ?_
        obtain ⟨hz10, h⟩ := h
        exact z_zreturn ⟨rfl, _, rfl, h⟩ rfl (zbn hz10) (Nat.le_of_ble_eq_true rfl) (Nat.le_of_ble_eq_true rfl) dX11_isIn_36
  · have h := h.2 c23
    refine z_iconst (v := 0) dX11_isIn_8 rfl ?_
    refine z_goto 13 dX11_isIn_9 (by decide) ?_
    obtain ⟨hf13, h⟩ := h
    have h := h _ rfl
    refine z_putV (c := 11) (j := 0) (ty0 := tyX11) (S' := sI S1 1100 a0 0) hf13.1 hf13.2 (Nat.le_of_ble_eq_true rfl) rfl zU_X11 tyX11_ok nmX11 (Nat.le_of_ble_eq_true rfl) (Nat.le_of_ble_eq_true rfl) ⟨_, zw_1298, Or.inl rfl⟩ (.inl rfl) rfl rfl rfl (zUpI (v := 0) hf13.2 (Nat.le_of_ble_eq_true rfl) (Nat.le_of_ble_eq_true rfl) rfl rfl) dX11_isIn_13 ?_
    obtain ⟨S14, hS15⟩ : ∃ z, z = sI S1 1100 a0 0 := ⟨_, rfl⟩
    rw [← hS15] at h ⊢
    have hf13 : a0 ∈ gL S14 ∧ gK S14 a0 = 11 := by rw [hS15]; exact hf13
    refine z_aload_n 0 dX11_isIn_16 rfl rfl ?_
    refine z_getI (c := 11) (j := 0) (f := 1100) hf13.1 hf13.2 (Nat.le_of_ble_eq_true rfl) rfl zU_X11 (Nat.le_of_ble_eq_true rfl) (Nat.le_of_ble_eq_true rfl) ⟨_, zw_1298, Or.inl rfl⟩ rfl rfl dX11_isIn_17 ?_
    refine z_if_ne 35 dX11_isIn_20 (by decide) (fun c22 => ?_) (fun c22 => ?_)
    · have h := h.1 c22
      refine z_iconst (v := 0) dX11_isIn_35 rfl ?_
      obtain ⟨hz16, h⟩ := h
      exact z_zreturn ⟨rfl, _, rfl, h⟩ rfl (zbn hz16) (Nat.le_of_ble_eq_true rfl) (Nat.le_of_ble_eq_true rfl) dX11_isIn_36
    · have h := h.2 c22
      refine z_aload_n 0 dX11_isIn_23 rfl rfl ?_
      refine z_iload_n 1 dX11_isIn_24 rfl rfl ?_
      refine z_callVI (ci := 11) (st := []) (w_X11_isInNow h) hf13.1 hf13.2 (Nat.le_of_ble_eq_true rfl) rfl zw_1470 zw_1467 zw_1469 zw_33 zw_74 zy_X11_isInNow rfl rfl ⟨Nat.le_of_ble_eq_true rfl, Nat.le_of_ble_eq_true rfl⟩ ⟨(Nat.le_of_ble_eq_true rfl), (Nat.le_of_ble_eq_true rfl)⟩ (Nat.le_of_ble_eq_true rfl) dX11_isIn_25 (fun _ _ hx => hx.elim) (fun r18 S17 h => ?_)
      refine z_widen (k' := 0) (n' := 0) (Nat.le_refl _) (Nat.le_refl _) ?_
      refine z_if_eq 35 dX11_isIn_28 (by decide) (fun c21 => ?_) (fun c21 => ?_)
      · have h := h.1 c21
        refine z_iconst (v := 0) dX11_isIn_35 rfl ?_
        obtain ⟨hz19, h⟩ := h
        exact z_zreturn ⟨rfl, _, rfl, h⟩ rfl (zbn hz19) (Nat.le_of_ble_eq_true rfl) (Nat.le_of_ble_eq_true rfl) dX11_isIn_36
      · have h := h.2 c21
        refine z_iconst (v := 1) dX11_isIn_31 rfl ?_
        refine z_goto 36 dX11_isIn_32 (by decide) ?_
        obtain ⟨hz20, h⟩ := h
        exact z_zreturn ⟨rfl, _, rfl, h⟩ rfl (zbn hz20) (Nat.le_of_ble_eq_true rfl) (Nat.le_of_ble_eq_true rfl) dX11_isIn_36
set_option maxRecDepth 20000 in
set_option maxHeartbeats 4000000 in
theorem w_X11_blows {E : zE} {a0 : Nat} {l1 : Int32} {l2 : Int32} {S : zS} {Q : zS → Prop} {X : String → zS → Prop} (h : p_X11_blows E a0 l1 l2 S Q X) : zM E yX11_blows cX11_blows 3 none ({ frames := 0, cells := 0, slots := 0, locals := 0 } : Room) [.ref a0, .int l1, .int l2] S (qV Q) X := by
  unfold p_X11_blows at h
  refine zM_of RX11 false (by decide) rfl (fun h => by cases h) (Nat.le_of_ble_eq_true rfl) ?_
  refine z_aload_n 0 dX11_blows_0 rfl rfl ?_
  obtain ⟨hf1, h⟩ := h
  refine z_getQ (c := 11) (j := 17) (f := 1117) hf1.1 hf1.2 (Nat.le_of_ble_eq_true rfl) rfl zU_X11 (Nat.le_of_ble_eq_true rfl) (Nat.le_of_ble_eq_true rfl) ⟨_, zw_1315, Or.inl rfl⟩ rfl rfl dX11_blows_1 ?_
  refine z_iload_n 1 dX11_blows_4 rfl rfl ?_
  refine z_dup2 dX11_blows_5 rfl (zcat _) ?_
  obtain ⟨b2, hb3, h⟩ := h
  rw [show va_rf (gR S 1117 a0) = Value.ref b2 from by rw [hb3]; rfl]
  obtain ⟨hf4, h⟩ := h
  obtain ⟨j5, hj6, h⟩ := h
  refine z_iald (j := j5) hf4.1 hf4.2 hj6.1 hj6.2.1 hj6.2.2 dX11_blows_6 ?_
  refine z_iconst (v := 1) dX11_blows_7 rfl ?_
  refine z_iload_n 2 dX11_blows_8 rfl rfl ?_
  refine z_iconst (v := 2) dX11_blows_9 rfl ?_
  refine z_irem dX11_blows_10 (by decide) ?_
  refine z_iadd dX11_blows_11 ?_
  refine z_iadd dX11_blows_12 ?_
  obtain ⟨j7, hj8, h⟩ := h
  have h := h _ rfl
  refine z_iast (j := j7) hf4.1 hf4.2 hj8.1 hj8.2.1 hj8.2.2 dX11_blows_13 ?_
  obtain ⟨S9, hS10⟩ : ∃ z, z = sA S b2 j7 ((gA S b2 j5) + (1 + (l2 - l2 / 2 * 2))) := ⟨_, rfl⟩
  rw [← hS10] at h ⊢
  have hf1 : a0 ∈ gL S9 ∧ gK S9 a0 = 11 := by rw [hS10]; exact hf1
  have hf4 : b2 ∈ gL S9 ∧ gK S9 b2 = 12 := by rw [hS10]; exact hf4
  refine z_aload_n 0 dX11_blows_14 rfl rfl ?_
  refine z_getQ (c := 11) (j := 17) (f := 1117) hf1.1 hf1.2 (Nat.le_of_ble_eq_true rfl) rfl zU_X11 (Nat.le_of_ble_eq_true rfl) (Nat.le_of_ble_eq_true rfl) ⟨_, zw_1315, Or.inl rfl⟩ rfl rfl dX11_blows_15 ?_
  refine z_bipush (v := 6) dX11_blows_18 rfl ?_
  refine z_iload_n 1 dX11_blows_20 rfl rfl ?_
  refine z_iadd dX11_blows_21 ?_
  refine z_dup2 dX11_blows_22 rfl (zcat _) ?_
  obtain ⟨b11, hb12, h⟩ := h
  rw [show va_rf (gR S9 1117 a0) = Value.ref b11 from by rw [hb12]; rfl]
  obtain ⟨hf13, h⟩ := h
  obtain ⟨j14, hj15, h⟩ := h
  refine z_iald (j := j14) hf13.1 hf13.2 hj15.1 hj15.2.1 hj15.2.2 dX11_blows_23 ?_
  refine z_iconst (v := 1) dX11_blows_24 rfl ?_
  refine z_iadd dX11_blows_25 ?_
  obtain ⟨j16, hj17, h⟩ := h
  have h := h _ rfl
  refine z_iast (j := j16) hf13.1 hf13.2 hj17.1 hj17.2.1 hj17.2.2 dX11_blows_26 ?_
  obtain ⟨S18, hS19⟩ : ∃ z, z = sA S9 b11 j16 ((gA S9 b11 j14) + 1) := ⟨_, rfl⟩
  rw [← hS19] at h ⊢
  have hf1 : a0 ∈ gL S18 ∧ gK S18 a0 = 11 := by rw [hS19]; exact hf1
  have hf13 : b11 ∈ gL S18 ∧ gK S18 b11 = 12 := by rw [hS19]; exact hf13
  have hf4 : b2 ∈ gL S18 ∧ gK S18 b2 = 12 := by rw [hS19]; exact hf4
  exact z_return ⟨rfl, rfl, h⟩ rfl (Nat.le_of_ble_eq_true rfl) (Nat.le_of_ble_eq_true rfl) dX11_blows_27
set_option maxRecDepth 20000 in
set_option maxHeartbeats 4000000 in
theorem w_X11_looks_J120 {E : zE} {B4 : Nat → Int32 → Int32 → zS → Prop} {Q : zS → Prop} {X : String → zS → Prop} (hB4 : ∀ (a0 : Nat) (l1 : Int32) (l2 : Int32) (S : zS), B4 a0 l1 l2 S → zJ E (RX11, cX11_looks, 5, none, false, [], zTr) ({ frames := 5, cells := 0, slots := 0, locals := 115 } : Room) (zq (qV Q)) (zx X) 4 [(0, .ref a0), (1, .int l1), (2, .int l2)] [] [] S 0 0) (a0 : Nat) (l1 : Int32) (l2 : Int32) (l3 : Int32) (l4 : Int32) (l100 : Int32) (a101 : Nat) (S : zS) (h : p_X11_looks_J120 E B4 Q X a0 l1 l2 l3 l4 l100 a101 S) : zJ E (RX11, cX11_looks, 5, none, false, [], zTr) ({ frames := 5, cells := 0, slots := 0, locals := 115 } : Room) (zq (qV Q)) (zx X) 120 [(0, .ref a0), (1, .int l1), (2, .int l2), (3, .int l3), (4, .int l4)] [.int l100, .ref a101] [] S 0 0 := by
  unfold p_X11_looks_J120 at h
  refine z_iconst (v := 1) dX11_looks_120 rfl ?_
  refine z_goto 125 dX11_looks_121 (by decide) ?_
  obtain ⟨hf30, h⟩ := h
  obtain ⟨j31, hj32, h⟩ := h
  obtain ⟨hx38, h⟩ := h
  have h := h _ rfl
  refine z_zast (j := j31) hf30.1 hf30.2 hj32.1 hj32.2.1 hj32.2.2 (zbb hx38) dX11_looks_125 ?_
  obtain ⟨S33, hS34⟩ : ∃ z, z = sA S a101 j31 1 := ⟨_, rfl⟩
  rw [← hS34] at h ⊢
  have hf30 : a101 ∈ gL S33 ∧ gK S33 a101 = 13 := by rw [hS34]; exact hf30
  refine z_iload_n 1 dX11_looks_126 rfl rfl ?_
  refine z_if_ne 139 dX11_looks_127 (by decide) (fun c37 => ?_) (fun c37 => ?_)
  · have h := h.1 c37
    refine z_iconst (v := 1) dX11_looks_139 rfl ?_
    refine z_goto 144 dX11_looks_140 (by decide) ?_
    refine z_istore_n (lv' := [(1, .int 1), (0, .ref a0), (2, .int l2), (3, .int l3), (4, .int l4)]) dX11_looks_144 rfl (Nat.le_of_ble_eq_true rfl) rfl ?_
    refine z_iinc (v := (l2 + 1)) (lv' := [(2, .int (l2 + 1)), (1, .int 1), (0, .ref a0), (3, .int l3), (4, .int l4)]) 2 dX11_looks_145 rfl rfl (Nat.le_of_ble_eq_true rfl) rfl ?_
    refine z_goto 4 dX11_looks_148 (by decide) ?_
    refine z_sub [2, 1, 0] rfl ?_
    exact hB4 a0 1 (l2 + 1) S33 h
  · have h := h.2 c37
    refine z_iload_n 3 dX11_looks_130 rfl rfl ?_
    refine z_if_ne 139 dX11_looks_131 (by decide) (fun c36 => ?_) (fun c36 => ?_)
    · have h := h.1 c36
      refine z_iconst (v := 1) dX11_looks_139 rfl ?_
      refine z_goto 144 dX11_looks_140 (by decide) ?_
      refine z_istore_n (lv' := [(1, .int 1), (0, .ref a0), (2, .int l2), (3, .int l3), (4, .int l4)]) dX11_looks_144 rfl (Nat.le_of_ble_eq_true rfl) rfl ?_
      refine z_iinc (v := (l2 + 1)) (lv' := [(2, .int (l2 + 1)), (1, .int 1), (0, .ref a0), (3, .int l3), (4, .int l4)]) 2 dX11_looks_145 rfl rfl (Nat.le_of_ble_eq_true rfl) rfl ?_
      refine z_goto 4 dX11_looks_148 (by decide) ?_
      refine z_sub [2, 1, 0] rfl ?_
      exact hB4 a0 1 (l2 + 1) S33 h
    · have h := h.2 c36
      refine z_iload 4 dX11_looks_134 rfl ?_
      refine z_if_eq 143 dX11_looks_136 (by decide) (fun c35 => ?_) (fun c35 => ?_)
      · have h := h.1 c35
        refine z_iconst (v := 0) dX11_looks_143 rfl ?_
        refine z_istore_n (lv' := [(1, .int 0), (0, .ref a0), (2, .int l2), (3, .int l3), (4, .int l4)]) dX11_looks_144 rfl (Nat.le_of_ble_eq_true rfl) rfl ?_
        refine z_iinc (v := (l2 + 1)) (lv' := [(2, .int (l2 + 1)), (1, .int 0), (0, .ref a0), (3, .int l3), (4, .int l4)]) 2 dX11_looks_145 rfl rfl (Nat.le_of_ble_eq_true rfl) rfl ?_
        refine z_goto 4 dX11_looks_148 (by decide) ?_
        refine z_sub [2, 1, 0] rfl ?_
        exact hB4 a0 0 (l2 + 1) S33 h
      · have h := h.2 c35
        refine z_iconst (v := 1) dX11_looks_139 rfl ?_
        refine z_goto 144 dX11_looks_140 (by decide) ?_
        refine z_istore_n (lv' := [(1, .int 1), (0, .ref a0), (2, .int l2), (3, .int l3), (4, .int l4)]) dX11_looks_144 rfl (Nat.le_of_ble_eq_true rfl) rfl ?_
        refine z_iinc (v := (l2 + 1)) (lv' := [(2, .int (l2 + 1)), (1, .int 1), (0, .ref a0), (3, .int l3), (4, .int l4)]) 2 dX11_looks_145 rfl rfl (Nat.le_of_ble_eq_true rfl) rfl ?_
        refine z_goto 4 dX11_looks_148 (by decide) ?_
        refine z_sub [2, 1, 0] rfl ?_
        exact hB4 a0 1 (l2 + 1) S33 h
set_option maxRecDepth 20000 in
set_option maxHeartbeats 4000000 in
theorem w_X11_looks_J94 {E : zE} {B4 : Nat → Int32 → Int32 → zS → Prop} {Q : zS → Prop} {X : String → zS → Prop} (hB4 : ∀ (a0 : Nat) (l1 : Int32) (l2 : Int32) (S : zS), B4 a0 l1 l2 S → zJ E (RX11, cX11_looks, 5, none, false, [], zTr) ({ frames := 5, cells := 0, slots := 0, locals := 115 } : Room) (zq (qV Q)) (zx X) 4 [(0, .ref a0), (1, .int l1), (2, .int l2)] [] [] S 0 0) (a0 : Nat) (l1 : Int32) (l2 : Int32) (l3 : Int32) (l4 : Int32) (l100 : Int32) (l101 : Int32) (a102 : Nat) (S : zS) (h : p_X11_looks_J94 E B4 Q X a0 l1 l2 l3 l4 l100 l101 a102 S) : zJ E (RX11, cX11_looks, 5, none, false, [], zTr) ({ frames := 5, cells := 0, slots := 0, locals := 115 } : Room) (zq (qV Q)) (zx X) 94 [(0, .ref a0), (1, .int l1), (2, .int l2), (3, .int l3), (4, .int l4)] [.int l100, .int l101, .ref a102] [] S 0 0 := by
  unfold p_X11_looks_J94 at h
  obtain ⟨hf19, h⟩ := h
  obtain ⟨j20, hj21, h⟩ := h
  obtain ⟨hx49, h⟩ := h
  have h := h _ rfl
  refine z_zast (j := j20) hf19.1 hf19.2 hj21.1 hj21.2.1 hj21.2.2 (zbb hx49) dX11_looks_94 ?_
  obtain ⟨S22, hS23⟩ : ∃ z, z = sA S a102 j20 l100 := ⟨_, rfl⟩
  rw [← hS23] at h ⊢
  have hf19 : a102 ∈ gL S22 ∧ gK S22 a102 = 13 := by rw [hS23]; exact hf19
  refine z_aload_n 0 dX11_looks_95 rfl rfl ?_
  obtain ⟨hf24, h⟩ := h
  refine z_getQ (c := 11) (j := 18) (f := 1118) hf24.1 hf24.2 (Nat.le_of_ble_eq_true rfl) rfl zU_X11 (Nat.le_of_ble_eq_true rfl) (Nat.le_of_ble_eq_true rfl) ⟨_, zw_1316, Or.inl rfl⟩ rfl rfl dX11_looks_96 ?_
  refine z_bipush (v := 6) dX11_looks_99 rfl ?_
  refine z_iload_n 2 dX11_looks_101 rfl rfl ?_
  refine z_iadd dX11_looks_102 ?_
  refine z_aload_n 0 dX11_looks_103 rfl rfl ?_
  refine z_getQ (c := 11) (j := 18) (f := 1118) hf24.1 hf24.2 (Nat.le_of_ble_eq_true rfl) rfl zU_X11 (Nat.le_of_ble_eq_true rfl) (Nat.le_of_ble_eq_true rfl) ⟨_, zw_1316, Or.inl rfl⟩ rfl rfl dX11_looks_104 ?_
  refine z_bipush (v := 6) dX11_looks_107 rfl ?_
  refine z_iload_n 2 dX11_looks_109 rfl rfl ?_
  refine z_iadd dX11_looks_110 ?_
  obtain ⟨b25, hb26, h⟩ := h
  rw [show va_rf (gR S22 1118 a0) = Value.ref b25 from by rw [hb26]; rfl]
  obtain ⟨hf27, h⟩ := h
  obtain ⟨j28, hj29, h⟩ := h
  refine z_zald (j := j28) hf27.1 hf27.2 hj29.1 hj29.2.1 hj29.2.2 dX11_looks_111 ?_
  refine z_if_ne 120 dX11_looks_112 (by decide) (fun c48 => ?_) (fun c48 => ?_)
  · have h := h.1 c48
    refine w_X11_looks_J120 (fun a0 l1 l2 S h => ?_) a0 l1 l2 l3 l4 (6 + l2) b25 S22 h
    exact hB4 a0 l1 l2 S h
  · have h := h.2 c48
    refine z_iload 4 dX11_looks_115 rfl ?_
    refine z_if_eq 124 dX11_looks_117 (by decide) (fun c47 => ?_) (fun c47 => ?_)
    · have h := h.1 c47
      refine z_iconst (v := 0) dX11_looks_124 rfl ?_
      obtain ⟨j39, hj40, h⟩ := h
      obtain ⟨hx46, h⟩ := h
      have h := h _ rfl
      refine z_zast (j := j39) hf27.1 hf27.2 hj40.1 hj40.2.1 hj40.2.2 (zbb hx46) dX11_looks_125 ?_
      obtain ⟨S41, hS42⟩ : ∃ z, z = sA S22 b25 j39 0 := ⟨_, rfl⟩
      rw [← hS42] at h ⊢
      have hf24 : a0 ∈ gL S41 ∧ gK S41 a0 = 11 := by rw [hS42]; exact hf24
      have hf19 : a102 ∈ gL S41 ∧ gK S41 a102 = 13 := by rw [hS42]; exact hf19
      have hf27 : b25 ∈ gL S41 ∧ gK S41 b25 = 13 := by rw [hS42]; exact hf27
      refine z_iload_n 1 dX11_looks_126 rfl rfl ?_
      refine z_if_ne 139 dX11_looks_127 (by decide) (fun c45 => ?_) (fun c45 => ?_)
      · have h := h.1 c45
        refine z_iconst (v := 1) dX11_looks_139 rfl ?_
        refine z_goto 144 dX11_looks_140 (by decide) ?_
        refine z_istore_n (lv' := [(1, .int 1), (0, .ref a0), (2, .int l2), (3, .int l3), (4, .int l4)]) dX11_looks_144 rfl (Nat.le_of_ble_eq_true rfl) rfl ?_
        refine z_iinc (v := (l2 + 1)) (lv' := [(2, .int (l2 + 1)), (1, .int 1), (0, .ref a0), (3, .int l3), (4, .int l4)]) 2 dX11_looks_145 rfl rfl (Nat.le_of_ble_eq_true rfl) rfl ?_
        refine z_goto 4 dX11_looks_148 (by decide) ?_
        refine z_sub [2, 1, 0] rfl ?_
        exact hB4 a0 1 (l2 + 1) S41 h
      · have h := h.2 c45
        refine z_iload_n 3 dX11_looks_130 rfl rfl ?_
        refine z_if_ne 139 dX11_looks_131 (by decide) (fun c44 => ?_) (fun c44 => ?_)
        · have h := h.1 c44
          refine z_iconst (v := 1) dX11_looks_139 rfl ?_
          refine z_goto 144 dX11_looks_140 (by decide) ?_
          refine z_istore_n (lv' := [(1, .int 1), (0, .ref a0), (2, .int l2), (3, .int l3), (4, .int l4)]) dX11_looks_144 rfl (Nat.le_of_ble_eq_true rfl) rfl ?_
          refine z_iinc (v := (l2 + 1)) (lv' := [(2, .int (l2 + 1)), (1, .int 1), (0, .ref a0), (3, .int l3), (4, .int l4)]) 2 dX11_looks_145 rfl rfl (Nat.le_of_ble_eq_true rfl) rfl ?_
          refine z_goto 4 dX11_looks_148 (by decide) ?_
          refine z_sub [2, 1, 0] rfl ?_
          exact hB4 a0 1 (l2 + 1) S41 h
        · have h := h.2 c44
          refine z_iload 4 dX11_looks_134 rfl ?_
          refine z_if_eq 143 dX11_looks_136 (by decide) (fun c43 => ?_) (fun c43 => ?_)
          · have h := h.1 c43
            refine z_iconst (v := 0) dX11_looks_143 rfl ?_
            refine z_istore_n (lv' := [(1, .int 0), (0, .ref a0), (2, .int l2), (3, .int l3), (4, .int l4)]) dX11_looks_144 rfl (Nat.le_of_ble_eq_true rfl) rfl ?_
            refine z_iinc (v := (l2 + 1)) (lv' := [(2, .int (l2 + 1)), (1, .int 0), (0, .ref a0), (3, .int l3), (4, .int l4)]) 2 dX11_looks_145 rfl rfl (Nat.le_of_ble_eq_true rfl) rfl ?_
            refine z_goto 4 dX11_looks_148 (by decide) ?_
            refine z_sub [2, 1, 0] rfl ?_
            exact hB4 a0 0 (l2 + 1) S41 h
          · have h := h.2 c43
            refine z_iconst (v := 1) dX11_looks_139 rfl ?_
            refine z_goto 144 dX11_looks_140 (by decide) ?_
            refine z_istore_n (lv' := [(1, .int 1), (0, .ref a0), (2, .int l2), (3, .int l3), (4, .int l4)]) dX11_looks_144 rfl (Nat.le_of_ble_eq_true rfl) rfl ?_
            refine z_iinc (v := (l2 + 1)) (lv' := [(2, .int (l2 + 1)), (1, .int 1), (0, .ref a0), (3, .int l3), (4, .int l4)]) 2 dX11_looks_145 rfl rfl (Nat.le_of_ble_eq_true rfl) rfl ?_
            refine z_goto 4 dX11_looks_148 (by decide) ?_
            refine z_sub [2, 1, 0] rfl ?_
            exact hB4 a0 1 (l2 + 1) S41 h
    · have h := h.2 c47
      refine w_X11_looks_J120 (fun a0 l1 l2 S h => ?_) a0 l1 l2 l3 l4 (6 + l2) b25 S22 h
      exact hB4 a0 l1 l2 S h
set_option maxRecDepth 20000 in
set_option maxHeartbeats 4000000 in
theorem w_X11_looks_J89 {E : zE} {B4 : Nat → Int32 → Int32 → zS → Prop} {Q : zS → Prop} {X : String → zS → Prop} (hB4 : ∀ (a0 : Nat) (l1 : Int32) (l2 : Int32) (S : zS), B4 a0 l1 l2 S → zJ E (RX11, cX11_looks, 5, none, false, [], zTr) ({ frames := 5, cells := 0, slots := 0, locals := 115 } : Room) (zq (qV Q)) (zx X) 4 [(0, .ref a0), (1, .int l1), (2, .int l2)] [] [] S 0 0) (a0 : Nat) (l1 : Int32) (l2 : Int32) (l3 : Int32) (l4 : Int32) (l100 : Int32) (a101 : Nat) (S : zS) (h : p_X11_looks_J89 E B4 Q X a0 l1 l2 l3 l4 l100 a101 S) : zJ E (RX11, cX11_looks, 5, none, false, [], zTr) ({ frames := 5, cells := 0, slots := 0, locals := 115 } : Room) (zq (qV Q)) (zx X) 89 [(0, .ref a0), (1, .int l1), (2, .int l2), (3, .int l3), (4, .int l4)] [.int l100, .ref a101] [] S 0 0 := by
  unfold p_X11_looks_J89 at h
  refine z_iconst (v := 1) dX11_looks_89 rfl ?_
  refine z_goto 94 dX11_looks_90 (by decide) ?_
  refine w_X11_looks_J94 (fun a0 l1 l2 S h => ?_) a0 l1 l2 l3 l4 1 l100 a101 S h
  exact hB4 a0 l1 l2 S h
set_option maxRecDepth 20000 in
set_option maxHeartbeats 4000000 in
theorem w_X11_looks_J69 {E : zE} {B4 : Nat → Int32 → Int32 → zS → Prop} {Q : zS → Prop} {X : String → zS → Prop} (hB4 : ∀ (a0 : Nat) (l1 : Int32) (l2 : Int32) (S : zS), B4 a0 l1 l2 S → zJ E (RX11, cX11_looks, 5, none, false, [], zTr) ({ frames := 5, cells := 0, slots := 0, locals := 115 } : Room) (zq (qV Q)) (zx X) 4 [(0, .ref a0), (1, .int l1), (2, .int l2)] [] [] S 0 0) (a0 : Nat) (l1 : Int32) (l2 : Int32) (l3 : Int32) (l100 : Int32) (S : zS) (h : p_X11_looks_J69 E B4 Q X a0 l1 l2 l3 l100 S) : zJ E (RX11, cX11_looks, 5, none, false, [], zTr) ({ frames := 5, cells := 0, slots := 0, locals := 115 } : Room) (zq (qV Q)) (zx X) 69 [(0, .ref a0), (1, .int l1), (2, .int l2), (3, .int l3)] [.int l100] [] S 0 0 := by
  unfold p_X11_looks_J69 at h
  refine z_istore (lv' := [(4, .int l100), (0, .ref a0), (1, .int l1), (2, .int l2), (3, .int l3)]) dX11_looks_69 (Nat.le_of_ble_eq_true rfl) rfl ?_
  refine z_aload_n 1 dX11_looks_71 rfl rfl ?_
  obtain ⟨hf13, h⟩ := h
  refine z_getQ (c := 11) (j := 18) (f := 1118) hf13.1 hf13.2 (Nat.le_of_ble_eq_true rfl) rfl zU_X11 (Nat.le_of_ble_eq_true rfl) (Nat.le_of_ble_eq_true rfl) ⟨_, zw_1316, Or.inl rfl⟩ rfl rfl dX11_looks_72 ?_
  refine z_iload_n 3 dX11_looks_75 rfl rfl ?_
  refine z_aload_n 1 dX11_looks_76 rfl rfl ?_
  refine z_getQ (c := 11) (j := 18) (f := 1118) hf13.1 hf13.2 (Nat.le_of_ble_eq_true rfl) rfl zU_X11 (Nat.le_of_ble_eq_true rfl) (Nat.le_of_ble_eq_true rfl) ⟨_, zw_1316, Or.inl rfl⟩ rfl rfl dX11_looks_77 ?_
  refine z_iload_n 3 dX11_looks_80 rfl rfl ?_
  obtain ⟨b14, hb15, h⟩ := h
  rw [show va_rf (gR S 1118 a0) = Value.ref b14 from by rw [hb15]; rfl]
  obtain ⟨hf16, h⟩ := h
  obtain ⟨j17, hj18, h⟩ := h
  refine z_zald (j := j17) hf16.1 hf16.2 hj18.1 hj18.2.1 hj18.2.2 dX11_looks_81 ?_
  refine z_if_ne 89 dX11_looks_82 (by decide) (fun c51 => ?_) (fun c51 => ?_)
  · have h := h.1 c51
    refine z_sub [1, 2, 3, 4, 0] rfl ?_
    refine w_X11_looks_J89 (fun a0 l1 l2 S h => ?_) a0 l1 l2 l3 l100 l2 b14 S h
    exact hB4 a0 l1 l2 S h
  · have h := h.2 c51
    refine z_iload_n 4 dX11_looks_85 rfl rfl ?_
    refine z_if_eq 93 dX11_looks_86 (by decide) (fun c50 => ?_) (fun c50 => ?_)
    · have h := h.1 c50
      refine z_iconst (v := 0) dX11_looks_93 rfl ?_
      refine z_sub [1, 2, 3, 4, 0] rfl ?_
      refine w_X11_looks_J94 (fun a0 l1 l2 S h => ?_) a0 l1 l2 l3 l100 0 l2 b14 S h
      exact hB4 a0 l1 l2 S h
    · have h := h.2 c50
      refine z_sub [1, 2, 3, 4, 0] rfl ?_
      refine w_X11_looks_J89 (fun a0 l1 l2 S h => ?_) a0 l1 l2 l3 l100 l2 b14 S h
      exact hB4 a0 l1 l2 S h
set_option maxRecDepth 20000 in
set_option maxHeartbeats 4000000 in
theorem w_X11_looks_J68 {E : zE} {B4 : Nat → Int32 → Int32 → zS → Prop} {Q : zS → Prop} {X : String → zS → Prop} (hB4 : ∀ (a0 : Nat) (l1 : Int32) (l2 : Int32) (S : zS), B4 a0 l1 l2 S → zJ E (RX11, cX11_looks, 5, none, false, [], zTr) ({ frames := 5, cells := 0, slots := 0, locals := 115 } : Room) (zq (qV Q)) (zx X) 4 [(0, .ref a0), (1, .int l1), (2, .int l2)] [] [] S 0 0) (a0 : Nat) (l1 : Int32) (l2 : Int32) (l3 : Int32) (S : zS) (h : p_X11_looks_J68 E B4 Q X a0 l1 l2 l3 S) : zJ E (RX11, cX11_looks, 5, none, false, [], zTr) ({ frames := 5, cells := 0, slots := 0, locals := 115 } : Room) (zq (qV Q)) (zx X) 68 [(0, .ref a0), (1, .int l1), (2, .int l2), (3, .int l3)] [] [] S 0 0 := by
  unfold p_X11_looks_J68 at h
  refine z_iconst (v := 0) dX11_looks_68 rfl ?_
  refine w_X11_looks_J69 (fun a0 l1 l2 S h => ?_) a0 l1 l2 l3 0 S h
  exact hB4 a0 l1 l2 S h
set_option maxRecDepth 20000 in
set_option maxHeartbeats 4000000 in
theorem w_X11_looks_J36 {E : zE} {B4 : Nat → Int32 → Int32 → zS → Prop} {Q : zS → Prop} {X : String → zS → Prop} (hB4 : ∀ (a0 : Nat) (l1 : Int32) (l2 : Int32) (S : zS), B4 a0 l1 l2 S → zJ E (RX11, cX11_looks, 5, none, false, [], zTr) ({ frames := 5, cells := 0, slots := 0, locals := 115 } : Room) (zq (qV Q)) (zx X) 4 [(0, .ref a0), (1, .int l1), (2, .int l2)] [] [] S 0 0) (a0 : Nat) (l1 : Int32) (l2 : Int32) (l100 : Int32) (S : zS) (h : p_X11_looks_J36 E B4 Q X a0 l1 l2 l100 S) : zJ E (RX11, cX11_looks, 5, none, false, [], zTr) ({ frames := 5, cells := 0, slots := 0, locals := 115 } : Room) (zq (qV Q)) (zx X) 36 [(0, .ref a0), (1, .int l1), (2, .int l2)] [.int l100] [] S 0 0 := by
  unfold p_X11_looks_J36 at h
  refine z_istore_n (lv' := [(3, .int l100), (0, .ref a0), (1, .int l1), (2, .int l2)]) dX11_looks_36 rfl (Nat.le_of_ble_eq_true rfl) rfl ?_
  refine z_aload_n 1 dX11_looks_37 rfl rfl ?_
  obtain ⟨hf7, h⟩ := h
  refine z_getQ (c := 11) (j := 17) (f := 1117) hf7.1 hf7.2 (Nat.le_of_ble_eq_true rfl) rfl zU_X11 (Nat.le_of_ble_eq_true rfl) (Nat.le_of_ble_eq_true rfl) ⟨_, zw_1315, Or.inl rfl⟩ rfl rfl dX11_looks_38 ?_
  refine z_bipush (v := 6) dX11_looks_41 rfl ?_
  refine z_iload_n 3 dX11_looks_43 rfl rfl ?_
  refine z_iadd dX11_looks_44 ?_
  obtain ⟨b8, hb9, h⟩ := h
  rw [show va_rf (gR S 1117 a0) = Value.ref b8 from by rw [hb9]; rfl]
  obtain ⟨hf10, h⟩ := h
  obtain ⟨j11, hj12, h⟩ := h
  refine z_iald (j := j11) hf10.1 hf10.2 hj12.1 hj12.2.1 hj12.2.2 dX11_looks_45 ?_
  refine z_sipush (v := 200) dX11_looks_46 rfl ?_
  refine z_icmp_lt 68 dX11_looks_49 (by decide) (fun c58 => ?_) (fun c58 => ?_)
  · have h := h.1 c58
    refine z_sub [1, 2, 3, 0] rfl ?_
    refine w_X11_looks_J68 (fun a0 l1 l2 S h => ?_) a0 l1 l2 l100 S h
    exact hB4 a0 l1 l2 S h
  · have h := h.2 c58
    refine z_aload_n 1 dX11_looks_52 rfl rfl ?_
    refine z_getQ (c := 11) (j := 18) (f := 1118) hf7.1 hf7.2 (Nat.le_of_ble_eq_true rfl) rfl zU_X11 (Nat.le_of_ble_eq_true rfl) (Nat.le_of_ble_eq_true rfl) ⟨_, zw_1316, Or.inl rfl⟩ rfl rfl dX11_looks_53 ?_
    refine z_bipush (v := 6) dX11_looks_56 rfl ?_
    refine z_iload_n 3 dX11_looks_58 rfl rfl ?_
    refine z_iadd dX11_looks_59 ?_
    obtain ⟨b52, hb53, h⟩ := h
    rw [show va_rf (gR S 1118 a0) = Value.ref b52 from by rw [hb53]; rfl]
    obtain ⟨hf54, h⟩ := h
    obtain ⟨j55, hj56, h⟩ := h
    refine z_zald (j := j55) hf54.1 hf54.2 hj56.1 hj56.2.1 hj56.2.2 dX11_looks_60 ?_
    refine z_if_ne 68 dX11_looks_61 (by decide) (fun c57 => ?_) (fun c57 => ?_)
    · have h := h.1 c57
      refine z_sub [1, 2, 3, 0] rfl ?_
      refine w_X11_looks_J68 (fun a0 l1 l2 S h => ?_) a0 l1 l2 l100 S h
      exact hB4 a0 l1 l2 S h
    · have h := h.2 c57
      refine z_iconst (v := 1) dX11_looks_64 rfl ?_
      refine z_goto 69 dX11_looks_65 (by decide) ?_
      refine z_sub [1, 2, 3, 0] rfl ?_
      refine w_X11_looks_J69 (fun a0 l1 l2 S h => ?_) a0 l1 l2 l100 1 S h
      exact hB4 a0 l1 l2 S h
set_option maxRecDepth 20000 in
set_option maxHeartbeats 4000000 in
theorem w_X11_looks_J35 {E : zE} {B4 : Nat → Int32 → Int32 → zS → Prop} {Q : zS → Prop} {X : String → zS → Prop} (hB4 : ∀ (a0 : Nat) (l1 : Int32) (l2 : Int32) (S : zS), B4 a0 l1 l2 S → zJ E (RX11, cX11_looks, 5, none, false, [], zTr) ({ frames := 5, cells := 0, slots := 0, locals := 115 } : Room) (zq (qV Q)) (zx X) 4 [(0, .ref a0), (1, .int l1), (2, .int l2)] [] [] S 0 0) (a0 : Nat) (l1 : Int32) (l2 : Int32) (S : zS) (h : p_X11_looks_J35 E B4 Q X a0 l1 l2 S) : zJ E (RX11, cX11_looks, 5, none, false, [], zTr) ({ frames := 5, cells := 0, slots := 0, locals := 115 } : Room) (zq (qV Q)) (zx X) 35 [(0, .ref a0), (1, .int l1), (2, .int l2)] [] [] S 0 0 := by
  unfold p_X11_looks_J35 at h
  refine z_iconst (v := 0) dX11_looks_35 rfl ?_
  refine w_X11_looks_J36 (fun a0 l1 l2 S h => ?_) a0 l1 l2 0 S h
  exact hB4 a0 l1 l2 S h
set_option maxRecDepth 20000 in
set_option maxHeartbeats 4000000 in
theorem w_X11_looks_L4 {E : zE} {K151 : Nat → Int32 → zS → Prop} {Q : zS → Prop} {X : String → zS → Prop} (hK151 : ∀ (a0 : Nat) (l1 : Int32) (S : zS), K151 a0 l1 S → zJ E (RX11, cX11_looks, 5, none, false, [], zTr) ({ frames := 5, cells := 0, slots := 0, locals := 115 } : Room) (zq (qV Q)) (zx X) 151 [(0, .ref a0), (1, .int l1)] [] [] S 0 0) : ∀ (m4 : Nat) (a0 : Nat) (l1 : Int32) (l2 : Int32) (S : zS), p_X11_looks_L4 E K151 Q X m4 a0 l1 l2 S → zJ E (RX11, cX11_looks, 5, none, false, [], zTr) ({ frames := 5, cells := 0, slots := 0, locals := 115 } : Room) (zq (qV Q)) (zx X) 4 [(0, .ref a0), (1, .int l1), (2, .int l2)] [] [] S 0 0 := by
  intro m4
  induction m4 with
  | zero => intro a0 l1 l2 S h; exact (show False from h).elim
  | succ m4 ih =>
    intro a0 l1 l2 S h
    unfold p_X11_looks_L4 at h
    refine z_iload_n 2 dX11_looks_4 rfl rfl ?_
    refine z_bipush (v := 6) dX11_looks_5 rfl ?_
    refine z_icmp_ge 151 dX11_looks_7 (by decide) (fun c66 => ?_) (fun c66 => ?_)
    · have h := h.1 c66
      refine z_sub [0, 1] rfl ?_
      exact hK151 a0 l1 S h
    · have h := h.2 c66
      refine z_aload_n 0 dX11_looks_10 rfl rfl ?_
      obtain ⟨hf1, h⟩ := h
      refine z_getQ (c := 11) (j := 17) (f := 1117) hf1.1 hf1.2 (Nat.le_of_ble_eq_true rfl) rfl zU_X11 (Nat.le_of_ble_eq_true rfl) (Nat.le_of_ble_eq_true rfl) ⟨_, zw_1315, Or.inl rfl⟩ rfl rfl dX11_looks_11 ?_
      refine z_iload_n 2 dX11_looks_14 rfl rfl ?_
      obtain ⟨b2, hb3, h⟩ := h
      rw [show va_rf (gR S 1117 a0) = Value.ref b2 from by rw [hb3]; rfl]
      obtain ⟨hf4, h⟩ := h
      obtain ⟨j5, hj6, h⟩ := h
      refine z_iald (j := j5) hf4.1 hf4.2 hj6.1 hj6.2.1 hj6.2.2 dX11_looks_15 ?_
      refine z_sipush (v := 300) dX11_looks_16 rfl ?_
      refine z_icmp_lt 35 dX11_looks_19 (by decide) (fun c65 => ?_) (fun c65 => ?_)
      · have h := h.1 c65
        refine w_X11_looks_J35 (fun a0 l1 l2 S h => ?_) a0 l1 l2 S h
        exact ih a0 l1 l2 S h
      · have h := h.2 c65
        refine z_aload_n 0 dX11_looks_22 rfl rfl ?_
        refine z_getQ (c := 11) (j := 18) (f := 1118) hf1.1 hf1.2 (Nat.le_of_ble_eq_true rfl) rfl zU_X11 (Nat.le_of_ble_eq_true rfl) (Nat.le_of_ble_eq_true rfl) ⟨_, zw_1316, Or.inl rfl⟩ rfl rfl dX11_looks_23 ?_
        refine z_iload_n 2 dX11_looks_26 rfl rfl ?_
        obtain ⟨b59, hb60, h⟩ := h
        rw [show va_rf (gR S 1118 a0) = Value.ref b59 from by rw [hb60]; rfl]
        obtain ⟨hf61, h⟩ := h
        obtain ⟨j62, hj63, h⟩ := h
        refine z_zald (j := j62) hf61.1 hf61.2 hj63.1 hj63.2.1 hj63.2.2 dX11_looks_27 ?_
        refine z_if_ne 35 dX11_looks_28 (by decide) (fun c64 => ?_) (fun c64 => ?_)
        · have h := h.1 c64
          refine w_X11_looks_J35 (fun a0 l1 l2 S h => ?_) a0 l1 l2 S h
          exact ih a0 l1 l2 S h
        · have h := h.2 c64
          refine z_iconst (v := 1) dX11_looks_31 rfl ?_
          refine z_goto 36 dX11_looks_32 (by decide) ?_
          refine w_X11_looks_J36 (fun a0 l1 l2 S h => ?_) a0 l1 l2 1 S h
          exact ih a0 l1 l2 S h
set_option maxRecDepth 20000 in
set_option maxHeartbeats 4000000 in
theorem w_X11_looks {E : zE} {a0 : Nat} {S : zS} {Q : zS → Prop} {X : String → zS → Prop} (h : p_X11_looks E a0 S Q X) : zM E yX11_looks cX11_looks 5 none ({ frames := 5, cells := 0, slots := 0, locals := 115 } : Room) [.ref a0] S (qV Q) X := by
  unfold p_X11_looks at h
  refine zM_of RX11 false (by decide) rfl (fun h => by cases h) (Nat.le_of_ble_eq_true rfl) ?_
  refine z_iconst (v := 0) dX11_looks_0 rfl ?_
  refine z_istore_n (lv' := [(1, .int 0), (0, .ref a0)]) dX11_looks_1 rfl (Nat.le_of_ble_eq_true rfl) rfl ?_
  refine z_iconst (v := 0) dX11_looks_2 rfl ?_
  refine z_istore_n (lv' := [(2, .int 0), (1, .int 0), (0, .ref a0)]) dX11_looks_3 rfl (Nat.le_of_ble_eq_true rfl) rfl ?_
  obtain ⟨m4, h⟩ := h
  refine z_sub [2, 1, 0] rfl ?_
  refine w_X11_looks_L4 (fun a0 l1 S h => ?_) m4 a0 0 0 S h
  refine z_iload_n 1 dX11_looks_151 rfl rfl ?_
  refine z_if_eq 160 dX11_looks_152 (by decide) (fun c70 => ?_) (fun c70 => ?_)
  · have h := h.1 c70
    exact z_return ⟨rfl, rfl, h⟩ rfl (Nat.le_of_ble_eq_true rfl) (Nat.le_of_ble_eq_true rfl) dX11_looks_160
  · have h := h.2 c70
    refine z_aload_n 0 dX11_looks_155 rfl rfl ?_
    obtain ⟨hf69, h⟩ := h
    refine z_callVI (ci := 11) (st := []) (w_X11_drops h) hf69.1 hf69.2 (Nat.le_of_ble_eq_true rfl) rfl zw_1458 zw_1455 zw_1457 zw_30 zw_74 zy_X11_drops rfl rfl ⟨Nat.le_of_ble_eq_true rfl, Nat.le_of_ble_eq_true rfl⟩ ⟨(Nat.le_of_ble_eq_true rfl), (Nat.le_of_ble_eq_true rfl)⟩ (Nat.le_of_ble_eq_true rfl) dX11_looks_156 (fun _ _ hx => hx.elim) (fun r68 S67 h => ?_)
    refine z_widen (k' := 0) (n' := 0) (Nat.le_refl _) (Nat.le_refl _) ?_
    refine z_pop dX11_looks_159 rfl ?_
    exact z_return ⟨rfl, rfl, h⟩ rfl (Nat.le_of_ble_eq_true rfl) (Nat.le_of_ble_eq_true rfl) dX11_looks_160
set_option maxRecDepth 20000 in
set_option maxHeartbeats 4000000 in
theorem w_X11_setBand_J29 {E : zE}  {Q : Int32 → zS → Prop} {X : String → zS → Prop}  (a0 : Nat) (l1 : Int32) (l2 : Int32) (l100 : Int32) (a101 : Nat) (S : zS) (h : p_X11_setBand_J29 E  Q X a0 l1 l2 l100 a101 S) : zJ E (RX11, cX11_setBand, 4, (some .int), false, [], zTr) ({ frames := 1, cells := 0, slots := 0, locals := 22 } : Room) (zq (qI Q)) (zx X) 29 [(0, .ref a0), (1, .int l1), (2, .int l2)] [.int l100, .ref a101] [] S 0 0 := by
  unfold p_X11_setBand_J29 at h
  obtain ⟨hf5, h⟩ := h
  have h := h _ rfl
  refine z_putV (c := 11) (j := 0) (ty0 := tyX11) (S' := sI S 1100 a101 l100) hf5.1 hf5.2 (Nat.le_of_ble_eq_true rfl) rfl zU_X11 tyX11_ok nmX11 (Nat.le_of_ble_eq_true rfl) (Nat.le_of_ble_eq_true rfl) ⟨_, zw_1298, Or.inl rfl⟩ (.inl rfl) rfl rfl rfl (zUpI (v := l100) hf5.2 (Nat.le_of_ble_eq_true rfl) (Nat.le_of_ble_eq_true rfl) rfl rfl) dX11_setBand_29 ?_
  obtain ⟨S6, hS7⟩ : ∃ z, z = sI S 1100 a101 l100 := ⟨_, rfl⟩
  rw [← hS7] at h ⊢
  have hf5 : a101 ∈ gL S6 ∧ gK S6 a101 = 11 := by rw [hS7]; exact hf5
  refine z_aload_n 0 dX11_setBand_32 rfl rfl ?_
  obtain ⟨hf8, h⟩ := h
  refine z_getI (c := 11) (j := 0) (f := 1100) hf8.1 hf8.2 (Nat.le_of_ble_eq_true rfl) rfl zU_X11 (Nat.le_of_ble_eq_true rfl) (Nat.le_of_ble_eq_true rfl) ⟨_, zw_1298, Or.inl rfl⟩ rfl rfl dX11_setBand_33 ?_
  refine z_if_le 41 dX11_setBand_36 (by decide) (fun c22 => ?_) (fun c22 => ?_)
  · have h := h.1 c22
    refine z_aload_n 0 dX11_setBand_41 rfl rfl ?_
    refine z_getQ (c := 11) (j := 24) (f := 1124) hf8.1 hf8.2 (Nat.le_of_ble_eq_true rfl) rfl zU_X11 (Nat.le_of_ble_eq_true rfl) (Nat.le_of_ble_eq_true rfl) ⟨_, zw_1322, Or.inl rfl⟩ rfl rfl dX11_setBand_42 ?_
    refine z_iload_n 1 dX11_setBand_45 rfl rfl ?_
    obtain ⟨b9, hb10, h⟩ := h
    rw [show va_rf (gR S6 1124 a0) = Value.ref b9 from by rw [hb10]; rfl]
    obtain ⟨hf11, h⟩ := h
    obtain ⟨j12, hj13, h⟩ := h
    refine z_iald (j := j12) hf11.1 hf11.2 hj13.1 hj13.2.1 hj13.2.2 dX11_setBand_46 ?_
    refine z_istore_n (lv' := [(3, .int (gA S6 b9 j12)), (0, .ref a0), (1, .int l1), (2, .int l2)]) dX11_setBand_47 rfl (Nat.le_of_ble_eq_true rfl) rfl ?_
    refine z_aload_n 1 dX11_setBand_48 rfl rfl ?_
    refine z_getQ (c := 11) (j := 24) (f := 1124) hf8.1 hf8.2 (Nat.le_of_ble_eq_true rfl) rfl zU_X11 (Nat.le_of_ble_eq_true rfl) (Nat.le_of_ble_eq_true rfl) ⟨_, zw_1322, Or.inl rfl⟩ rfl rfl dX11_setBand_49 ?_
    refine z_iload_n 2 dX11_setBand_52 rfl rfl ?_
    refine z_iload_n 3 dX11_setBand_53 rfl rfl ?_
    obtain ⟨b14, hb15, h⟩ := h
    rw [show va_rf (gR S6 1124 a0) = Value.ref b14 from by rw [hb15]; rfl]
    obtain ⟨hf16, h⟩ := h
    obtain ⟨j17, hj18, h⟩ := h
    have h := h _ rfl
    refine z_iast (j := j17) hf16.1 hf16.2 hj18.1 hj18.2.1 hj18.2.2 dX11_setBand_54 ?_
    obtain ⟨S19, hS20⟩ : ∃ z, z = sA S6 b14 j17 l2 := ⟨_, rfl⟩
    rw [← hS20] at h ⊢
    have hf8 : a0 ∈ gL S19 ∧ gK S19 a0 = 11 := by rw [hS20]; exact hf8
    have hf5 : a101 ∈ gL S19 ∧ gK S19 a101 = 11 := by rw [hS20]; exact hf5
    have hf16 : b14 ∈ gL S19 ∧ gK S19 b14 = 12 := by rw [hS20]; exact hf16
    have hf11 : b9 ∈ gL S19 ∧ gK S19 b9 = 12 := by rw [hS20]; exact hf11
    refine z_iload_n 0 dX11_setBand_55 rfl rfl ?_
    exact z_ireturn ⟨rfl, _, rfl, h⟩ rfl (Nat.le_of_ble_eq_true rfl) (Nat.le_of_ble_eq_true rfl) dX11_setBand_56
  · have h := h.2 c22
    refine z_iconst (v := 0) dX11_setBand_39 rfl ?_
    exact z_ireturn ⟨rfl, _, rfl, h⟩ rfl (Nat.le_of_ble_eq_true rfl) (Nat.le_of_ble_eq_true rfl) dX11_setBand_40
set_option maxRecDepth 20000 in
set_option maxHeartbeats 4000000 in
theorem w_X11_setBand {E : zE} {a0 : Nat} {l1 : Int32} {l2 : Int32} {S : zS} {Q : Int32 → zS → Prop} {X : String → zS → Prop} (h : p_X11_setBand E a0 l1 l2 S Q X) : zM E yX11_setBand cX11_setBand 4 (some .int) ({ frames := 1, cells := 0, slots := 0, locals := 22 } : Room) [.ref a0, .int l1, .int l2] S (qI Q) X := by
  unfold p_X11_setBand at h
  refine zM_of RX11 false (by decide) rfl (fun h => by cases h) (Nat.le_of_ble_eq_true rfl) ?_
  refine z_aload_n 0 dX11_setBand_0 rfl rfl ?_
  refine z_iload_n 1 dX11_setBand_1 rfl rfl ?_
  refine z_iconst (v := 0) dX11_setBand_2 rfl ?_
  refine z_iconst (v := 3) dX11_setBand_3 rfl ?_
  refine z_callSI (st := [.ref a0]) (w_X11_in h) zw_1435 zw_1433 zw_1434 zw_74 zy_X11_in rfl rfl ⟨Nat.le_of_ble_eq_true rfl, Nat.le_of_ble_eq_true rfl⟩ ⟨(Nat.le_of_ble_eq_true rfl), (Nat.le_of_ble_eq_true rfl)⟩ (Nat.le_of_ble_eq_true rfl) dX11_setBand_4 (fun _ _ hx => hx.elim) (fun r2 S1 h => ?_)
  refine z_widen (k' := 0) (n' := 0) (Nat.le_refl _) (Nat.le_refl _) ?_
  refine z_if_ne 14 dX11_setBand_7 (by decide) (fun c24 => ?_) (fun c24 => ?_)
  · have h := h.1 c24
    refine z_iload_n 2 dX11_setBand_14 rfl rfl ?_
    refine z_iconst (v := 4) dX11_setBand_15 rfl ?_
    refine z_bipush (v := 6) dX11_setBand_16 rfl ?_
    refine z_callSI (st := [.ref a0]) (w_X11_in h) zw_1435 zw_1433 zw_1434 zw_74 zy_X11_in rfl rfl ⟨Nat.le_of_ble_eq_true rfl, Nat.le_of_ble_eq_true rfl⟩ ⟨(Nat.le_of_ble_eq_true rfl), (Nat.le_of_ble_eq_true rfl)⟩ (Nat.le_of_ble_eq_true rfl) dX11_setBand_18 (fun _ _ hx => hx.elim) (fun r4 S3 h => ?_)
    refine z_widen (k' := 0) (n' := 0) (Nat.le_refl _) (Nat.le_refl _) ?_
    refine z_if_eq 28 dX11_setBand_21 (by decide) (fun c23 => ?_) (fun c23 => ?_)
    · have h := h.1 c23
      refine z_iconst (v := 2) dX11_setBand_28 rfl ?_
      refine w_X11_setBand_J29 a0 l1 l2 2 a0 S3 h
    · have h := h.2 c23
      refine z_iconst (v := 0) dX11_setBand_24 rfl ?_
      refine z_goto 29 dX11_setBand_25 (by decide) ?_
      refine w_X11_setBand_J29 a0 l1 l2 0 a0 S3 h
  · have h := h.2 c24
    refine z_iconst (v := 1) dX11_setBand_10 rfl ?_
    refine z_goto 29 dX11_setBand_11 (by decide) ?_
    refine w_X11_setBand_J29 a0 l1 l2 1 a0 S1 h
set_option maxRecDepth 20000 in
set_option maxHeartbeats 4000000 in
theorem w_X11_placeOf_L5 {E : zE} {K44 : Int32 → zS → Prop} {Q : Int32 → zS → Prop} {X : String → zS → Prop} (hK44 : ∀ (l3 : Int32) (S : zS), K44 l3 S → zJ E (RX11, cX11_placeOf, 5, (some .int), false, [], zTr) ({ frames := 0, cells := 0, slots := 0, locals := 0 } : Room) (zq (qI Q)) (zx X) 44 [(3, .int l3)] [] [] S 0 0) : ∀ (m5 : Nat) (a0 : Nat) (l1 : Int32) (l2 : Int32) (l3 : Int32) (l4 : Int32) (S : zS), p_X11_placeOf_L5 E K44 Q X m5 a0 l1 l2 l3 l4 S → zJ E (RX11, cX11_placeOf, 5, (some .int), false, [], zTr) ({ frames := 0, cells := 0, slots := 0, locals := 0 } : Room) (zq (qI Q)) (zx X) 5 [(0, .ref a0), (1, .int l1), (2, .int l2), (3, .int l3), (4, .int l4)] [] [] S 0 0 := by
  intro m5
  induction m5 with
  | zero => intro a0 l1 l2 l3 l4 S h; exact (show False from h).elim
  | succ m5 ih =>
    intro a0 l1 l2 l3 l4 S h
    unfold p_X11_placeOf_L5 at h
    refine z_iload 4 dX11_placeOf_5 rfl ?_
    refine z_aload_n 0 dX11_placeOf_7 rfl rfl ?_
    obtain ⟨hf1, h⟩ := h
    refine z_getQ (c := 11) (j := 21) (f := 1121) hf1.1 hf1.2 (Nat.le_of_ble_eq_true rfl) rfl zU_X11 (Nat.le_of_ble_eq_true rfl) (Nat.le_of_ble_eq_true rfl) ⟨_, zw_1319, Or.inl rfl⟩ rfl rfl dX11_placeOf_8 ?_
    refine z_iload_n 1 dX11_placeOf_11 rfl rfl ?_
    obtain ⟨b2, hb3, h⟩ := h
    rw [show va_rf (gR S 1121 a0) = Value.ref b2 from by rw [hb3]; rfl]
    obtain ⟨hf4, h⟩ := h
    obtain ⟨j5, hj6, h⟩ := h
    refine z_iald (j := j5) hf4.1 hf4.2 hj6.1 hj6.2.1 hj6.2.2 dX11_placeOf_12 ?_
    refine z_icmp_ge 44 dX11_placeOf_13 (by decide) (fun c13 => ?_) (fun c13 => ?_)
    · have h := h.1 c13
      refine z_sub [3] rfl ?_
      exact hK44 l3 S h
    · have h := h.2 c13
      refine z_aload_n 0 dX11_placeOf_16 rfl rfl ?_
      refine z_getQ (c := 11) (j := 22) (f := 1122) hf1.1 hf1.2 (Nat.le_of_ble_eq_true rfl) rfl zU_X11 (Nat.le_of_ble_eq_true rfl) (Nat.le_of_ble_eq_true rfl) ⟨_, zw_1320, Or.inl rfl⟩ rfl rfl dX11_placeOf_17 ?_
      refine z_iconst (v := 4) dX11_placeOf_20 rfl ?_
      refine z_iload_n 1 dX11_placeOf_21 rfl rfl ?_
      refine z_imul dX11_placeOf_22 ?_
      refine z_iload 4 dX11_placeOf_23 rfl ?_
      refine z_iadd dX11_placeOf_25 ?_
      obtain ⟨b7, hb8, h⟩ := h
      rw [show va_rf (gR S 1122 a0) = Value.ref b7 from by rw [hb8]; rfl]
      obtain ⟨hf9, h⟩ := h
      obtain ⟨j10, hj11, h⟩ := h
      refine z_iald (j := j10) hf9.1 hf9.2 hj11.1 hj11.2.1 hj11.2.2 dX11_placeOf_26 ?_
      refine z_iload_n 2 dX11_placeOf_27 rfl rfl ?_
      refine z_icmp_ne 36 dX11_placeOf_28 (by decide) (fun c12 => ?_) (fun c12 => ?_)
      · have h := h.1 c12
        refine z_iload_n 3 dX11_placeOf_36 rfl rfl ?_
        refine z_istore_n (lv' := [(3, .int l3), (0, .ref a0), (1, .int l1), (2, .int l2), (4, .int l4)]) dX11_placeOf_37 rfl (Nat.le_of_ble_eq_true rfl) rfl ?_
        refine z_iinc (v := (l4 + 1)) (lv' := [(4, .int (l4 + 1)), (3, .int l3), (0, .ref a0), (1, .int l1), (2, .int l2)]) 4 dX11_placeOf_38 rfl rfl (Nat.le_of_ble_eq_true rfl) rfl ?_
        refine z_goto 5 dX11_placeOf_41 (by decide) ?_
        refine z_sub [2, 3, 4, 1, 0] rfl ?_
        exact ih a0 l1 l2 l3 (l4 + 1) S h
      · have h := h.2 c12
        refine z_iload 4 dX11_placeOf_31 rfl ?_
        refine z_goto 37 dX11_placeOf_33 (by decide) ?_
        refine z_istore_n (lv' := [(3, .int l4), (0, .ref a0), (1, .int l1), (2, .int l2), (4, .int l4)]) dX11_placeOf_37 rfl (Nat.le_of_ble_eq_true rfl) rfl ?_
        refine z_iinc (v := (l4 + 1)) (lv' := [(4, .int (l4 + 1)), (3, .int l4), (0, .ref a0), (1, .int l1), (2, .int l2)]) 4 dX11_placeOf_38 rfl rfl (Nat.le_of_ble_eq_true rfl) rfl ?_
        refine z_goto 5 dX11_placeOf_41 (by decide) ?_
        refine z_sub [2, 3, 4, 1, 0] rfl ?_
        exact ih a0 l1 l2 l4 (l4 + 1) S h
set_option maxRecDepth 20000 in
set_option maxHeartbeats 4000000 in
theorem w_X11_placeOf {E : zE} {a0 : Nat} {l1 : Int32} {l2 : Int32} {S : zS} {Q : Int32 → zS → Prop} {X : String → zS → Prop} (h : p_X11_placeOf E a0 l1 l2 S Q X) : zM E yX11_placeOf cX11_placeOf 5 (some .int) ({ frames := 0, cells := 0, slots := 0, locals := 0 } : Room) [.ref a0, .int l1, .int l2] S (qI Q) X := by
  unfold p_X11_placeOf at h
  refine zM_of RX11 false (by decide) rfl (fun h => by cases h) (Nat.le_of_ble_eq_true rfl) ?_
  refine z_iconst (v := (-1)) dX11_placeOf_0 rfl ?_
  refine z_istore_n (lv' := [(3, .int (-1)), (0, .ref a0), (1, .int l1), (2, .int l2)]) dX11_placeOf_1 rfl (Nat.le_of_ble_eq_true rfl) rfl ?_
  refine z_iconst (v := 0) dX11_placeOf_2 rfl ?_
  refine z_istore (lv' := [(4, .int 0), (3, .int (-1)), (0, .ref a0), (1, .int l1), (2, .int l2)]) dX11_placeOf_3 (Nat.le_of_ble_eq_true rfl) rfl ?_
  obtain ⟨m5, h⟩ := h
  refine z_sub [2, 3, 4, 1, 0] rfl ?_
  refine w_X11_placeOf_L5 (fun l3 S h => ?_) m5 a0 l1 l2 (-1) 0 S h
  refine z_iload_n 0 dX11_placeOf_44 rfl rfl ?_
  exact z_ireturn ⟨rfl, _, rfl, h⟩ rfl (Nat.le_of_ble_eq_true rfl) (Nat.le_of_ble_eq_true rfl) dX11_placeOf_45
set_option maxRecDepth 20000 in
set_option maxHeartbeats 4000000 in
theorem w_X11_isDay {E : zE} {a0 : Nat} {l1 : Int32} {S : zS} {Q : Int32 → zS → Prop} {X : String → zS → Prop} (h : p_X11_isDay E a0 l1 S Q X) : zM E yX11_isDay cX11_isDay 2 (some .boolean) ({ frames := 1, cells := 0, slots := 0, locals := 22 } : Room) [.ref a0, .int l1] S (qI Q) X := by
  unfold p_X11_isDay at h
  refine zM_of RX11 false (by decide) rfl (fun h => by cases h) (Nat.le_of_ble_eq_true rfl) ?_
  refine z_iload_n 1 dX11_isDay_0 rfl rfl ?_
  refine z_aload_n 0 dX11_isDay_1 rfl rfl ?_
  obtain ⟨hf1, h⟩ := h
  refine z_getI (c := 11) (j := 20) (f := 1120) hf1.1 hf1.2 (Nat.le_of_ble_eq_true rfl) rfl zU_X11 (Nat.le_of_ble_eq_true rfl) (Nat.le_of_ble_eq_true rfl) ⟨_, zw_1318, Or.inl rfl⟩ rfl rfl dX11_isDay_2 ?_
  refine z_bipush (v := 60) dX11_isDay_5 rfl ?_
  refine z_callSI (st := []) (w_X11_in h) zw_1435 zw_1433 zw_1434 zw_74 zy_X11_in rfl rfl ⟨Nat.le_of_ble_eq_true rfl, Nat.le_of_ble_eq_true rfl⟩ ⟨(Nat.le_of_ble_eq_true rfl), (Nat.le_of_ble_eq_true rfl)⟩ (Nat.le_of_ble_eq_true rfl) dX11_isDay_7 (fun _ _ hx => hx.elim) (fun r3 S2 h => ?_)
  refine z_widen (k' := 0) (n' := 0) (Nat.le_refl _) (Nat.le_refl _) ?_
  obtain ⟨hz4, h⟩ := h
  exact z_zreturn ⟨rfl, _, rfl, h⟩ rfl (zbn hz4) (Nat.le_of_ble_eq_true rfl) (Nat.le_of_ble_eq_true rfl) dX11_isDay_10
