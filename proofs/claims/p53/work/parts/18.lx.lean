set_option maxRecDepth 20000 in
set_option maxHeartbeats 4000000 in
theorem w_L_low {E : zE} {l0 : Int32} {l1 : Int32} {S : zS} {Q : Int32 → zS → Prop} {X : String → zS → Prop} (h : p_L_low E l0 l1 S Q X) : zM E yL_low cL_low 2 (some .int) ({ frames := 0, cells := 0, slots := 0, locals := 0 } : Room) [.int l0, .int l1] S (qI Q) X := by
  unfold p_L_low at h
  refine zM_of RL false (by decide) rfl (fun h => by cases h) (Nat.le_of_ble_eq_true rfl) ?_
  refine z_iload_n 0 dL_low_0 rfl rfl ?_
  refine z_iconst (v := 1) dL_low_1 rfl ?_
  refine z_iushr dL_low_2 rfl ?_
  refine z_iload_n 1 dL_low_3 rfl rfl ?_
  obtain ⟨hy1, h⟩ := h
  refine z_irem dL_low_4 hy1 ?_
  exact z_ireturn ⟨rfl, _, rfl, h⟩ rfl (Nat.le_of_ble_eq_true rfl) (Nat.le_of_ble_eq_true rfl) dL_low_5
set_option maxRecDepth 20000 in
set_option maxHeartbeats 4000000 in
theorem w_L_isChange_L20 {E : zE} {K58 : zS → Prop} {K66 : zS → Prop} {Q : Int32 → zS → Prop} {X : String → zS → Prop} (hK58 : ∀  (S : zS), K58  S → zJ E (RL, cL_isChange, 3, (some .boolean), false, [], zTr) ({ frames := 0, cells := 0, slots := 0, locals := 0 } : Room) (zq (qI Q)) (zx X) 58 [] [] [] S 0 0) (hK66 : ∀  (S : zS), K66  S → zJ E (RL, cL_isChange, 3, (some .boolean), false, [], zTr) ({ frames := 0, cells := 0, slots := 0, locals := 0 } : Room) (zq (qI Q)) (zx X) 66 [] [] [] S 0 0) : ∀ (m20 : Nat) (l0 : Int32) (l1 : Int32) (l2 : Int32) (S : zS), p_L_isChange_L20 E K58 K66 Q X m20 l0 l1 l2 S → zJ E (RL, cL_isChange, 3, (some .boolean), false, [], zTr) ({ frames := 0, cells := 0, slots := 0, locals := 0 } : Room) (zq (qI Q)) (zx X) 20 [(0, .int l0), (1, .int l1), (2, .int l2)] [] [] S 0 0 := by
  intro m20
  induction m20 with
  | zero => intro l0 l1 l2 S h; exact (show False from h).elim
  | succ m20 ih =>
    intro l0 l1 l2 S h
    unfold p_L_isChange_L20 at h
    refine z_iload_n 2 dL_isChange_20 rfl rfl ?_
    refine z_iload_n 0 dL_isChange_21 rfl rfl ?_
    refine z_icmp_ge 66 dL_isChange_22 (by decide) (fun c5 => ?_) (fun c5 => ?_)
    · have h := h.1 c5
      refine z_sub [] rfl ?_
      exact hK66 S h
    · have h := h.2 c5
      refine z_iload_n 1 dL_isChange_25 rfl rfl ?_
      refine z_iload_n 2 dL_isChange_26 rfl rfl ?_
      refine z_ishr dL_isChange_27 ?_
      refine z_iconst (v := 1) dL_isChange_28 rfl ?_
      refine z_iand dL_isChange_29 ?_
      refine z_iconst (v := 1) dL_isChange_30 rfl ?_
      refine z_icmp_ne 40 dL_isChange_31 (by decide) (fun c4 => ?_) (fun c4 => ?_)
      · have h := h.1 c4
        refine z_iload_n 2 dL_isChange_40 rfl rfl ?_
        refine z_iconst (v := 1) dL_isChange_41 rfl ?_
        refine z_iadd dL_isChange_42 ?_
        refine z_iload_n 0 dL_isChange_43 rfl rfl ?_
        refine z_icmp_eq 58 dL_isChange_44 (by decide) (fun c3 => ?_) (fun c3 => ?_)
        · have h := h.1 c3
          refine z_sub [] rfl ?_
          exact hK58 S h
        · have h := h.2 c3
          refine z_iload_n 1 dL_isChange_47 rfl rfl ?_
          refine z_iload_n 2 dL_isChange_48 rfl rfl ?_
          refine z_iconst (v := 1) dL_isChange_49 rfl ?_
          refine z_iadd dL_isChange_50 ?_
          refine z_ishr dL_isChange_51 ?_
          refine z_iconst (v := 1) dL_isChange_52 rfl ?_
          refine z_iand dL_isChange_53 ?_
          refine z_iconst (v := 1) dL_isChange_54 rfl ?_
          refine z_icmp_ne 60 dL_isChange_55 (by decide) (fun c2 => ?_) (fun c2 => ?_)
          · have h := h.1 c2
            refine z_iinc (v := (l2 + 2)) (lv' := [(2, .int (l2 + 2)), (0, .int l0), (1, .int l1)]) 2 dL_isChange_60 rfl rfl (Nat.le_of_ble_eq_true rfl) rfl ?_
            refine z_goto 20 dL_isChange_63 (by decide) ?_
            refine z_sub [1, 2, 0] rfl ?_
            exact ih l0 l1 (l2 + 2) S h
          · have h := h.2 c2
            refine z_sub [] rfl ?_
            exact hK58 S h
      · have h := h.2 c4
        refine z_iinc (v := (l2 + 1)) (lv' := [(2, .int (l2 + 1)), (0, .int l0), (1, .int l1)]) 2 dL_isChange_34 rfl rfl (Nat.le_of_ble_eq_true rfl) rfl ?_
        refine z_goto 20 dL_isChange_37 (by decide) ?_
        refine z_sub [1, 2, 0] rfl ?_
        exact ih l0 l1 (l2 + 1) S h
set_option maxRecDepth 20000 in
set_option maxHeartbeats 4000000 in
theorem w_L_isChange {E : zE} {l0 : Int32} {l1 : Int32} {S : zS} {Q : Int32 → zS → Prop} {X : String → zS → Prop} (h : p_L_isChange E l0 l1 S Q X) : zM E yL_isChange cL_isChange 3 (some .boolean) ({ frames := 0, cells := 0, slots := 0, locals := 0 } : Room) [.int l0, .int l1] S (qI Q) X := by
  unfold p_L_isChange at h
  refine zM_of RL false (by decide) rfl (fun h => by cases h) (Nat.le_of_ble_eq_true rfl) ?_
  refine z_iload_n 1 dL_isChange_0 rfl rfl ?_
  refine z_iconst (v := 1) dL_isChange_1 rfl ?_
  refine z_iload_n 0 dL_isChange_2 rfl rfl ?_
  refine z_ishl dL_isChange_3 ?_
  refine z_icmp_ge 16 dL_isChange_4 (by decide) (fun c10 => ?_) (fun c10 => ?_)
  · have h := h.1 c10
    refine z_iconst (v := 0) dL_isChange_16 rfl ?_
    obtain ⟨hz1, h⟩ := h
    exact z_zreturn ⟨rfl, _, rfl, h⟩ rfl (zbn hz1) (Nat.le_of_ble_eq_true rfl) (Nat.le_of_ble_eq_true rfl) dL_isChange_17
  · have h := h.2 c10
    refine z_iload_n 1 dL_isChange_7 rfl rfl ?_
    refine z_iconst (v := 1) dL_isChange_8 rfl ?_
    refine z_iload_n 0 dL_isChange_9 rfl rfl ?_
    refine z_ishl dL_isChange_10 ?_
    refine z_iconst (v := 1) dL_isChange_11 rfl ?_
    refine z_isub dL_isChange_12 ?_
    refine z_icmp_ne 18 dL_isChange_13 (by decide) (fun c9 => ?_) (fun c9 => ?_)
    · have h := h.1 c9
      refine z_iconst (v := 0) dL_isChange_18 rfl ?_
      refine z_istore_n (lv' := [(2, .int 0), (0, .int l0), (1, .int l1)]) dL_isChange_19 rfl (Nat.le_of_ble_eq_true rfl) rfl ?_
      obtain ⟨m20, h⟩ := h
      refine z_sub [1, 2, 0] rfl ?_
      refine w_L_isChange_L20 (fun S h => ?_) (fun S h => ?_) m20 l0 l1 0 S h
      · refine z_iconst (v := 0) dL_isChange_58 rfl ?_
        obtain ⟨hz6, h⟩ := h
        exact z_zreturn ⟨rfl, _, rfl, h⟩ rfl (zbn hz6) (Nat.le_of_ble_eq_true rfl) (Nat.le_of_ble_eq_true rfl) dL_isChange_59
      · refine z_iconst (v := 1) dL_isChange_66 rfl ?_
        obtain ⟨hz7, h⟩ := h
        exact z_zreturn ⟨rfl, _, rfl, h⟩ rfl (zbn hz7) (Nat.le_of_ble_eq_true rfl) (Nat.le_of_ble_eq_true rfl) dL_isChange_67
    · have h := h.2 c9
      refine z_iconst (v := 0) dL_isChange_16 rfl ?_
      obtain ⟨hz8, h⟩ := h
      exact z_zreturn ⟨rfl, _, rfl, h⟩ rfl (zbn hz8) (Nat.le_of_ble_eq_true rfl) (Nat.le_of_ble_eq_true rfl) dL_isChange_17
set_option maxRecDepth 20000 in
set_option maxHeartbeats 4000000 in
theorem w_L_moved_L2 {E : zE} {K43 : Int32 → Int32 → Int32 → zS → Prop} {Q : Int32 → zS → Prop} {X : String → zS → Prop} (hK43 : ∀ (l1 : Int32) (l2 : Int32) (l3 : Int32) (S : zS), K43 l1 l2 l3 S → zJ E (RL, cL_moved, 4, (some .int), false, [], zTr) ({ frames := 0, cells := 0, slots := 0, locals := 0 } : Room) (zq (qI Q)) (zx X) 43 [(1, .int l1), (2, .int l2), (3, .int l3)] [] [] S 0 0) : ∀ (m2 : Nat) (l1 : Int32) (l2 : Int32) (l3 : Int32) (S : zS), p_L_moved_L2 E K43 Q X m2 l1 l2 l3 S → zJ E (RL, cL_moved, 4, (some .int), false, [], zTr) ({ frames := 0, cells := 0, slots := 0, locals := 0 } : Room) (zq (qI Q)) (zx X) 2 [(1, .int l1), (2, .int l2), (3, .int l3)] [] [] S 0 0 := by
  intro m2
  induction m2 with
  | zero => intro l1 l2 l3 S h; exact (show False from h).elim
  | succ m2 ih =>
    intro l1 l2 l3 S h
    unfold p_L_moved_L2 at h
    refine z_iload_n 2 dL_moved_2 rfl rfl ?_
    refine z_iload_n 1 dL_moved_3 rfl rfl ?_
    refine z_icmp_ge 43 dL_moved_4 (by decide) (fun c5 => ?_) (fun c5 => ?_)
    · have h := h.1 c5
      exact hK43 l1 l2 l3 S h
    · have h := h.2 c5
      refine z_iload_n 2 dL_moved_7 rfl rfl ?_
      refine z_iconst (v := 1) dL_moved_8 rfl ?_
      refine z_iadd dL_moved_9 ?_
      refine z_iload_n 1 dL_moved_10 rfl rfl ?_
      refine z_icmp_lt 23 dL_moved_11 (by decide) (fun c4 => ?_) (fun c4 => ?_)
      · have h := h.1 c4
        refine z_iload_n 2 dL_moved_23 rfl rfl ?_
        refine z_iload_n 0 dL_moved_24 rfl rfl ?_
        refine z_iload_n 2 dL_moved_25 rfl rfl ?_
        refine z_ishr dL_moved_26 ?_
        refine z_iconst (v := 1) dL_moved_27 rfl ?_
        refine z_iand dL_moved_28 ?_
        refine z_iconst (v := 1) dL_moved_29 rfl ?_
        refine z_icmp_ne 37 dL_moved_30 (by decide) (fun c1 => ?_) (fun c1 => ?_)
        · have h := h.1 c1
          refine z_iconst (v := 2) dL_moved_37 rfl ?_
          refine z_iadd dL_moved_38 ?_
          refine z_istore_n (lv' := [(3, .int (l3 + 2)), (1, .int l1), (2, .int l2)]) dL_moved_39 rfl (Nat.le_of_ble_eq_true rfl) rfl ?_
          refine z_goto 2 dL_moved_40 (by decide) ?_
          refine z_sub [1, 2, 0] rfl ?_
          exact ih l1 l2 (l3 + 2) S h
        · have h := h.2 c1
          refine z_iconst (v := 1) dL_moved_33 rfl ?_
          refine z_goto 38 dL_moved_34 (by decide) ?_
          refine z_iadd dL_moved_38 ?_
          refine z_istore_n (lv' := [(3, .int (l3 + 1)), (1, .int l1), (2, .int l2)]) dL_moved_39 rfl (Nat.le_of_ble_eq_true rfl) rfl ?_
          refine z_goto 2 dL_moved_40 (by decide) ?_
          refine z_sub [1, 2, 0] rfl ?_
          exact ih l1 l2 (l3 + 1) S h
      · have h := h.2 c4
        refine z_iload_n 0 dL_moved_14 rfl rfl ?_
        refine z_iload_n 2 dL_moved_15 rfl rfl ?_
        refine z_ishr dL_moved_16 ?_
        refine z_iconst (v := 1) dL_moved_17 rfl ?_
        refine z_iand dL_moved_18 ?_
        refine z_iconst (v := 1) dL_moved_19 rfl ?_
        refine z_icmp_ne 43 dL_moved_20 (by decide) (fun c3 => ?_) (fun c3 => ?_)
        · have h := h.1 c3
          exact hK43 l1 l2 l3 S h
        · have h := h.2 c3
          refine z_iload_n 2 dL_moved_23 rfl rfl ?_
          refine z_iload_n 0 dL_moved_24 rfl rfl ?_
          refine z_iload_n 2 dL_moved_25 rfl rfl ?_
          refine z_ishr dL_moved_26 ?_
          refine z_iconst (v := 1) dL_moved_27 rfl ?_
          refine z_iand dL_moved_28 ?_
          refine z_iconst (v := 1) dL_moved_29 rfl ?_
          refine z_icmp_ne 37 dL_moved_30 (by decide) (fun c2 => ?_) (fun c2 => ?_)
          · have h := h.1 c2
            refine z_iconst (v := 2) dL_moved_37 rfl ?_
            refine z_iadd dL_moved_38 ?_
            refine z_istore_n (lv' := [(3, .int (l3 + 2)), (1, .int l1), (2, .int l2)]) dL_moved_39 rfl (Nat.le_of_ble_eq_true rfl) rfl ?_
            refine z_goto 2 dL_moved_40 (by decide) ?_
            refine z_sub [1, 2, 0] rfl ?_
            exact ih l1 l2 (l3 + 2) S h
          · have h := h.2 c2
            refine z_iconst (v := 1) dL_moved_33 rfl ?_
            refine z_goto 38 dL_moved_34 (by decide) ?_
            refine z_iadd dL_moved_38 ?_
            refine z_istore_n (lv' := [(3, .int (l3 + 1)), (1, .int l1), (2, .int l2)]) dL_moved_39 rfl (Nat.le_of_ble_eq_true rfl) rfl ?_
            refine z_goto 2 dL_moved_40 (by decide) ?_
            refine z_sub [1, 2, 0] rfl ?_
            exact ih l1 l2 (l3 + 1) S h
set_option maxRecDepth 20000 in
set_option maxHeartbeats 4000000 in
theorem w_L_moved_J43 {E : zE}  {Q : Int32 → zS → Prop} {X : String → zS → Prop}  (l1 : Int32) (l2 : Int32) (l3 : Int32) (S : zS) (h : p_L_moved_J43 E  Q X l1 l2 l3 S) : zJ E (RL, cL_moved, 4, (some .int), false, [], zTr) ({ frames := 0, cells := 0, slots := 0, locals := 0 } : Room) (zq (qI Q)) (zx X) 43 [(1, .int l1), (2, .int l2), (3, .int l3)] [] [] S 0 0 := by
  unfold p_L_moved_J43 at h
  refine z_iload_n 0 dL_moved_43 rfl rfl ?_
  refine z_iload_n 1 dL_moved_44 rfl rfl ?_
  refine z_ishr dL_moved_45 ?_
  refine z_iconst (v := 1) dL_moved_46 rfl ?_
  refine z_iand dL_moved_47 ?_
  refine z_iconst (v := 1) dL_moved_48 rfl ?_
  refine z_icmp_ne 54 dL_moved_49 (by decide) (fun c7 => ?_) (fun c7 => ?_)
  · have h := h.1 c7
    refine z_iload_n 2 dL_moved_54 rfl rfl ?_
    refine z_iload_n 1 dL_moved_55 rfl rfl ?_
    refine z_icmp_ne 65 dL_moved_56 (by decide) (fun c6 => ?_) (fun c6 => ?_)
    · have h := h.1 c6
      refine z_iload_n 1 dL_moved_65 rfl rfl ?_
      refine z_iconst (v := 1) dL_moved_66 rfl ?_
      refine z_isub dL_moved_67 ?_
      exact z_ireturn ⟨rfl, _, rfl, h⟩ rfl (Nat.le_of_ble_eq_true rfl) (Nat.le_of_ble_eq_true rfl) dL_moved_68
    · have h := h.2 c6
      refine z_iload_n 1 dL_moved_59 rfl rfl ?_
      refine z_iconst (v := 1) dL_moved_60 rfl ?_
      refine z_iadd dL_moved_61 ?_
      refine z_goto 68 dL_moved_62 (by decide) ?_
      exact z_ireturn ⟨rfl, _, rfl, h⟩ rfl (Nat.le_of_ble_eq_true rfl) (Nat.le_of_ble_eq_true rfl) dL_moved_68
  · have h := h.2 c7
    refine z_iload_n 1 dL_moved_52 rfl rfl ?_
    exact z_ireturn ⟨rfl, _, rfl, h⟩ rfl (Nat.le_of_ble_eq_true rfl) (Nat.le_of_ble_eq_true rfl) dL_moved_53
set_option maxRecDepth 20000 in
set_option maxHeartbeats 4000000 in
theorem w_L_moved {E : zE} {l0 : Int32} {l1 : Int32} {l2 : Int32} {S : zS} {Q : Int32 → zS → Prop} {X : String → zS → Prop} (h : p_L_moved E l0 l1 l2 S Q X) : zM E yL_moved cL_moved 4 (some .int) ({ frames := 0, cells := 0, slots := 0, locals := 0 } : Room) [.int l0, .int l1, .int l2] S (qI Q) X := by
  unfold p_L_moved at h
  refine zM_of RL false (by decide) rfl (fun h => by cases h) (Nat.le_of_ble_eq_true rfl) ?_
  refine z_iconst (v := 0) dL_moved_0 rfl ?_
  refine z_istore_n (lv' := [(3, .int 0), (0, .int l0), (1, .int l1), (2, .int l2)]) dL_moved_1 rfl (Nat.le_of_ble_eq_true rfl) rfl ?_
  obtain ⟨m2, h⟩ := h
  refine z_sub [2, 3, 0] rfl ?_
  refine w_L_moved_L2 (fun l1 l2 l3 S h => ?_) m2 l1 l2 0 S h
  refine w_L_moved_J43 l1 l2 l3 S h
set_option maxRecDepth 20000 in
set_option maxHeartbeats 4000000 in
theorem w_L_changed_L5 {E : zE} {K39 : Int32 → zS → Prop} {Q : Int32 → zS → Prop} {X : String → zS → Prop} (hK39 : ∀ (l3 : Int32) (S : zS), K39 l3 S → zJ E (RL, cL_changed, 5, (some .int), false, [], zTr) ({ frames := 1, cells := 0, slots := 0, locals := 23 } : Room) (zq (qI Q)) (zx X) 39 [(3, .int l3)] [] [] S 0 0) : ∀ (m5 : Nat) (l0 : Int32) (l1 : Int32) (l2 : Int32) (l3 : Int32) (l4 : Int32) (S : zS), p_L_changed_L5 E K39 Q X m5 l0 l1 l2 l3 l4 S → zJ E (RL, cL_changed, 5, (some .int), false, [], zTr) ({ frames := 1, cells := 0, slots := 0, locals := 23 } : Room) (zq (qI Q)) (zx X) 5 [(0, .int l0), (1, .int l1), (2, .int l2), (3, .int l3), (4, .int l4)] [] [] S 0 0 := by
  intro m5
  induction m5 with
  | zero => intro l0 l1 l2 l3 l4 S h; exact (show False from h).elim
  | succ m5 ih =>
    intro l0 l1 l2 l3 l4 S h
    unfold p_L_changed_L5 at h
    refine z_iload 4 dL_changed_5 rfl ?_
    refine z_iload_n 1 dL_changed_7 rfl rfl ?_
    refine z_icmp_ge 39 dL_changed_8 (by decide) (fun c3 => ?_) (fun c3 => ?_)
    · have h := h.1 c3
      refine z_sub [3] rfl ?_
      exact hK39 l3 S h
    · have h := h.2 c3
      refine z_iload_n 3 dL_changed_11 rfl rfl ?_
      refine z_iload_n 1 dL_changed_12 rfl rfl ?_
      refine z_iload_n 2 dL_changed_13 rfl rfl ?_
      refine z_iload_n 0 dL_changed_14 rfl rfl ?_
      refine z_iconst (v := 3) dL_changed_15 rfl ?_
      refine z_iload 4 dL_changed_16 rfl ?_
      refine z_imul dL_changed_18 ?_
      refine z_ishr dL_changed_19 ?_
      refine z_bipush (v := 7) dL_changed_20 rfl ?_
      refine z_iand dL_changed_22 ?_
      refine z_callSI (st := [.int l3]) (w_L_moved h) zw_818 zw_816 zw_817 zw_29 zy_L_moved rfl rfl ⟨Nat.le_of_ble_eq_true rfl, Nat.le_of_ble_eq_true rfl⟩ ⟨(Nat.le_of_ble_eq_true rfl), (Nat.le_of_ble_eq_true rfl)⟩ (Nat.le_of_ble_eq_true rfl) dL_changed_23 (fun _ _ hx => hx.elim) (fun r2 S1 h => ?_)
      refine z_widen (k' := 0) (n' := 0) (Nat.le_refl _) (Nat.le_refl _) ?_
      refine z_iconst (v := 3) dL_changed_26 rfl ?_
      refine z_iload 4 dL_changed_27 rfl ?_
      refine z_imul dL_changed_29 ?_
      refine z_ishl dL_changed_30 ?_
      refine z_ior dL_changed_31 ?_
      refine z_istore_n (lv' := [(3, .int (l3 ||| (r2 <<< ((3 * l4) &&& 31)))), (0, .int l0), (1, .int l1), (2, .int l2), (4, .int l4)]) dL_changed_32 rfl (Nat.le_of_ble_eq_true rfl) rfl ?_
      refine z_iinc (v := (l4 + 1)) (lv' := [(4, .int (l4 + 1)), (3, .int (l3 ||| (r2 <<< ((3 * l4) &&& 31)))), (0, .int l0), (1, .int l1), (2, .int l2)]) 4 dL_changed_33 rfl rfl (Nat.le_of_ble_eq_true rfl) rfl ?_
      refine z_goto 5 dL_changed_36 (by decide) ?_
      refine z_sub [2, 3, 4, 1, 0] rfl ?_
      exact ih l0 l1 l2 (l3 ||| (r2 <<< ((3 * l4) &&& 31))) (l4 + 1) S1 h
set_option maxRecDepth 20000 in
set_option maxHeartbeats 4000000 in
theorem w_L_changed {E : zE} {l0 : Int32} {l1 : Int32} {l2 : Int32} {S : zS} {Q : Int32 → zS → Prop} {X : String → zS → Prop} (h : p_L_changed E l0 l1 l2 S Q X) : zM E yL_changed cL_changed 5 (some .int) ({ frames := 1, cells := 0, slots := 0, locals := 23 } : Room) [.int l0, .int l1, .int l2] S (qI Q) X := by
  unfold p_L_changed at h
  refine zM_of RL false (by decide) rfl (fun h => by cases h) (Nat.le_of_ble_eq_true rfl) ?_
  refine z_iconst (v := 0) dL_changed_0 rfl ?_
  refine z_istore_n (lv' := [(3, .int 0), (0, .int l0), (1, .int l1), (2, .int l2)]) dL_changed_1 rfl (Nat.le_of_ble_eq_true rfl) rfl ?_
  refine z_iconst (v := 0) dL_changed_2 rfl ?_
  refine z_istore (lv' := [(4, .int 0), (3, .int 0), (0, .int l0), (1, .int l1), (2, .int l2)]) dL_changed_3 (Nat.le_of_ble_eq_true rfl) rfl ?_
  obtain ⟨m5, h⟩ := h
  refine z_sub [2, 3, 4, 1, 0] rfl ?_
  refine w_L_changed_L5 (fun l3 S h => ?_) m5 l0 l1 l2 0 0 S h
  refine z_iload_n 0 dL_changed_39 rfl rfl ?_
  exact z_ireturn ⟨rfl, _, rfl, h⟩ rfl (Nat.le_of_ble_eq_true rfl) (Nat.le_of_ble_eq_true rfl) dL_changed_40
set_option maxRecDepth 20000 in
set_option maxHeartbeats 4000000 in
theorem w_L_rounds_L4 {E : zE} {K23 : Int32 → zS → Prop} {Q : Int32 → zS → Prop} {X : String → zS → Prop} (hK23 : ∀ (l1 : Int32) (S : zS), K23 l1 S → zJ E (RL, cL_rounds, 3, (some .int), false, [], zTr) ({ frames := 0, cells := 0, slots := 0, locals := 0 } : Room) (zq (qI Q)) (zx X) 23 [(1, .int l1)] [] [] S 0 0) : ∀ (m4 : Nat) (l0 : Int32) (l1 : Int32) (l2 : Int32) (S : zS), p_L_rounds_L4 E K23 Q X m4 l0 l1 l2 S → zJ E (RL, cL_rounds, 3, (some .int), false, [], zTr) ({ frames := 0, cells := 0, slots := 0, locals := 0 } : Room) (zq (qI Q)) (zx X) 4 [(0, .int l0), (1, .int l1), (2, .int l2)] [] [] S 0 0 := by
  intro m4
  induction m4 with
  | zero => intro l0 l1 l2 S h; exact (show False from h).elim
  | succ m4 ih =>
    intro l0 l1 l2 S h
    unfold p_L_rounds_L4 at h
    refine z_iload_n 2 dL_rounds_4 rfl rfl ?_
    refine z_iload_n 0 dL_rounds_5 rfl rfl ?_
    refine z_icmp_ge 23 dL_rounds_6 (by decide) (fun c1 => ?_) (fun c1 => ?_)
    · have h := h.1 c1
      refine z_sub [1] rfl ?_
      exact hK23 l1 S h
    · have h := h.2 c1
      refine z_iload_n 1 dL_rounds_9 rfl rfl ?_
      refine z_iload_n 2 dL_rounds_10 rfl rfl ?_
      refine z_iconst (v := 3) dL_rounds_11 rfl ?_
      refine z_iload_n 2 dL_rounds_12 rfl rfl ?_
      refine z_imul dL_rounds_13 ?_
      refine z_ishl dL_rounds_14 ?_
      refine z_ior dL_rounds_15 ?_
      refine z_istore_n (lv' := [(1, .int (l1 ||| (l2 <<< ((3 * l2) &&& 31)))), (0, .int l0), (2, .int l2)]) dL_rounds_16 rfl (Nat.le_of_ble_eq_true rfl) rfl ?_
      refine z_iinc (v := (l2 + 1)) (lv' := [(2, .int (l2 + 1)), (1, .int (l1 ||| (l2 <<< ((3 * l2) &&& 31)))), (0, .int l0)]) 2 dL_rounds_17 rfl rfl (Nat.le_of_ble_eq_true rfl) rfl ?_
      refine z_goto 4 dL_rounds_20 (by decide) ?_
      refine z_sub [2, 1, 0] rfl ?_
      exact ih l0 (l1 ||| (l2 <<< ((3 * l2) &&& 31))) (l2 + 1) S h
set_option maxRecDepth 20000 in
set_option maxHeartbeats 4000000 in
theorem w_L_rounds {E : zE} {l0 : Int32} {S : zS} {Q : Int32 → zS → Prop} {X : String → zS → Prop} (h : p_L_rounds E l0 S Q X) : zM E yL_rounds cL_rounds 3 (some .int) ({ frames := 0, cells := 0, slots := 0, locals := 0 } : Room) [.int l0] S (qI Q) X := by
  unfold p_L_rounds at h
  refine zM_of RL false (by decide) rfl (fun h => by cases h) (Nat.le_of_ble_eq_true rfl) ?_
  refine z_iconst (v := 0) dL_rounds_0 rfl ?_
  refine z_istore_n (lv' := [(1, .int 0), (0, .int l0)]) dL_rounds_1 rfl (Nat.le_of_ble_eq_true rfl) rfl ?_
  refine z_iconst (v := 0) dL_rounds_2 rfl ?_
  refine z_istore_n (lv' := [(2, .int 0), (1, .int 0), (0, .int l0)]) dL_rounds_3 rfl (Nat.le_of_ble_eq_true rfl) rfl ?_
  obtain ⟨m4, h⟩ := h
  refine z_sub [2, 1, 0] rfl ?_
  refine w_L_rounds_L4 (fun l1 S h => ?_) m4 l0 0 0 S h
  refine z_iload_n 0 dL_rounds_23 rfl rfl ?_
  exact z_ireturn ⟨rfl, _, rfl, h⟩ rfl (Nat.le_of_ble_eq_true rfl) (Nat.le_of_ble_eq_true rfl) dL_rounds_24
set_option maxRecDepth 20000 in
set_option maxHeartbeats 4000000 in
theorem w_L_bell_L2 {E : zE} {K19 : Int32 → zS → Prop} {K27 : zS → Prop} {Q : Int32 → zS → Prop} {X : String → zS → Prop} (hK19 : ∀ (l3 : Int32) (S : zS), K19 l3 S → zJ E (RL, cL_bell, 4, (some .int), false, [], zTr) ({ frames := 0, cells := 0, slots := 0, locals := 0 } : Room) (zq (qI Q)) (zx X) 19 [(3, .int l3)] [] [] S 0 0) (hK27 : ∀  (S : zS), K27  S → zJ E (RL, cL_bell, 4, (some .int), false, [], zTr) ({ frames := 0, cells := 0, slots := 0, locals := 0 } : Room) (zq (qI Q)) (zx X) 27 [] [] [] S 0 0) : ∀ (m2 : Nat) (l0 : Int32) (l1 : Int32) (l2 : Int32) (l3 : Int32) (S : zS), p_L_bell_L2 E K19 K27 Q X m2 l0 l1 l2 l3 S → zJ E (RL, cL_bell, 4, (some .int), false, [], zTr) ({ frames := 0, cells := 0, slots := 0, locals := 0 } : Room) (zq (qI Q)) (zx X) 2 [(0, .int l0), (1, .int l1), (2, .int l2), (3, .int l3)] [] [] S 0 0 := by
  intro m2
  induction m2 with
  | zero => intro l0 l1 l2 l3 S h; exact (show False from h).elim
  | succ m2 ih =>
    intro l0 l1 l2 l3 S h
    unfold p_L_bell_L2 at h
    refine z_iload_n 3 dL_bell_2 rfl rfl ?_
    refine z_iload_n 1 dL_bell_3 rfl rfl ?_
    refine z_icmp_ge 27 dL_bell_4 (by decide) (fun c2 => ?_) (fun c2 => ?_)
    · have h := h.1 c2
      refine z_sub [] rfl ?_
      exact hK27 S h
    · have h := h.2 c2
      refine z_iload_n 0 dL_bell_7 rfl rfl ?_
      refine z_iconst (v := 3) dL_bell_8 rfl ?_
      refine z_iload_n 3 dL_bell_9 rfl rfl ?_
      refine z_imul dL_bell_10 ?_
      refine z_ishr dL_bell_11 ?_
      refine z_bipush (v := 7) dL_bell_12 rfl ?_
      refine z_iand dL_bell_14 ?_
      refine z_iload_n 2 dL_bell_15 rfl rfl ?_
      refine z_icmp_ne 21 dL_bell_16 (by decide) (fun c1 => ?_) (fun c1 => ?_)
      · have h := h.1 c1
        refine z_iinc (v := (l3 + 1)) (lv' := [(3, .int (l3 + 1)), (0, .int l0), (1, .int l1), (2, .int l2)]) 3 dL_bell_21 rfl rfl (Nat.le_of_ble_eq_true rfl) rfl ?_
        refine z_goto 2 dL_bell_24 (by decide) ?_
        refine z_sub [1, 2, 3, 0] rfl ?_
        exact ih l0 l1 l2 (l3 + 1) S h
      · have h := h.2 c1
        refine z_sub [3] rfl ?_
        exact hK19 l3 S h
set_option maxRecDepth 20000 in
set_option maxHeartbeats 4000000 in
theorem w_L_bell {E : zE} {l0 : Int32} {l1 : Int32} {l2 : Int32} {S : zS} {Q : Int32 → zS → Prop} {X : String → zS → Prop} (h : p_L_bell E l0 l1 l2 S Q X) : zM E yL_bell cL_bell 4 (some .int) ({ frames := 0, cells := 0, slots := 0, locals := 0 } : Room) [.int l0, .int l1, .int l2] S (qI Q) X := by
  unfold p_L_bell at h
  refine zM_of RL false (by decide) rfl (fun h => by cases h) (Nat.le_of_ble_eq_true rfl) ?_
  refine z_iconst (v := 0) dL_bell_0 rfl ?_
  refine z_istore_n (lv' := [(3, .int 0), (0, .int l0), (1, .int l1), (2, .int l2)]) dL_bell_1 rfl (Nat.le_of_ble_eq_true rfl) rfl ?_
  obtain ⟨m2, h⟩ := h
  refine z_sub [1, 2, 3, 0] rfl ?_
  refine w_L_bell_L2 (fun l3 S h => ?_) (fun S h => ?_) m2 l0 l1 l2 0 S h
  · refine z_iload_n 0 dL_bell_19 rfl rfl ?_
    exact z_ireturn ⟨rfl, _, rfl, h⟩ rfl (Nat.le_of_ble_eq_true rfl) (Nat.le_of_ble_eq_true rfl) dL_bell_20
  · refine z_iconst (v := (-1)) dL_bell_27 rfl ?_
    exact z_ireturn ⟨rfl, _, rfl, h⟩ rfl (Nat.le_of_ble_eq_true rfl) (Nat.le_of_ble_eq_true rfl) dL_bell_28
set_option maxRecDepth 20000 in
set_option maxHeartbeats 4000000 in
theorem w_L_number_L54 {E : zE} {K89 : Int32 → Int32 → Int32 → Int32 → Int32 → zS → Prop} {Q : Int32 → zS → Prop} {X : String → zS → Prop} (hK89 : ∀ (l0 : Int32) (l1 : Int32) (l2 : Int32) (l3 : Int32) (l4 : Int32) (S : zS), K89 l0 l1 l2 l3 l4 S → zJ E (RL, cL_number, 7, (some .int), false, [], zTr) ({ frames := 1, cells := 0, slots := 0, locals := 23 } : Room) (zq (qI Q)) (zx X) 89 [(0, .int l0), (1, .int l1), (2, .int l2), (3, .int l3), (4, .int l4)] [] [] S 0 0) : ∀ (m54 : Nat) (l0 : Int32) (l1 : Int32) (l2 : Int32) (l3 : Int32) (l4 : Int32) (l5 : Int32) (l6 : Int32) (S : zS), p_L_number_L54 E K89 Q X m54 l0 l1 l2 l3 l4 l5 l6 S → zJ E (RL, cL_number, 7, (some .int), false, [], zTr) ({ frames := 1, cells := 0, slots := 0, locals := 23 } : Room) (zq (qI Q)) (zx X) 54 [(0, .int l0), (1, .int l1), (2, .int l2), (3, .int l3), (4, .int l4), (5, .int l5), (6, .int l6)] [] [] S 0 0 := by
  intro m54
  induction m54 with
  | zero => intro l0 l1 l2 l3 l4 l5 l6 S h; exact (show False from h).elim
  | succ m54 ih =>
    intro l0 l1 l2 l3 l4 l5 l6 S h
    unfold p_L_number_L54 at h
    refine z_iload 6 dL_number_54 rfl ?_
    refine z_iload 5 dL_number_56 rfl ?_
    refine z_icmp_ge 89 dL_number_58 (by decide) (fun c4 => ?_) (fun c4 => ?_)
    · have h := h.1 c4
      refine z_sub [0, 1, 2, 3, 4] rfl ?_
      exact hK89 l0 l1 l2 l3 l4 S h
    · have h := h.2 c4
      refine z_iload_n 2 dL_number_61 rfl rfl ?_
      refine z_iload_n 0 dL_number_62 rfl rfl ?_
      refine z_iconst (v := 3) dL_number_63 rfl ?_
      refine z_iload 6 dL_number_64 rfl ?_
      refine z_imul dL_number_66 ?_
      refine z_ishr dL_number_67 ?_
      refine z_bipush (v := 7) dL_number_68 rfl ?_
      refine z_iand dL_number_70 ?_
      refine z_iload 4 dL_number_71 rfl ?_
      refine z_icmp_le 80 dL_number_73 (by decide) (fun c3 => ?_) (fun c3 => ?_)
      · have h := h.1 c3
        refine z_iconst (v := 0) dL_number_80 rfl ?_
        refine z_iadd dL_number_81 ?_
        refine z_istore_n (lv' := [(2, .int (l2 + 0)), (0, .int l0), (1, .int l1), (3, .int l3), (4, .int l4), (5, .int l5), (6, .int l6)]) dL_number_82 rfl (Nat.le_of_ble_eq_true rfl) rfl ?_
        refine z_iinc (v := (l6 + 1)) (lv' := [(6, .int (l6 + 1)), (2, .int (l2 + 0)), (0, .int l0), (1, .int l1), (3, .int l3), (4, .int l4), (5, .int l5)]) 6 dL_number_83 rfl rfl (Nat.le_of_ble_eq_true rfl) rfl ?_
        refine z_goto 54 dL_number_86 (by decide) ?_
        refine z_sub [2, 3, 1, 4, 5, 6, 0] rfl ?_
        exact ih l0 l1 (l2 + 0) l3 l4 l5 (l6 + 1) S h
      · have h := h.2 c3
        refine z_iload_n 3 dL_number_76 rfl rfl ?_
        refine z_goto 81 dL_number_77 (by decide) ?_
        refine z_iadd dL_number_81 ?_
        refine z_istore_n (lv' := [(2, .int (l2 + l3)), (0, .int l0), (1, .int l1), (3, .int l3), (4, .int l4), (5, .int l5), (6, .int l6)]) dL_number_82 rfl (Nat.le_of_ble_eq_true rfl) rfl ?_
        refine z_iinc (v := (l6 + 1)) (lv' := [(6, .int (l6 + 1)), (2, .int (l2 + l3)), (0, .int l0), (1, .int l1), (3, .int l3), (4, .int l4), (5, .int l5)]) 6 dL_number_83 rfl rfl (Nat.le_of_ble_eq_true rfl) rfl ?_
        refine z_goto 54 dL_number_86 (by decide) ?_
        refine z_sub [2, 3, 1, 4, 5, 6, 0] rfl ?_
        exact ih l0 l1 (l2 + l3) l3 l4 l5 (l6 + 1) S h
set_option maxRecDepth 20000 in
set_option maxHeartbeats 4000000 in
theorem w_L_number_L29 {E : zE} {K95 : Int32 → zS → Prop} {Q : Int32 → zS → Prop} {X : String → zS → Prop} (hK95 : ∀ (l2 : Int32) (S : zS), K95 l2 S → zJ E (RL, cL_number, 7, (some .int), false, [], zTr) ({ frames := 1, cells := 0, slots := 0, locals := 23 } : Room) (zq (qI Q)) (zx X) 95 [(2, .int l2)] [] [] S 0 0) : ∀ (m29 : Nat) (l0 : Int32) (l1 : Int32) (l2 : Int32) (l3 : Int32) (l4 : Int32) (S : zS), p_L_number_L29 E K95 Q X m29 l0 l1 l2 l3 l4 S → zJ E (RL, cL_number, 7, (some .int), false, [], zTr) ({ frames := 1, cells := 0, slots := 0, locals := 23 } : Room) (zq (qI Q)) (zx X) 29 [(0, .int l0), (1, .int l1), (2, .int l2), (3, .int l3), (4, .int l4)] [] [] S 0 0 := by
  intro m29
  induction m29 with
  | zero => intro l0 l1 l2 l3 l4 S h; exact (show False from h).elim
  | succ m29 ih =>
    intro l0 l1 l2 l3 l4 S h
    unfold p_L_number_L29 at h
    refine z_iload 4 dL_number_29 rfl ?_
    refine z_iload_n 1 dL_number_31 rfl rfl ?_
    refine z_icmp_ge 95 dL_number_32 (by decide) (fun c6 => ?_) (fun c6 => ?_)
    · have h := h.1 c6
      refine z_sub [2] rfl ?_
      exact hK95 l2 S h
    · have h := h.2 c6
      refine z_iload_n 3 dL_number_35 rfl rfl ?_
      refine z_iload_n 1 dL_number_36 rfl rfl ?_
      refine z_iload 4 dL_number_37 rfl ?_
      refine z_isub dL_number_39 ?_
      obtain ⟨hy5, h⟩ := h
      refine z_idiv dL_number_40 hy5 ?_
      refine z_istore_n (lv' := [(3, .int (l3 / (l1 - l4))), (0, .int l0), (1, .int l1), (2, .int l2), (4, .int l4)]) dL_number_41 rfl (Nat.le_of_ble_eq_true rfl) rfl ?_
      refine z_iload_n 1 dL_number_42 rfl rfl ?_
      refine z_iload_n 2 dL_number_43 rfl rfl ?_
      refine z_iload 4 dL_number_44 rfl ?_
      refine z_callSI (st := []) (w_L_bell h) zw_1074 zw_1072 zw_1073 zw_29 zy_L_bell rfl rfl ⟨Nat.le_of_ble_eq_true rfl, Nat.le_of_ble_eq_true rfl⟩ ⟨(Nat.le_of_ble_eq_true rfl), (Nat.le_of_ble_eq_true rfl)⟩ (Nat.le_of_ble_eq_true rfl) dL_number_46 (fun _ _ hx => hx.elim) (fun r2 S1 h => ?_)
      refine z_widen (k' := 0) (n' := 0) (Nat.le_refl _) (Nat.le_refl _) ?_
      refine z_istore (lv' := [(5, .int r2), (3, .int (l3 / (l1 - l4))), (0, .int l0), (1, .int l1), (2, .int l2), (4, .int l4)]) dL_number_49 (Nat.le_of_ble_eq_true rfl) rfl ?_
      refine z_iconst (v := 0) dL_number_51 rfl ?_
      refine z_istore (lv' := [(6, .int 0), (5, .int r2), (3, .int (l3 / (l1 - l4))), (0, .int l0), (1, .int l1), (2, .int l2), (4, .int l4)]) dL_number_52 (Nat.le_of_ble_eq_true rfl) rfl ?_
      obtain ⟨m54, h⟩ := h
      refine z_sub [3, 4, 5, 2, 6, 1, 0] rfl ?_
      refine w_L_number_L54 (fun l0 l1 l2 l3 l4 S h => ?_) m54 l0 l1 l2 (l3 / (l1 - l4)) l4 r2 0 S1 h
      refine z_iinc (v := (l4 + 1)) (lv' := [(4, .int (l4 + 1)), (0, .int l0), (1, .int l1), (2, .int l2), (3, .int l3)]) 4 dL_number_89 rfl rfl (Nat.le_of_ble_eq_true rfl) rfl ?_
      refine z_goto 29 dL_number_92 (by decide) ?_
      refine z_sub [1, 2, 3, 4, 0] rfl ?_
      exact ih l0 l1 l2 l3 (l4 + 1) S h
set_option maxRecDepth 20000 in
set_option maxHeartbeats 4000000 in
theorem w_L_number_J25 {E : zE}  {Q : Int32 → zS → Prop} {X : String → zS → Prop}  (l0 : Int32) (l1 : Int32) (l2 : Int32) (l100 : Int32) (S : zS) (h : p_L_number_J25 E  Q X l0 l1 l2 l100 S) : zJ E (RL, cL_number, 7, (some .int), false, [], zTr) ({ frames := 1, cells := 0, slots := 0, locals := 23 } : Room) (zq (qI Q)) (zx X) 25 [(0, .int l0), (1, .int l1), (2, .int l2)] [.int l100] [] S 0 0 := by
  unfold p_L_number_J25 at h
  refine z_istore_n (lv' := [(3, .int l100), (0, .int l0), (1, .int l1), (2, .int l2)]) dL_number_25 rfl (Nat.le_of_ble_eq_true rfl) rfl ?_
  refine z_iconst (v := 0) dL_number_26 rfl ?_
  refine z_istore (lv' := [(4, .int 0), (3, .int l100), (0, .int l0), (1, .int l1), (2, .int l2)]) dL_number_27 (Nat.le_of_ble_eq_true rfl) rfl ?_
  obtain ⟨m29, h⟩ := h
  refine z_sub [2, 3, 4, 1, 0] rfl ?_
  refine w_L_number_L29 (fun l2 S h => ?_) m29 l0 l1 l2 l100 0 S h
  refine z_iload_n 0 dL_number_95 rfl rfl ?_
  exact z_ireturn ⟨rfl, _, rfl, h⟩ rfl (Nat.le_of_ble_eq_true rfl) (Nat.le_of_ble_eq_true rfl) dL_number_96
set_option maxRecDepth 20000 in
set_option maxHeartbeats 4000000 in
theorem w_L_number {E : zE} {l0 : Int32} {l1 : Int32} {S : zS} {Q : Int32 → zS → Prop} {X : String → zS → Prop} (h : p_L_number E l0 l1 S Q X) : zM E yL_number cL_number 7 (some .int) ({ frames := 1, cells := 0, slots := 0, locals := 23 } : Room) [.int l0, .int l1] S (qI Q) X := by
  unfold p_L_number at h
  refine zM_of RL false (by decide) rfl (fun h => by cases h) (Nat.le_of_ble_eq_true rfl) ?_
  refine z_iconst (v := 0) dL_number_0 rfl ?_
  refine z_istore_n (lv' := [(2, .int 0), (0, .int l0), (1, .int l1)]) dL_number_1 rfl (Nat.le_of_ble_eq_true rfl) rfl ?_
  refine z_iload_n 2 dL_number_2 rfl rfl ?_
  refine z_iconst (v := 4) dL_number_3 rfl ?_
  refine z_icmp_ne 12 dL_number_4 (by decide) (fun c8 => ?_) (fun c8 => ?_)
  · have h := h.1 c8
    refine z_iload_n 2 dL_number_12 rfl rfl ?_
    refine z_iconst (v := 5) dL_number_13 rfl ?_
    refine z_icmp_ne 22 dL_number_14 (by decide) (fun c7 => ?_) (fun c7 => ?_)
    · have h := h.1 c7
      refine z_sipush (v := 720) dL_number_22 rfl ?_
      refine z_sub [1, 2, 0] rfl ?_
      refine w_L_number_J25 l0 l1 0 720 S h
    · have h := h.2 c7
      refine z_bipush (v := 120) dL_number_17 rfl ?_
      refine z_goto 25 dL_number_19 (by decide) ?_
      refine z_sub [1, 2, 0] rfl ?_
      refine w_L_number_J25 l0 l1 0 120 S h
  · have h := h.2 c8
    refine z_bipush (v := 24) dL_number_7 rfl ?_
    refine z_goto 25 dL_number_9 (by decide) ?_
    refine z_sub [1, 2, 0] rfl ?_
    refine w_L_number_J25 l0 l1 0 24 S h
set_option maxRecDepth 20000 in
set_option maxHeartbeats 4000000 in
theorem w_L_stageOf {E : zE} {g0 : Int64} {S : zS} {Q : Int32 → zS → Prop} {X : String → zS → Prop} (h : p_L_stageOf E g0 S Q X) : zM E yL_stageOf cL_stageOf 2 (some .int) ({ frames := 0, cells := 0, slots := 0, locals := 0 } : Room) [.long g0] S (qI Q) X := by
  unfold p_L_stageOf at h
  refine zM_of RL false (by decide) rfl (fun h => by cases h) (Nat.le_of_ble_eq_true rfl) ?_
  refine z_lload_n 0 dL_stageOf_0 rfl rfl ?_
  refine z_ldc2 zw_786 dL_stageOf_1 ?_
  refine z_land dL_stageOf_4 ?_
  refine z_l2i dL_stageOf_5 rfl ?_
  exact z_ireturn ⟨rfl, _, rfl, h⟩ rfl (Nat.le_of_ble_eq_true rfl) (Nat.le_of_ble_eq_true rfl) dL_stageOf_6
set_option maxRecDepth 20000 in
set_option maxHeartbeats 4000000 in
theorem w_L_size {E : zE} {g0 : Int64} {S : zS} {Q : Int32 → zS → Prop} {X : String → zS → Prop} (h : p_L_size E g0 S Q X) : zM E yL_size cL_size 2 (some .int) ({ frames := 0, cells := 0, slots := 0, locals := 0 } : Room) [.long g0] S (qI Q) X := by
  unfold p_L_size at h
  refine zM_of RL false (by decide) rfl (fun h => by cases h) (Nat.le_of_ble_eq_true rfl) ?_
  refine z_lload_n 0 dL_size_0 rfl rfl ?_
  refine z_iconst (v := 3) dL_size_1 rfl ?_
  refine z_lshr dL_size_2 ?_
  refine z_ldc2 zw_786 dL_size_3 ?_
  refine z_land dL_size_6 ?_
  refine z_l2i dL_size_7 rfl ?_
  exact z_ireturn ⟨rfl, _, rfl, h⟩ rfl (Nat.le_of_ble_eq_true rfl) (Nat.le_of_ble_eq_true rfl) dL_size_8
set_option maxRecDepth 20000 in
set_option maxHeartbeats 4000000 in
theorem w_L_its {E : zE} {g0 : Int64} {l2 : Int32} {l3 : Int32} {S : zS} {Q : Int32 → zS → Prop} {X : String → zS → Prop} (h : p_L_its E g0 l2 l3 S Q X) : zM E yL_its cL_its 5 (some .int) ({ frames := 1, cells := 0, slots := 0, locals := 21 } : Room) [.long g0, .int l2, .int l3] S (qI Q) X := by
  unfold p_L_its at h
  refine zM_of RL false (by decide) rfl (fun h => by cases h) (Nat.le_of_ble_eq_true rfl) ?_
  refine z_iload_n 2 dL_its_0 rfl rfl ?_
  refine z_lload_n 0 dL_its_1 rfl rfl ?_
  refine z_callSI (st := [.int l3]) (w_L_size h) zw_789 zw_787 zw_788 zw_29 zy_L_size rfl rfl ⟨Nat.le_of_ble_eq_true rfl, Nat.le_of_ble_eq_true rfl⟩ ⟨(Nat.le_of_ble_eq_true rfl), (Nat.le_of_ble_eq_true rfl)⟩ (Nat.le_of_ble_eq_true rfl) dL_its_2 (fun _ _ hx => hx.elim) (fun r2 S1 h => ?_)
  refine z_widen (k' := 0) (n' := 0) (Nat.le_refl _) (Nat.le_refl _) ?_
  refine z_iconst (v := 1) dL_its_5 rfl ?_
  refine z_isub dL_its_6 ?_
  refine z_icmp_ne 24 dL_its_7 (by decide) (fun c4 => ?_) (fun c4 => ?_)
  · have h := h.1 c4
    refine z_bipush (v := 6) dL_its_24 rfl ?_
    refine z_bipush (v := 6) dL_its_26 rfl ?_
    refine z_iload_n 2 dL_its_28 rfl rfl ?_
    refine z_imul dL_its_29 ?_
    refine z_iadd dL_its_30 ?_
    refine z_istore (lv' := [(4, .int (6 + (6 * l3))), (0, .long g0), (2, .int l2), (3, .int l3)]) dL_its_31 (Nat.le_of_ble_eq_true rfl) rfl ?_
    refine z_lload_n 1 dL_its_33 rfl rfl ?_
    refine z_iload 0 dL_its_34 rfl ?_
    refine z_lshr dL_its_36 ?_
    refine z_ldc2 zw_793 dL_its_37 ?_
    refine z_land dL_its_40 ?_
    refine z_l2i dL_its_41 rfl ?_
    exact z_ireturn ⟨rfl, _, rfl, h⟩ rfl (Nat.le_of_ble_eq_true rfl) (Nat.le_of_ble_eq_true rfl) dL_its_42
  · have h := h.2 c4
    refine z_iload_n 1 dL_its_10 rfl rfl ?_
    refine z_if_le 24 dL_its_11 (by decide) (fun c3 => ?_) (fun c3 => ?_)
    · have h := h.1 c3
      refine z_bipush (v := 6) dL_its_24 rfl ?_
      refine z_bipush (v := 6) dL_its_26 rfl ?_
      refine z_iload_n 2 dL_its_28 rfl rfl ?_
      refine z_imul dL_its_29 ?_
      refine z_iadd dL_its_30 ?_
      refine z_istore (lv' := [(4, .int (6 + (6 * l3))), (0, .long g0), (2, .int l2), (3, .int l3)]) dL_its_31 (Nat.le_of_ble_eq_true rfl) rfl ?_
      refine z_lload_n 1 dL_its_33 rfl rfl ?_
      refine z_iload 0 dL_its_34 rfl ?_
      refine z_lshr dL_its_36 ?_
      refine z_ldc2 zw_793 dL_its_37 ?_
      refine z_land dL_its_40 ?_
      refine z_l2i dL_its_41 rfl ?_
      exact z_ireturn ⟨rfl, _, rfl, h⟩ rfl (Nat.le_of_ble_eq_true rfl) (Nat.le_of_ble_eq_true rfl) dL_its_42
    · have h := h.2 c3
      refine z_bipush (v := 24) dL_its_14 rfl ?_
      refine z_bipush (v := 6) dL_its_16 rfl ?_
      refine z_iload_n 1 dL_its_18 rfl rfl ?_
      refine z_imul dL_its_19 ?_
      refine z_iadd dL_its_20 ?_
      refine z_goto 31 dL_its_21 (by decide) ?_
      refine z_istore (lv' := [(4, .int (24 + (6 * l2))), (0, .long g0), (2, .int l2), (3, .int l3)]) dL_its_31 (Nat.le_of_ble_eq_true rfl) rfl ?_
      refine z_lload_n 1 dL_its_33 rfl rfl ?_
      refine z_iload 0 dL_its_34 rfl ?_
      refine z_lshr dL_its_36 ?_
      refine z_ldc2 zw_793 dL_its_37 ?_
      refine z_land dL_its_40 ?_
      refine z_l2i dL_its_41 rfl ?_
      exact z_ireturn ⟨rfl, _, rfl, h⟩ rfl (Nat.le_of_ble_eq_true rfl) (Nat.le_of_ble_eq_true rfl) dL_its_42
set_option maxRecDepth 20000 in
set_option maxHeartbeats 4000000 in
theorem w_L_behind_L6 {E : zE} {K39 : Int32 → zS → Prop} {Q : Int32 → zS → Prop} {X : String → zS → Prop} (hK39 : ∀ (l4 : Int32) (S : zS), K39 l4 S → zJ E (RL, cL_behind, 6, (some .int), false, [], zTr) ({ frames := 2, cells := 0, slots := 0, locals := 47 } : Room) (zq (qI Q)) (zx X) 39 [(4, .int l4)] [] [] S 0 0) : ∀ (m6 : Nat) (g1 : Int64) (l3 : Int32) (l4 : Int32) (l5 : Int32) (S : zS), p_L_behind_L6 E K39 Q X m6 g1 l3 l4 l5 S → zJ E (RL, cL_behind, 6, (some .int), false, [], zTr) ({ frames := 2, cells := 0, slots := 0, locals := 47 } : Room) (zq (qI Q)) (zx X) 6 [(1, .long g1), (3, .int l3), (4, .int l4), (5, .int l5)] [] [] S 0 0 := by
  intro m6
  induction m6 with
  | zero => intro g1 l3 l4 l5 S h; exact (show False from h).elim
  | succ m6 ih =>
    intro g1 l3 l4 l5 S h
    unfold p_L_behind_L6 at h
    refine z_iload 3 dL_behind_6 rfl ?_
    refine z_lload_n 0 dL_behind_8 rfl rfl ?_
    refine z_callSI (st := [.int l5]) (w_L_size h) zw_789 zw_787 zw_788 zw_29 zy_L_size rfl rfl ⟨Nat.le_of_ble_eq_true rfl, Nat.le_of_ble_eq_true rfl⟩ ⟨(Nat.le_of_ble_eq_true rfl), (Nat.le_of_ble_eq_true rfl)⟩ (Nat.le_of_ble_eq_true rfl) dL_behind_9 (fun _ _ hx => hx.elim) (fun r2 S1 h => ?_)
    refine z_widen (k' := 0) (n' := 0) (Nat.le_refl _) (Nat.le_refl _) ?_
    refine z_icmp_ge 39 dL_behind_12 (by decide) (fun c9 => ?_) (fun c9 => ?_)
    · have h := h.1 c9
      refine z_sub [2] rfl ?_
      exact hK39 l4 S1 h
    · have h := h.2 c9
      refine z_iload 2 dL_behind_15 rfl ?_
      refine z_lload_n 0 dL_behind_17 rfl rfl ?_
      refine z_callSI (st := [.int l4]) (w_L_stageOf h) zw_785 zw_783 zw_784 zw_29 zy_L_stageOf rfl rfl ⟨Nat.le_of_ble_eq_true rfl, Nat.le_of_ble_eq_true rfl⟩ ⟨(Nat.le_of_ble_eq_true rfl), (Nat.le_of_ble_eq_true rfl)⟩ (Nat.le_of_ble_eq_true rfl) dL_behind_18 (fun _ _ hx => hx.elim) (fun r4 S3 h => ?_)
      refine z_widen (k' := 0) (n' := 0) (Nat.le_refl _) (Nat.le_refl _) ?_
      refine z_lload_n 0 dL_behind_21 rfl rfl ?_
      refine z_iload_n 1 dL_behind_22 rfl rfl ?_
      refine z_iload 3 dL_behind_23 rfl ?_
      refine z_callSI (st := [.int r4, .int l4]) (w_L_its h) zw_792 zw_790 zw_791 zw_29 zy_L_its rfl rfl ⟨Nat.le_of_ble_eq_true rfl, Nat.le_of_ble_eq_true rfl⟩ ⟨(Nat.le_of_ble_eq_true rfl), (Nat.le_of_ble_eq_true rfl)⟩ (Nat.le_of_ble_eq_true rfl) dL_behind_25 (fun _ _ hx => hx.elim) (fun r6 S5 h => ?_)
      refine z_widen (k' := 0) (n' := 0) (Nat.le_refl _) (Nat.le_refl _) ?_
      refine z_callSI (st := []) (w_L_changed h) zw_815 zw_813 zw_814 zw_29 zy_L_changed rfl rfl ⟨Nat.le_of_ble_eq_true rfl, Nat.le_of_ble_eq_true rfl⟩ ⟨(Nat.le_of_ble_eq_true rfl), (Nat.le_of_ble_eq_true rfl)⟩ (Nat.le_of_ble_eq_true rfl) dL_behind_28 (fun _ _ hx => hx.elim) (fun r8 S7 h => ?_)
      refine z_widen (k' := 0) (n' := 0) (Nat.le_refl _) (Nat.le_refl _) ?_
      refine z_istore (lv' := [(4, .int r8), (1, .long g1), (3, .int l3), (5, .int l5)]) dL_behind_31 (Nat.le_of_ble_eq_true rfl) rfl ?_
      refine z_iinc (v := (l5 + 1)) (lv' := [(5, .int (l5 + 1)), (4, .int r8), (1, .long g1), (3, .int l3)]) 3 dL_behind_33 rfl rfl (Nat.le_of_ble_eq_true rfl) rfl ?_
      refine z_goto 6 dL_behind_36 (by decide) ?_
      refine z_sub [2, 3, 1, 0] rfl ?_
      exact ih g1 l3 r8 (l5 + 1) S7 h
set_option maxRecDepth 20000 in
set_option maxHeartbeats 4000000 in
theorem w_L_behind {E : zE} {l0 : Int32} {g1 : Int64} {l3 : Int32} {S : zS} {Q : Int32 → zS → Prop} {X : String → zS → Prop} (h : p_L_behind E l0 g1 l3 S Q X) : zM E yL_behind cL_behind 6 (some .int) ({ frames := 2, cells := 0, slots := 0, locals := 47 } : Room) [.int l0, .long g1, .int l3] S (qI Q) X := by
  unfold p_L_behind at h
  refine zM_of RL false (by decide) rfl (fun h => by cases h) (Nat.le_of_ble_eq_true rfl) ?_
  refine z_iload_n 0 dL_behind_0 rfl rfl ?_
  refine z_istore (lv' := [(4, .int l0), (0, .int l0), (1, .long g1), (3, .int l3)]) dL_behind_1 (Nat.le_of_ble_eq_true rfl) rfl ?_
  refine z_iconst (v := 0) dL_behind_3 rfl ?_
  refine z_istore (lv' := [(5, .int 0), (4, .int l0), (0, .int l0), (1, .long g1), (3, .int l3)]) dL_behind_4 (Nat.le_of_ble_eq_true rfl) rfl ?_
  obtain ⟨m6, h⟩ := h
  refine z_sub [3, 4, 1, 0] rfl ?_
  refine w_L_behind_L6 (fun l4 S h => ?_) m6 g1 l3 l0 0 S h
  refine z_iload 0 dL_behind_39 rfl ?_
  exact z_ireturn ⟨rfl, _, rfl, h⟩ rfl (Nat.le_of_ble_eq_true rfl) (Nat.le_of_ble_eq_true rfl) dL_behind_41
set_option maxRecDepth 20000 in
set_option maxHeartbeats 4000000 in
theorem w_L_stageIn {E : zE} {a0 : Nat} {a1 : Nat} {l2 : Int32} {S : zS} {Q : Int32 → zS → Prop} {X : String → zS → Prop} (h : p_L_stageIn E a0 a1 l2 S Q X) : zM E yL_stageIn cL_stageIn 3 (some .int) ({ frames := 1, cells := 0, slots := 0, locals := 21 } : Room) [.ref a0, .ref a1, .int l2] S (qI Q) X := by
  unfold p_L_stageIn at h
  refine zM_of RL false (by decide) rfl (fun h => by cases h) (Nat.le_of_ble_eq_true rfl) ?_
  refine z_aload_n 0 dL_stageIn_0 rfl rfl ?_
  refine z_aload_n 1 dL_stageIn_1 rfl rfl ?_
  refine z_iload_n 2 dL_stageIn_2 rfl rfl ?_
  obtain ⟨hf1, h⟩ := h
  obtain ⟨j2, hj3, h⟩ := h
  refine z_iald (j := j2) hf1.1 hf1.2 hj3.1 hj3.2.1 hj3.2.2 dL_stageIn_3 ?_
  refine z_iconst (v := 3) dL_stageIn_4 rfl ?_
  refine z_ishr dL_stageIn_5 ?_
  refine z_iconst (v := 3) dL_stageIn_6 rfl ?_
  refine z_iand dL_stageIn_7 ?_
  obtain ⟨hf4, h⟩ := h
  obtain ⟨j5, hj6, h⟩ := h
  refine z_lald (j := j5) hf4.1 hf4.2 hj6.1 hj6.2.1 hj6.2.2 dL_stageIn_8 ?_
  refine z_callSI (st := []) (w_L_stageOf h) zw_785 zw_783 zw_784 zw_29 zy_L_stageOf rfl rfl ⟨Nat.le_of_ble_eq_true rfl, Nat.le_of_ble_eq_true rfl⟩ ⟨(Nat.le_of_ble_eq_true rfl), (Nat.le_of_ble_eq_true rfl)⟩ (Nat.le_of_ble_eq_true rfl) dL_stageIn_9 (fun _ _ hx => hx.elim) (fun r8 S7 h => ?_)
  refine z_widen (k' := 0) (n' := 0) (Nat.le_refl _) (Nat.le_refl _) ?_
  exact z_ireturn ⟨rfl, _, rfl, h⟩ rfl (Nat.le_of_ble_eq_true rfl) (Nat.le_of_ble_eq_true rfl) dL_stageIn_12
set_option maxRecDepth 20000 in
set_option maxHeartbeats 4000000 in
theorem w_L_lay_L46 {E : zE} {K99 : Nat → Int32 → Nat → Int32 → Int32 → Int32 → zS → Prop} {Q : Int32 → zS → Prop} {X : String → zS → Prop} (hK99 : ∀ (a0 : Nat) (l1 : Int32) (a2 : Nat) (l3 : Int32) (l4 : Int32) (l5 : Int32) (S : zS), K99 a0 l1 a2 l3 l4 l5 S → zJ E (RL, cL_lay, 9, (some .int), false, [], zTr) ({ frames := 2, cells := 0, slots := 0, locals := 47 } : Room) (zq (qI Q)) (zx X) 99 [(0, .ref a0), (1, .int l1), (2, .ref a2), (3, .int l3), (4, .int l4), (5, .int l5)] [] [] S 0 0) : ∀ (m46 : Nat) (a0 : Nat) (l1 : Int32) (a2 : Nat) (l3 : Int32) (l4 : Int32) (l5 : Int32) (g6 : Int64) (l8 : Int32) (S : zS), p_L_lay_L46 E K99 Q X m46 a0 l1 a2 l3 l4 l5 g6 l8 S → zJ E (RL, cL_lay, 9, (some .int), false, [], zTr) ({ frames := 2, cells := 0, slots := 0, locals := 47 } : Room) (zq (qI Q)) (zx X) 46 [(0, .ref a0), (1, .int l1), (2, .ref a2), (3, .int l3), (4, .int l4), (5, .int l5), (6, .long g6), (8, .int l8)] [] [] S 0 0 := by
  intro m46
  induction m46 with
  | zero => intro a0 l1 a2 l3 l4 l5 g6 l8 S h; exact (show False from h).elim
  | succ m46 ih =>
    intro a0 l1 a2 l3 l4 l5 g6 l8 S h
    unfold p_L_lay_L46 at h
    refine z_iload 7 dL_lay_46 rfl ?_
    refine z_lload 6 dL_lay_48 rfl ?_
    refine z_callSI (st := [.int l8]) (w_L_size h) zw_789 zw_787 zw_788 zw_29 zy_L_size rfl rfl ⟨Nat.le_of_ble_eq_true rfl, Nat.le_of_ble_eq_true rfl⟩ ⟨(Nat.le_of_ble_eq_true rfl), (Nat.le_of_ble_eq_true rfl)⟩ (Nat.le_of_ble_eq_true rfl) dL_lay_50 (fun _ _ hx => hx.elim) (fun r12 S11 h => ?_)
    refine z_widen (k' := 0) (n' := 0) (Nat.le_refl _) (Nat.le_refl _) ?_
    refine z_icmp_ge 99 dL_lay_53 (by decide) (fun c25 => ?_) (fun c25 => ?_)
    · have h := h.1 c25
      refine z_sub [0, 1, 2, 3, 4, 5] rfl ?_
      exact hK99 a0 l1 a2 l3 l4 l5 S11 h
    · have h := h.2 c25
      refine z_iload 4 dL_lay_56 rfl ?_
      refine z_lload 6 dL_lay_58 rfl ?_
      refine z_callSI (st := [.int l4]) (w_L_stageOf h) zw_785 zw_783 zw_784 zw_29 zy_L_stageOf rfl rfl ⟨Nat.le_of_ble_eq_true rfl, Nat.le_of_ble_eq_true rfl⟩ ⟨(Nat.le_of_ble_eq_true rfl), (Nat.le_of_ble_eq_true rfl)⟩ (Nat.le_of_ble_eq_true rfl) dL_lay_60 (fun _ _ hx => hx.elim) (fun r14 S13 h => ?_)
      refine z_widen (k' := 0) (n' := 0) (Nat.le_refl _) (Nat.le_refl _) ?_
      refine z_lload 6 dL_lay_63 rfl ?_
      refine z_iload_n 1 dL_lay_65 rfl rfl ?_
      refine z_iconst (v := 5) dL_lay_66 rfl ?_
      refine z_iconst (v := 4) dL_lay_67 rfl ?_
      refine z_iload 5 dL_lay_68 rfl ?_
      refine z_imul dL_lay_70 ?_
      refine z_iadd dL_lay_71 ?_
      refine z_ishr dL_lay_72 ?_
      refine z_iconst (v := 3) dL_lay_73 rfl ?_
      refine z_iand dL_lay_74 ?_
      refine z_iload 7 dL_lay_75 rfl ?_
      refine z_callSI (st := [.int r14, .int l4]) (w_L_its h) zw_792 zw_790 zw_791 zw_29 zy_L_its rfl rfl ⟨Nat.le_of_ble_eq_true rfl, Nat.le_of_ble_eq_true rfl⟩ ⟨(Nat.le_of_ble_eq_true rfl), (Nat.le_of_ble_eq_true rfl)⟩ (Nat.le_of_ble_eq_true rfl) dL_lay_77 (fun _ _ hx => hx.elim) (fun r16 S15 h => ?_)
      refine z_widen (k' := 0) (n' := 0) (Nat.le_refl _) (Nat.le_refl _) ?_
      refine z_callSI (st := []) (w_L_changed h) zw_815 zw_813 zw_814 zw_29 zy_L_changed rfl rfl ⟨Nat.le_of_ble_eq_true rfl, Nat.le_of_ble_eq_true rfl⟩ ⟨(Nat.le_of_ble_eq_true rfl), (Nat.le_of_ble_eq_true rfl)⟩ (Nat.le_of_ble_eq_true rfl) dL_lay_80 (fun _ _ hx => hx.elim) (fun r18 S17 h => ?_)
      refine z_widen (k' := 0) (n' := 0) (Nat.le_refl _) (Nat.le_refl _) ?_
      refine z_istore (lv' := [(4, .int r18), (0, .ref a0), (1, .int l1), (2, .ref a2), (3, .int l3), (5, .int l5), (6, .long g6), (8, .int l8)]) dL_lay_83 (Nat.le_of_ble_eq_true rfl) rfl ?_
      refine z_aload_n 3 dL_lay_85 rfl rfl ?_
      refine z_iload_n 4 dL_lay_86 rfl rfl ?_
      refine z_iload 0 dL_lay_87 rfl ?_
      obtain ⟨hf19, h⟩ := h
      obtain ⟨j20, hj21, h⟩ := h
      have h := h _ rfl
      refine z_iast (j := j20) hf19.1 hf19.2 hj21.1 hj21.2.1 hj21.2.2 dL_lay_89 ?_
      obtain ⟨S22, hS23⟩ : ∃ z, z = sA S17 a2 j20 r18 := ⟨_, rfl⟩
      rw [← hS23] at h ⊢
      have hf19 : a2 ∈ gL S22 ∧ gK S22 a2 = 12 := by rw [hS23]; exact hf19
      refine z_iinc (v := (l3 + 1)) (lv' := [(3, .int (l3 + 1)), (4, .int r18), (0, .ref a0), (1, .int l1), (2, .ref a2), (5, .int l5), (6, .long g6), (8, .int l8)]) 4 dL_lay_90 rfl rfl (Nat.le_of_ble_eq_true rfl) rfl ?_
      refine z_iinc (v := (l8 + 1)) (lv' := [(8, .int (l8 + 1)), (3, .int (l3 + 1)), (4, .int r18), (0, .ref a0), (1, .int l1), (2, .ref a2), (5, .int l5), (6, .long g6)]) 7 dL_lay_93 rfl rfl (Nat.le_of_ble_eq_true rfl) rfl ?_
      refine z_goto 46 dL_lay_96 (by decide) ?_
      refine z_sub [3, 4, 5, 1, 2, 6, 7, 0] rfl ?_
      exact ih a0 l1 a2 (l3 + 1) r18 l5 g6 (l8 + 1) S22 h
set_option maxRecDepth 20000 in
set_option maxHeartbeats 4000000 in
theorem w_L_lay_L20 {E : zE} {K105 : Int32 → zS → Prop} {Q : Int32 → zS → Prop} {X : String → zS → Prop} (hK105 : ∀ (l3 : Int32) (S : zS), K105 l3 S → zJ E (RL, cL_lay, 9, (some .int), false, [], zTr) ({ frames := 2, cells := 0, slots := 0, locals := 47 } : Room) (zq (qI Q)) (zx X) 105 [(3, .int l3)] [] [] S 0 0) : ∀ (m20 : Nat) (a0 : Nat) (l1 : Int32) (a2 : Nat) (l3 : Int32) (l4 : Int32) (l5 : Int32) (S : zS), p_L_lay_L20 E K105 Q X m20 a0 l1 a2 l3 l4 l5 S → zJ E (RL, cL_lay, 9, (some .int), false, [], zTr) ({ frames := 2, cells := 0, slots := 0, locals := 47 } : Room) (zq (qI Q)) (zx X) 20 [(0, .ref a0), (1, .int l1), (2, .ref a2), (3, .int l3), (4, .int l4), (5, .int l5)] [] [] S 0 0 := by
  intro m20
  induction m20 with
  | zero => intro a0 l1 a2 l3 l4 l5 S h; exact (show False from h).elim
  | succ m20 ih =>
    intro a0 l1 a2 l3 l4 l5 S h
    unfold p_L_lay_L20 at h
    refine z_iload 5 dL_lay_20 rfl ?_
    refine z_iload_n 1 dL_lay_22 rfl rfl ?_
    refine z_bipush (v := 7) dL_lay_23 rfl ?_
    refine z_iand dL_lay_25 ?_
    refine z_icmp_ge 105 dL_lay_26 (by decide) (fun c26 => ?_) (fun c26 => ?_)
    · have h := h.1 c26
      refine z_sub [3] rfl ?_
      exact hK105 l3 S h
    · have h := h.2 c26
      refine z_aload_n 0 dL_lay_29 rfl rfl ?_
      refine z_iload_n 1 dL_lay_30 rfl rfl ?_
      refine z_iconst (v := 3) dL_lay_31 rfl ?_
      refine z_iconst (v := 4) dL_lay_32 rfl ?_
      refine z_iload 5 dL_lay_33 rfl ?_
      refine z_imul dL_lay_35 ?_
      refine z_iadd dL_lay_36 ?_
      refine z_ishr dL_lay_37 ?_
      refine z_iconst (v := 3) dL_lay_38 rfl ?_
      refine z_iand dL_lay_39 ?_
      obtain ⟨hf8, h⟩ := h
      obtain ⟨j9, hj10, h⟩ := h
      refine z_lald (j := j9) hf8.1 hf8.2 hj10.1 hj10.2.1 hj10.2.2 dL_lay_40 ?_
      refine z_lstore (lv' := [(6, .long (gJ S a0 j9)), (0, .ref a0), (1, .int l1), (2, .ref a2), (3, .int l3), (4, .int l4), (5, .int l5)]) dL_lay_41 (Nat.le_of_ble_eq_true rfl) rfl ?_
      refine z_iconst (v := 0) dL_lay_43 rfl ?_
      refine z_istore (lv' := [(8, .int 0), (6, .long (gJ S a0 j9)), (0, .ref a0), (1, .int l1), (2, .ref a2), (3, .int l3), (4, .int l4), (5, .int l5)]) dL_lay_44 (Nat.le_of_ble_eq_true rfl) rfl ?_
      obtain ⟨m46, h⟩ := h
      refine z_sub [2, 3, 4, 5, 6, 7, 1, 0] rfl ?_
      refine w_L_lay_L46 (fun a0 l1 a2 l3 l4 l5 S h => ?_) m46 a0 l1 a2 l3 l4 l5 (gJ S a0 j9) 0 S h
      refine z_iinc (v := (l5 + 1)) (lv' := [(5, .int (l5 + 1)), (0, .ref a0), (1, .int l1), (2, .ref a2), (3, .int l3), (4, .int l4)]) 5 dL_lay_99 rfl rfl (Nat.le_of_ble_eq_true rfl) rfl ?_
      refine z_goto 20 dL_lay_102 (by decide) ?_
      refine z_sub [1, 2, 3, 4, 5, 0] rfl ?_
      exact ih a0 l1 a2 l3 l4 (l5 + 1) S h
set_option maxRecDepth 20000 in
set_option maxHeartbeats 4000000 in
theorem w_L_lay {E : zE} {a0 : Nat} {l1 : Int32} {a2 : Nat} {S : zS} {Q : Int32 → zS → Prop} {X : String → zS → Prop} (h : p_L_lay E a0 l1 a2 S Q X) : zM E yL_lay cL_lay 9 (some .int) ({ frames := 2, cells := 0, slots := 0, locals := 47 } : Room) [.ref a0, .int l1, .ref a2] S (qI Q) X := by
  unfold p_L_lay at h
  refine zM_of RL false (by decide) rfl (fun h => by cases h) (Nat.le_of_ble_eq_true rfl) ?_
  refine z_iconst (v := 0) dL_lay_0 rfl ?_
  refine z_istore_n (lv' := [(3, .int 0), (0, .ref a0), (1, .int l1), (2, .ref a2)]) dL_lay_1 rfl (Nat.le_of_ble_eq_true rfl) rfl ?_
  refine z_aload_n 1 dL_lay_2 rfl rfl ?_
  refine z_iload_n 2 dL_lay_3 rfl rfl ?_
  refine z_iconst (v := 3) dL_lay_4 rfl ?_
  refine z_ishr dL_lay_5 ?_
  refine z_iconst (v := 3) dL_lay_6 rfl ?_
  refine z_iand dL_lay_7 ?_
  obtain ⟨hf1, h⟩ := h
  obtain ⟨j2, hj3, h⟩ := h
  refine z_lald (j := j2) hf1.1 hf1.2 hj3.1 hj3.2.1 hj3.2.2 dL_lay_8 ?_
  refine z_callSI (st := []) (w_L_stageOf h) zw_785 zw_783 zw_784 zw_29 zy_L_stageOf rfl rfl ⟨Nat.le_of_ble_eq_true rfl, Nat.le_of_ble_eq_true rfl⟩ ⟨(Nat.le_of_ble_eq_true rfl), (Nat.le_of_ble_eq_true rfl)⟩ (Nat.le_of_ble_eq_true rfl) dL_lay_9 (fun _ _ hx => hx.elim) (fun r5 S4 h => ?_)
  refine z_widen (k' := 0) (n' := 0) (Nat.le_refl _) (Nat.le_refl _) ?_
  refine z_callSI (st := []) (w_L_rounds h) zw_812 zw_810 zw_811 zw_29 zy_L_rounds rfl rfl ⟨Nat.le_of_ble_eq_true rfl, Nat.le_of_ble_eq_true rfl⟩ ⟨(Nat.le_of_ble_eq_true rfl), (Nat.le_of_ble_eq_true rfl)⟩ (Nat.le_of_ble_eq_true rfl) dL_lay_12 (fun _ _ hx => hx.elim) (fun r7 S6 h => ?_)
  refine z_widen (k' := 0) (n' := 0) (Nat.le_refl _) (Nat.le_refl _) ?_
  refine z_istore (lv' := [(4, .int r7), (3, .int 0), (0, .ref a0), (1, .int l1), (2, .ref a2)]) dL_lay_15 (Nat.le_of_ble_eq_true rfl) rfl ?_
  refine z_iconst (v := 0) dL_lay_17 rfl ?_
  refine z_istore (lv' := [(5, .int 0), (4, .int r7), (3, .int 0), (0, .ref a0), (1, .int l1), (2, .ref a2)]) dL_lay_18 (Nat.le_of_ble_eq_true rfl) rfl ?_
  obtain ⟨m20, h⟩ := h
  refine z_sub [3, 4, 5, 2, 1, 0] rfl ?_
  refine w_L_lay_L20 (fun l3 S h => ?_) m20 a0 l1 a2 0 r7 0 S6 h
  refine z_iload_n 0 dL_lay_105 rfl rfl ?_
  exact z_ireturn ⟨rfl, _, rfl, h⟩ rfl (Nat.le_of_ble_eq_true rfl) (Nat.le_of_ble_eq_true rfl) dL_lay_106
set_option maxRecDepth 20000 in
set_option maxHeartbeats 4000000 in
theorem w_L_repeat_L9 {E : zE} {K23 : Int32 → zS → Prop} {K31 : Nat → Int32 → Int32 → zS → Prop} {Q : Int32 → zS → Prop} {X : String → zS → Prop} (hK23 : ∀ (l2 : Int32) (S : zS), K23 l2 S → zJ E (RL, cL_repeat, 4, (some .int), false, [], zTr) ({ frames := 0, cells := 0, slots := 0, locals := 0 } : Room) (zq (qI Q)) (zx X) 23 [(2, .int l2)] [] [] S 0 0) (hK31 : ∀ (a0 : Nat) (l1 : Int32) (l2 : Int32) (S : zS), K31 a0 l1 l2 S → zJ E (RL, cL_repeat, 4, (some .int), false, [], zTr) ({ frames := 0, cells := 0, slots := 0, locals := 0 } : Room) (zq (qI Q)) (zx X) 31 [(0, .ref a0), (1, .int l1), (2, .int l2)] [] [] S 0 0) : ∀ (m9 : Nat) (a0 : Nat) (l1 : Int32) (l2 : Int32) (l3 : Int32) (S : zS), p_L_repeat_L9 E K23 K31 Q X m9 a0 l1 l2 l3 S → zJ E (RL, cL_repeat, 4, (some .int), false, [], zTr) ({ frames := 0, cells := 0, slots := 0, locals := 0 } : Room) (zq (qI Q)) (zx X) 9 [(0, .ref a0), (1, .int l1), (2, .int l2), (3, .int l3)] [] [] S 0 0 := by
  intro m9
  induction m9 with
  | zero => intro a0 l1 l2 l3 S h; exact (show False from h).elim
  | succ m9 ih =>
    intro a0 l1 l2 l3 S h
    unfold p_L_repeat_L9 at h
    refine z_iload_n 3 dL_repeat_9 rfl rfl ?_
    refine z_iload_n 2 dL_repeat_10 rfl rfl ?_
    refine z_icmp_ge 31 dL_repeat_11 (by decide) (fun c7 => ?_) (fun c7 => ?_)
    · have h := h.1 c7
      refine z_sub [0, 1, 2] rfl ?_
      exact hK31 a0 l1 l2 S h
    · have h := h.2 c7
      refine z_aload_n 0 dL_repeat_14 rfl rfl ?_
      refine z_iload_n 3 dL_repeat_15 rfl rfl ?_
      obtain ⟨hf1, h⟩ := h
      obtain ⟨j2, hj3, h⟩ := h
      refine z_iald (j := j2) hf1.1 hf1.2 hj3.1 hj3.2.1 hj3.2.2 dL_repeat_16 ?_
      refine z_aload_n 0 dL_repeat_17 rfl rfl ?_
      refine z_iload_n 2 dL_repeat_18 rfl rfl ?_
      obtain ⟨j4, hj5, h⟩ := h
      refine z_iald (j := j4) hf1.1 hf1.2 hj5.1 hj5.2.1 hj5.2.2 dL_repeat_19 ?_
      refine z_icmp_ne 25 dL_repeat_20 (by decide) (fun c6 => ?_) (fun c6 => ?_)
      · have h := h.1 c6
        refine z_iinc (v := (l3 + 1)) (lv' := [(3, .int (l3 + 1)), (0, .ref a0), (1, .int l1), (2, .int l2)]) 3 dL_repeat_25 rfl rfl (Nat.le_of_ble_eq_true rfl) rfl ?_
        refine z_goto 9 dL_repeat_28 (by decide) ?_
        refine z_sub [1, 2, 3, 0] rfl ?_
        exact ih a0 l1 l2 (l3 + 1) S h
      · have h := h.2 c6
        refine z_sub [2] rfl ?_
        exact hK23 l2 S h
set_option maxRecDepth 20000 in
set_option maxHeartbeats 4000000 in
theorem w_L_repeat_L2 {E : zE} {K23 : Int32 → zS → Prop} {K37 : zS → Prop} {Q : Int32 → zS → Prop} {X : String → zS → Prop} (hK23 : ∀ (l2 : Int32) (S : zS), K23 l2 S → zJ E (RL, cL_repeat, 4, (some .int), false, [], zTr) ({ frames := 0, cells := 0, slots := 0, locals := 0 } : Room) (zq (qI Q)) (zx X) 23 [(2, .int l2)] [] [] S 0 0) (hK37 : ∀  (S : zS), K37  S → zJ E (RL, cL_repeat, 4, (some .int), false, [], zTr) ({ frames := 0, cells := 0, slots := 0, locals := 0 } : Room) (zq (qI Q)) (zx X) 37 [] [] [] S 0 0) : ∀ (m2 : Nat) (a0 : Nat) (l1 : Int32) (l2 : Int32) (S : zS), p_L_repeat_L2 E K23 K37 Q X m2 a0 l1 l2 S → zJ E (RL, cL_repeat, 4, (some .int), false, [], zTr) ({ frames := 0, cells := 0, slots := 0, locals := 0 } : Room) (zq (qI Q)) (zx X) 2 [(0, .ref a0), (1, .int l1), (2, .int l2)] [] [] S 0 0 := by
  intro m2
  induction m2 with
  | zero => intro a0 l1 l2 S h; exact (show False from h).elim
  | succ m2 ih =>
    intro a0 l1 l2 S h
    unfold p_L_repeat_L2 at h
    refine z_iload_n 2 dL_repeat_2 rfl rfl ?_
    refine z_iload_n 1 dL_repeat_3 rfl rfl ?_
    refine z_icmp_ge 37 dL_repeat_4 (by decide) (fun c8 => ?_) (fun c8 => ?_)
    · have h := h.1 c8
      refine z_sub [] rfl ?_
      exact hK37 S h
    · have h := h.2 c8
      refine z_iconst (v := 0) dL_repeat_7 rfl ?_
      refine z_istore_n (lv' := [(3, .int 0), (0, .ref a0), (1, .int l1), (2, .int l2)]) dL_repeat_8 rfl (Nat.le_of_ble_eq_true rfl) rfl ?_
      obtain ⟨m9, h⟩ := h
      refine z_sub [1, 2, 3, 0] rfl ?_
      refine w_L_repeat_L9 (fun l2 S h => ?_) (fun a0 l1 l2 S h => ?_) m9 a0 l1 l2 0 S h
      · exact hK23 l2 S h
      · refine z_iinc (v := (l2 + 1)) (lv' := [(2, .int (l2 + 1)), (0, .ref a0), (1, .int l1)]) 2 dL_repeat_31 rfl rfl (Nat.le_of_ble_eq_true rfl) rfl ?_
        refine z_goto 2 dL_repeat_34 (by decide) ?_
        refine z_sub [1, 2, 0] rfl ?_
        exact ih a0 l1 (l2 + 1) S h
set_option maxRecDepth 20000 in
set_option maxHeartbeats 4000000 in
theorem w_L_repeat {E : zE} {a0 : Nat} {l1 : Int32} {S : zS} {Q : Int32 → zS → Prop} {X : String → zS → Prop} (h : p_L_repeat E a0 l1 S Q X) : zM E yL_repeat cL_repeat 4 (some .int) ({ frames := 0, cells := 0, slots := 0, locals := 0 } : Room) [.ref a0, .int l1] S (qI Q) X := by
  unfold p_L_repeat at h
  refine zM_of RL false (by decide) rfl (fun h => by cases h) (Nat.le_of_ble_eq_true rfl) ?_
  refine z_iconst (v := 1) dL_repeat_0 rfl ?_
  refine z_istore_n (lv' := [(2, .int 1), (0, .ref a0), (1, .int l1)]) dL_repeat_1 rfl (Nat.le_of_ble_eq_true rfl) rfl ?_
  obtain ⟨m2, h⟩ := h
  refine z_sub [1, 2, 0] rfl ?_
  refine w_L_repeat_L2 (fun l2 S h => ?_) (fun S h => ?_) m2 a0 l1 1 S h
  · refine z_iload_n 0 dL_repeat_23 rfl rfl ?_
    exact z_ireturn ⟨rfl, _, rfl, h⟩ rfl (Nat.le_of_ble_eq_true rfl) (Nat.le_of_ble_eq_true rfl) dL_repeat_24
  · refine z_iconst (v := (-1)) dL_repeat_37 rfl ?_
    exact z_ireturn ⟨rfl, _, rfl, h⟩ rfl (Nat.le_of_ble_eq_true rfl) (Nat.le_of_ble_eq_true rfl) dL_repeat_38
set_option maxRecDepth 20000 in
set_option maxHeartbeats 4000000 in
theorem w_L_isSound {E : zE} {a0 : Nat} {l1 : Int32} {a2 : Nat} {S : zS} {Q : Int32 → zS → Prop} {X : String → zS → Prop} (h : p_L_isSound E a0 l1 a2 S Q X) : zM E yL_isSound cL_isSound 4 (some .boolean) ({ frames := 3, cells := 0, slots := 0, locals := 75 } : Room) [.ref a0, .int l1, .ref a2] S (qI Q) X := by
  unfold p_L_isSound at h
  refine zM_of RL false (by decide) rfl (fun h => by cases h) (Nat.le_of_ble_eq_true rfl) ?_
  refine z_aload_n 0 dL_isSound_0 rfl rfl ?_
  refine z_iload_n 1 dL_isSound_1 rfl rfl ?_
  refine z_aload_n 2 dL_isSound_2 rfl rfl ?_
  refine z_callSI (st := []) (w_L_lay h) zw_809 zw_807 zw_808 zw_29 zy_L_lay rfl rfl ⟨Nat.le_of_ble_eq_true rfl, Nat.le_of_ble_eq_true rfl⟩ ⟨(Nat.le_of_ble_eq_true rfl), (Nat.le_of_ble_eq_true rfl)⟩ (Nat.le_of_ble_eq_true rfl) dL_isSound_3 (fun _ _ hx => hx.elim) (fun r2 S1 h => ?_)
  refine z_widen (k' := 0) (n' := 0) (Nat.le_refl _) (Nat.le_refl _) ?_
  refine z_istore_n (lv' := [(3, .int r2), (0, .ref a0), (1, .int l1), (2, .ref a2)]) dL_isSound_6 rfl (Nat.le_of_ble_eq_true rfl) rfl ?_
  refine z_aload_n 3 dL_isSound_7 rfl rfl ?_
  refine z_iload_n 0 dL_isSound_8 rfl rfl ?_
  refine z_callSI (st := []) (w_L_repeat h) zw_821 zw_819 zw_820 zw_29 zy_L_repeat rfl rfl ⟨Nat.le_of_ble_eq_true rfl, Nat.le_of_ble_eq_true rfl⟩ ⟨(Nat.le_of_ble_eq_true rfl), (Nat.le_of_ble_eq_true rfl)⟩ (Nat.le_of_ble_eq_true rfl) dL_isSound_9 (fun _ _ hx => hx.elim) (fun r4 S3 h => ?_)
  refine z_widen (k' := 0) (n' := 0) (Nat.le_refl _) (Nat.le_refl _) ?_
  refine z_if_ge 40 dL_isSound_12 (by decide) (fun c19 => ?_) (fun c19 => ?_)
  · have h := h.1 c19
    refine z_iconst (v := 0) dL_isSound_40 rfl ?_
    obtain ⟨hz5, h⟩ := h
    exact z_zreturn ⟨rfl, _, rfl, h⟩ rfl (zbn hz5) (Nat.le_of_ble_eq_true rfl) (Nat.le_of_ble_eq_true rfl) dL_isSound_41
  · have h := h.2 c19
    refine z_aload_n 3 dL_isSound_15 rfl rfl ?_
    refine z_iload_n 0 dL_isSound_16 rfl rfl ?_
    refine z_iconst (v := 1) dL_isSound_17 rfl ?_
    refine z_isub dL_isSound_18 ?_
    obtain ⟨hf6, h⟩ := h
    obtain ⟨j7, hj8, h⟩ := h
    refine z_iald (j := j7) hf6.1 hf6.2 hj8.1 hj8.2.1 hj8.2.2 dL_isSound_19 ?_
    refine z_aload_n 1 dL_isSound_20 rfl rfl ?_
    refine z_iload_n 2 dL_isSound_21 rfl rfl ?_
    refine z_iconst (v := 3) dL_isSound_22 rfl ?_
    refine z_ishr dL_isSound_23 ?_
    refine z_iconst (v := 3) dL_isSound_24 rfl ?_
    refine z_iand dL_isSound_25 ?_
    obtain ⟨hf9, h⟩ := h
    obtain ⟨j10, hj11, h⟩ := h
    refine z_lald (j := j10) hf9.1 hf9.2 hj11.1 hj11.2.1 hj11.2.2 dL_isSound_26 ?_
    refine z_callSI (st := [.int (gA S3 a2 j7)]) (w_L_stageOf h) zw_785 zw_783 zw_784 zw_29 zy_L_stageOf rfl rfl ⟨Nat.le_of_ble_eq_true rfl, Nat.le_of_ble_eq_true rfl⟩ ⟨(Nat.le_of_ble_eq_true rfl), (Nat.le_of_ble_eq_true rfl)⟩ (Nat.le_of_ble_eq_true rfl) dL_isSound_27 (fun _ _ hx => hx.elim) (fun r13 S12 h => ?_)
    refine z_widen (k' := 0) (n' := 0) (Nat.le_refl _) (Nat.le_refl _) ?_
    refine z_callSI (st := [.int (gA S3 a2 j7)]) (w_L_rounds h) zw_812 zw_810 zw_811 zw_29 zy_L_rounds rfl rfl ⟨Nat.le_of_ble_eq_true rfl, Nat.le_of_ble_eq_true rfl⟩ ⟨(Nat.le_of_ble_eq_true rfl), (Nat.le_of_ble_eq_true rfl)⟩ (Nat.le_of_ble_eq_true rfl) dL_isSound_30 (fun _ _ hx => hx.elim) (fun r15 S14 h => ?_)
    refine z_widen (k' := 0) (n' := 0) (Nat.le_refl _) (Nat.le_refl _) ?_
    refine z_icmp_ne 40 dL_isSound_33 (by decide) (fun c18 => ?_) (fun c18 => ?_)
    · have h := h.1 c18
      refine z_iconst (v := 0) dL_isSound_40 rfl ?_
      obtain ⟨hz16, h⟩ := h
      exact z_zreturn ⟨rfl, _, rfl, h⟩ rfl (zbn hz16) (Nat.le_of_ble_eq_true rfl) (Nat.le_of_ble_eq_true rfl) dL_isSound_41
    · have h := h.2 c18
      refine z_iconst (v := 1) dL_isSound_36 rfl ?_
      refine z_goto 41 dL_isSound_37 (by decide) ?_
      obtain ⟨hz17, h⟩ := h
      exact z_zreturn ⟨rfl, _, rfl, h⟩ rfl (zbn hz17) (Nat.le_of_ble_eq_true rfl) (Nat.le_of_ble_eq_true rfl) dL_isSound_41
set_option maxRecDepth 20000 in
set_option maxHeartbeats 4000000 in
theorem w_L_areIn_L2 {E : zE} {K13 : zS → Prop} {K21 : zS → Prop} {Q : Int32 → zS → Prop} {X : String → zS → Prop} (hK13 : ∀  (S : zS), K13  S → zJ E (RL, cL_areIn, 3, (some .boolean), false, [], zTr) ({ frames := 0, cells := 0, slots := 0, locals := 0 } : Room) (zq (qI Q)) (zx X) 13 [] [] [] S 0 0) (hK21 : ∀  (S : zS), K21  S → zJ E (RL, cL_areIn, 3, (some .boolean), false, [], zTr) ({ frames := 0, cells := 0, slots := 0, locals := 0 } : Room) (zq (qI Q)) (zx X) 21 [] [] [] S 0 0) : ∀ (m2 : Nat) (a0 : Nat) (l1 : Int32) (l2 : Int32) (S : zS), p_L_areIn_L2 E K13 K21 Q X m2 a0 l1 l2 S → zJ E (RL, cL_areIn, 3, (some .boolean), false, [], zTr) ({ frames := 0, cells := 0, slots := 0, locals := 0 } : Room) (zq (qI Q)) (zx X) 2 [(0, .ref a0), (1, .int l1), (2, .int l2)] [] [] S 0 0 := by
  intro m2
  induction m2 with
  | zero => intro a0 l1 l2 S h; exact (show False from h).elim
  | succ m2 ih =>
    intro a0 l1 l2 S h
    unfold p_L_areIn_L2 at h
    refine z_iload_n 2 dL_areIn_2 rfl rfl ?_
    refine z_iload_n 1 dL_areIn_3 rfl rfl ?_
    refine z_icmp_ge 21 dL_areIn_4 (by decide) (fun c5 => ?_) (fun c5 => ?_)
    · have h := h.1 c5
      refine z_sub [] rfl ?_
      exact hK21 S h
    · have h := h.2 c5
      refine z_aload_n 0 dL_areIn_7 rfl rfl ?_
      refine z_iload_n 2 dL_areIn_8 rfl rfl ?_
      obtain ⟨hf1, h⟩ := h
      obtain ⟨j2, hj3, h⟩ := h
      refine z_iald (j := j2) hf1.1 hf1.2 hj3.1 hj3.2.1 hj3.2.2 dL_areIn_9 ?_
      refine z_if_le 15 dL_areIn_10 (by decide) (fun c4 => ?_) (fun c4 => ?_)
      · have h := h.1 c4
        refine z_iinc (v := (l2 + 1)) (lv' := [(2, .int (l2 + 1)), (0, .ref a0), (1, .int l1)]) 2 dL_areIn_15 rfl rfl (Nat.le_of_ble_eq_true rfl) rfl ?_
        refine z_goto 2 dL_areIn_18 (by decide) ?_
        refine z_sub [1, 2, 0] rfl ?_
        exact ih a0 l1 (l2 + 1) S h
      · have h := h.2 c4
        refine z_sub [] rfl ?_
        exact hK13 S h
set_option maxRecDepth 20000 in
set_option maxHeartbeats 4000000 in
theorem w_L_areIn {E : zE} {a0 : Nat} {l1 : Int32} {S : zS} {Q : Int32 → zS → Prop} {X : String → zS → Prop} (h : p_L_areIn E a0 l1 S Q X) : zM E yL_areIn cL_areIn 3 (some .boolean) ({ frames := 0, cells := 0, slots := 0, locals := 0 } : Room) [.ref a0, .int l1] S (qI Q) X := by
  unfold p_L_areIn at h
  refine zM_of RL false (by decide) rfl (fun h => by cases h) (Nat.le_of_ble_eq_true rfl) ?_
  refine z_iconst (v := 0) dL_areIn_0 rfl ?_
  refine z_istore_n (lv' := [(2, .int 0), (0, .ref a0), (1, .int l1)]) dL_areIn_1 rfl (Nat.le_of_ble_eq_true rfl) rfl ?_
  obtain ⟨m2, h⟩ := h
  refine z_sub [1, 2, 0] rfl ?_
  refine w_L_areIn_L2 (fun S h => ?_) (fun S h => ?_) m2 a0 l1 0 S h
  · refine z_iconst (v := 0) dL_areIn_13 rfl ?_
    obtain ⟨hz6, h⟩ := h
    exact z_zreturn ⟨rfl, _, rfl, h⟩ rfl (zbn hz6) (Nat.le_of_ble_eq_true rfl) (Nat.le_of_ble_eq_true rfl) dL_areIn_14
  · refine z_iconst (v := 1) dL_areIn_21 rfl ?_
    obtain ⟨hz7, h⟩ := h
    exact z_zreturn ⟨rfl, _, rfl, h⟩ rfl (zbn hz7) (Nat.le_of_ble_eq_true rfl) (Nat.le_of_ble_eq_true rfl) dL_areIn_22
set_option maxRecDepth 20000 in
set_option maxHeartbeats 4000000 in
theorem w_L_takePlan {E : zE} {a0 : Nat} {l1 : Int32} {l2 : Int32} {S : zS} {Q : zS → Prop} {X : String → zS → Prop} (h : p_L_takePlan E a0 l1 l2 S Q X) : zM E yL_takePlan cL_takePlan 5 none ({ frames := 0, cells := 0, slots := 0, locals := 0 } : Room) [.ref a0, .int l1, .int l2] S (qV Q) X := by
  unfold p_L_takePlan at h
  refine zM_of RL false (by decide) rfl (fun h => by cases h) (Nat.le_of_ble_eq_true rfl) ?_
  refine z_aload_n 0 dL_takePlan_0 rfl rfl ?_
  refine z_iload_n 1 dL_takePlan_1 rfl rfl ?_
  obtain ⟨hf1, h⟩ := h
  obtain ⟨j2, hj3, h⟩ := h
  refine z_iald (j := j2) hf1.1 hf1.2 hj3.1 hj3.2.1 hj3.2.2 dL_takePlan_2 ?_
  refine z_iconst (v := 3) dL_takePlan_3 rfl ?_
  refine z_ishr dL_takePlan_4 ?_
  refine z_istore_n (lv' := [(3, .int ((gA S a0 j2) >>> ((3 : Int32) &&& 31))), (0, .ref a0), (1, .int l1), (2, .int l2)]) dL_takePlan_5 rfl (Nat.le_of_ble_eq_true rfl) rfl ?_
  refine z_iload_n 0 dL_takePlan_6 rfl rfl ?_
  refine z_iconst (v := 1) dL_takePlan_7 rfl ?_
  refine z_iconst (v := 2) dL_takePlan_8 rfl ?_
  refine z_iload_n 3 dL_takePlan_9 rfl rfl ?_
  refine z_imul dL_takePlan_10 ?_
  refine z_ishl dL_takePlan_11 ?_
  refine z_iconst (v := 1) dL_takePlan_12 rfl ?_
  refine z_isub dL_takePlan_13 ?_
  refine z_iand dL_takePlan_14 ?_
  refine z_top (fun x4 hx5 => ?_)
  have h := h x4 hx5
  refine z_istore (lv' := [(4, .int x4), (3, .int ((gA S a0 j2) >>> ((3 : Int32) &&& 31))), (0, .ref a0), (1, .int l1), (2, .int l2)]) dL_takePlan_15 (Nat.le_of_ble_eq_true rfl) rfl ?_
  refine z_aload_n 2 dL_takePlan_17 rfl rfl ?_
  refine z_iload_n 3 dL_takePlan_18 rfl rfl ?_
  refine z_aload_n 2 dL_takePlan_19 rfl rfl ?_
  refine z_iload_n 3 dL_takePlan_20 rfl rfl ?_
  obtain ⟨j6, hj7, h⟩ := h
  refine z_iald (j := j6) hf1.1 hf1.2 hj7.1 hj7.2.1 hj7.2.2 dL_takePlan_21 ?_
  refine z_bipush (v := 7) dL_takePlan_22 rfl ?_
  refine z_iand dL_takePlan_24 ?_
  refine z_iconst (v := 1) dL_takePlan_25 rfl ?_
  refine z_isub dL_takePlan_26 ?_
  refine z_bipush (v := 8) dL_takePlan_27 rfl ?_
  refine z_iload 0 dL_takePlan_29 rfl ?_
  refine z_iload_n 1 dL_takePlan_31 rfl rfl ?_
  refine z_iconst (v := 2) dL_takePlan_32 rfl ?_
  refine z_iload_n 4 dL_takePlan_33 rfl rfl ?_
  refine z_imul dL_takePlan_34 ?_
  refine z_iconst (v := 2) dL_takePlan_35 rfl ?_
  refine z_iadd dL_takePlan_36 ?_
  refine z_ishr dL_takePlan_37 ?_
  refine z_iconst (v := 2) dL_takePlan_38 rfl ?_
  refine z_iload_n 4 dL_takePlan_39 rfl rfl ?_
  refine z_imul dL_takePlan_40 ?_
  refine z_ishl dL_takePlan_41 ?_
  refine z_ior dL_takePlan_42 ?_
  refine z_imul dL_takePlan_43 ?_
  refine z_iadd dL_takePlan_44 ?_
  obtain ⟨j8, hj9, h⟩ := h
  have h := h _ rfl
  refine z_iast (j := j8) hf1.1 hf1.2 hj9.1 hj9.2.1 hj9.2.2 dL_takePlan_45 ?_
  obtain ⟨S10, hS11⟩ : ∃ z, z = sA S a0 j8 ((((gA S a0 j6) &&& 7) - 1) + (8 * (x4 ||| ((((gA S a0 j2) >>> ((3 : Int32) &&& 31)) >>> (((2 * l2) + 2) &&& 31)) <<< ((2 * l2) &&& 31))))) := ⟨_, rfl⟩
  rw [← hS11] at h ⊢
  have hf1 : a0 ∈ gL S10 ∧ gK S10 a0 = 12 := by rw [hS11]; exact hf1
  exact z_return ⟨rfl, rfl, h⟩ rfl (Nat.le_of_ble_eq_true rfl) (Nat.le_of_ble_eq_true rfl) dL_takePlan_46
set_option maxRecDepth 20000 in
set_option maxHeartbeats 4000000 in
theorem w_L_drop_L19 {E : zE} {K96 : Nat → Nat → Nat → Nat → Nat → Nat → Int32 → Int32 → zS → Prop} {Q : Int32 → zS → Prop} {X : String → zS → Prop} (hK96 : ∀ (a0 : Nat) (a1 : Nat) (a2 : Nat) (a3 : Nat) (a4 : Nat) (a5 : Nat) (l6 : Int32) (l7 : Int32) (S : zS), K96 a0 a1 a2 a3 a4 a5 l6 l7 S → zJ E (RL, cL_drop, 10, (some .int), false, [], zTr) ({ frames := 4, cells := 0, slots := 0, locals := 98 } : Room) (zq (qI Q)) (zx X) 96 [(0, .ref a0), (1, .ref a1), (2, .ref a2), (3, .ref a3), (4, .ref a4), (5, .ref a5), (6, .int l6), (7, .int l7)] [] [] S 0 0) : ∀ (m19 : Nat) (a0 : Nat) (a1 : Nat) (a2 : Nat) (a3 : Nat) (a4 : Nat) (a5 : Nat) (l6 : Int32) (l7 : Int32) (l8 : Int32) (S : zS), p_L_drop_L19 E K96 Q X m19 a0 a1 a2 a3 a4 a5 l6 l7 l8 S → zJ E (RL, cL_drop, 10, (some .int), false, [], zTr) ({ frames := 4, cells := 0, slots := 0, locals := 98 } : Room) (zq (qI Q)) (zx X) 19 [(0, .ref a0), (1, .ref a1), (2, .ref a2), (3, .ref a3), (4, .ref a4), (5, .ref a5), (6, .int l6), (7, .int l7), (8, .int l8)] [] [] S 0 0 := by
  intro m19
  induction m19 with
  | zero => intro a0 a1 a2 a3 a4 a5 l6 l7 l8 S h; exact (show False from h).elim
  | succ m19 ih =>
    intro a0 a1 a2 a3 a4 a5 l6 l7 l8 S h
    unfold p_L_drop_L19 at h
    refine z_iload 8 dL_drop_19 rfl ?_
    refine z_aload_n 2 dL_drop_21 rfl rfl ?_
    refine z_iload 7 dL_drop_22 rfl ?_
    obtain ⟨hf4, h⟩ := h
    obtain ⟨j5, hj6, h⟩ := h
    refine z_iald (j := j5) hf4.1 hf4.2 hj6.1 hj6.2.1 hj6.2.2 dL_drop_24 ?_
    refine z_bipush (v := 7) dL_drop_25 rfl ?_
    refine z_iand dL_drop_27 ?_
    refine z_icmp_ge 96 dL_drop_28 (by decide) (fun c26 => ?_) (fun c26 => ?_)
    · have h := h.1 c26
      refine z_sub [0, 1, 2, 3, 4, 5, 6, 7] rfl ?_
      exact hK96 a0 a1 a2 a3 a4 a5 l6 l7 S h
    · have h := h.2 c26
      refine z_aload_n 2 dL_drop_31 rfl rfl ?_
      refine z_iload 7 dL_drop_32 rfl ?_
      obtain ⟨j7, hj8, h⟩ := h
      refine z_iald (j := j7) hf4.1 hf4.2 hj8.1 hj8.2.1 hj8.2.2 dL_drop_34 ?_
      refine z_iconst (v := 3) dL_drop_35 rfl ?_
      refine z_iconst (v := 2) dL_drop_36 rfl ?_
      refine z_iload 8 dL_drop_37 rfl ?_
      refine z_imul dL_drop_39 ?_
      refine z_iadd dL_drop_40 ?_
      refine z_ishr dL_drop_41 ?_
      refine z_iconst (v := 3) dL_drop_42 rfl ?_
      refine z_iand dL_drop_43 ?_
      refine z_top (fun x9 hx10 => ?_)
      have h := h x9 hx10
      refine z_istore (lv' := [(9, .int x9), (0, .ref a0), (1, .ref a1), (2, .ref a2), (3, .ref a3), (4, .ref a4), (5, .ref a5), (6, .int l6), (7, .int l7), (8, .int l8)]) dL_drop_44 (Nat.le_of_ble_eq_true rfl) rfl ?_
      refine z_aload_n 4 dL_drop_46 rfl rfl ?_
      refine z_aload_n 1 dL_drop_47 rfl rfl ?_
      refine z_aload_n 2 dL_drop_48 rfl rfl ?_
      refine z_iload 0 dL_drop_49 rfl ?_
      refine z_callSI (st := [.ref a3]) (w_L_stageIn h) zw_800 zw_798 zw_799 zw_29 zy_L_stageIn rfl rfl ⟨Nat.le_of_ble_eq_true rfl, Nat.le_of_ble_eq_true rfl⟩ ⟨(Nat.le_of_ble_eq_true rfl), (Nat.le_of_ble_eq_true rfl)⟩ (Nat.le_of_ble_eq_true rfl) dL_drop_51 (fun _ _ hx => hx.elim) (fun r12 S11 h => ?_)
      refine z_widen (k' := 0) (n' := 0) (Nat.le_refl _) (Nat.le_refl _) ?_
      refine z_callSI (st := []) (w_L_areIn h) zw_803 zw_801 zw_802 zw_29 zy_L_areIn rfl rfl ⟨Nat.le_of_ble_eq_true rfl, Nat.le_of_ble_eq_true rfl⟩ ⟨(Nat.le_of_ble_eq_true rfl), (Nat.le_of_ble_eq_true rfl)⟩ (Nat.le_of_ble_eq_true rfl) dL_drop_54 (fun _ _ hx => hx.elim) (fun r14 S13 h => ?_)
      refine z_widen (k' := 0) (n' := 0) (Nat.le_refl _) (Nat.le_refl _) ?_
      refine z_if_eq 76 dL_drop_57 (by decide) (fun c25 => ?_) (fun c25 => ?_)
      · have h := h.1 c25
        refine z_aload_n 3 dL_drop_76 rfl rfl ?_
        refine z_iload 8 dL_drop_77 rfl ?_
        refine z_iload 9 dL_drop_79 rfl ?_
        refine z_callSV (st := []) (w_L_takePlan h) zw_824 zw_822 zw_823 zw_29 zy_L_takePlan rfl rfl ⟨Nat.le_of_ble_eq_true rfl, Nat.le_of_ble_eq_true rfl⟩ ⟨(Nat.le_of_ble_eq_true rfl), (Nat.le_of_ble_eq_true rfl)⟩ (Nat.le_of_ble_eq_true rfl) dL_drop_81 (fun _ _ hx => hx.elim) (fun S15 h => ?_)
        refine z_widen (k' := 0) (n' := 0) (Nat.le_refl _) (Nat.le_refl _) ?_
        refine z_iinc (v := (l8 + (-1))) (lv' := [(8, .int (l8 + (-1))), (9, .int x9), (0, .ref a0), (1, .ref a1), (2, .ref a2), (3, .ref a3), (4, .ref a4), (5, .ref a5), (6, .int l6), (7, .int l7)]) 9 dL_drop_84 rfl rfl (Nat.le_of_ble_eq_true rfl) rfl ?_
        refine z_iinc (v := (l6 + 1)) (lv' := [(6, .int (l6 + 1)), (8, .int (l8 + (-1))), (9, .int x9), (0, .ref a0), (1, .ref a1), (2, .ref a2), (3, .ref a3), (4, .ref a4), (5, .ref a5), (7, .int l7)]) 8 dL_drop_87 rfl rfl (Nat.le_of_ble_eq_true rfl) rfl ?_
        refine z_iinc (v := ((l8 + (-1)) + 1)) (lv' := [(8, .int ((l8 + (-1)) + 1)), (6, .int (l6 + 1)), (9, .int x9), (0, .ref a0), (1, .ref a1), (2, .ref a2), (3, .ref a3), (4, .ref a4), (5, .ref a5), (7, .int l7)]) 1 dL_drop_90 rfl rfl (Nat.le_of_ble_eq_true rfl) rfl ?_
        refine z_goto 19 dL_drop_93 (by decide) ?_
        refine z_sub [3, 4, 5, 6, 7, 8, 1, 9, 0] rfl ?_
        exact ih a0 a1 a2 a3 a4 a5 (l6 + 1) l7 ((l8 + (-1)) + 1) S15 h
      · have h := h.2 c25
        refine z_aload_n 1 dL_drop_60 rfl rfl ?_
        refine z_aload_n 2 dL_drop_61 rfl rfl ?_
        refine z_iload 0 dL_drop_62 rfl ?_
        obtain ⟨hf17, h⟩ := h
        obtain ⟨j18, hj19, h⟩ := h
        refine z_iald (j := j18) hf17.1 hf17.2 hj19.1 hj19.2.1 hj19.2.2 dL_drop_64 ?_
        refine z_aload 5 dL_drop_65 rfl ?_
        refine z_callSI (st := []) (w_L_isSound h) zw_806 zw_804 zw_805 zw_29 zy_L_isSound rfl rfl ⟨Nat.le_of_ble_eq_true rfl, Nat.le_of_ble_eq_true rfl⟩ ⟨(Nat.le_of_ble_eq_true rfl), (Nat.le_of_ble_eq_true rfl)⟩ (Nat.le_of_ble_eq_true rfl) dL_drop_67 (fun _ _ hx => hx.elim) (fun r21 S20 h => ?_)
        refine z_widen (k' := 0) (n' := 0) (Nat.le_refl _) (Nat.le_refl _) ?_
        refine z_if_eq 76 dL_drop_70 (by decide) (fun c24 => ?_) (fun c24 => ?_)
        · have h := h.1 c24
          refine z_aload_n 3 dL_drop_76 rfl rfl ?_
          refine z_iload 8 dL_drop_77 rfl ?_
          refine z_iload 9 dL_drop_79 rfl ?_
          refine z_callSV (st := []) (w_L_takePlan h) zw_824 zw_822 zw_823 zw_29 zy_L_takePlan rfl rfl ⟨Nat.le_of_ble_eq_true rfl, Nat.le_of_ble_eq_true rfl⟩ ⟨(Nat.le_of_ble_eq_true rfl), (Nat.le_of_ble_eq_true rfl)⟩ (Nat.le_of_ble_eq_true rfl) dL_drop_81 (fun _ _ hx => hx.elim) (fun S22 h => ?_)
          refine z_widen (k' := 0) (n' := 0) (Nat.le_refl _) (Nat.le_refl _) ?_
          refine z_iinc (v := (l8 + (-1))) (lv' := [(8, .int (l8 + (-1))), (9, .int x9), (0, .ref a0), (1, .ref a1), (2, .ref a2), (3, .ref a3), (4, .ref a4), (5, .ref a5), (6, .int l6), (7, .int l7)]) 9 dL_drop_84 rfl rfl (Nat.le_of_ble_eq_true rfl) rfl ?_
          refine z_iinc (v := (l6 + 1)) (lv' := [(6, .int (l6 + 1)), (8, .int (l8 + (-1))), (9, .int x9), (0, .ref a0), (1, .ref a1), (2, .ref a2), (3, .ref a3), (4, .ref a4), (5, .ref a5), (7, .int l7)]) 8 dL_drop_87 rfl rfl (Nat.le_of_ble_eq_true rfl) rfl ?_
          refine z_iinc (v := ((l8 + (-1)) + 1)) (lv' := [(8, .int ((l8 + (-1)) + 1)), (6, .int (l6 + 1)), (9, .int x9), (0, .ref a0), (1, .ref a1), (2, .ref a2), (3, .ref a3), (4, .ref a4), (5, .ref a5), (7, .int l7)]) 1 dL_drop_90 rfl rfl (Nat.le_of_ble_eq_true rfl) rfl ?_
          refine z_goto 19 dL_drop_93 (by decide) ?_
          refine z_sub [3, 4, 5, 6, 7, 8, 1, 9, 0] rfl ?_
          exact ih a0 a1 a2 a3 a4 a5 (l6 + 1) l7 ((l8 + (-1)) + 1) S22 h
        · have h := h.2 c24
          refine z_goto 90 dL_drop_73 (by decide) ?_
          refine z_iinc (v := (l8 + 1)) (lv' := [(8, .int (l8 + 1)), (9, .int x9), (0, .ref a0), (1, .ref a1), (2, .ref a2), (3, .ref a3), (4, .ref a4), (5, .ref a5), (6, .int l6), (7, .int l7)]) 9 dL_drop_90 rfl rfl (Nat.le_of_ble_eq_true rfl) rfl ?_
          refine z_goto 19 dL_drop_93 (by decide) ?_
          refine z_sub [2, 3, 4, 5, 6, 7, 8, 9, 0] rfl ?_
          exact ih a0 a1 a2 a3 a4 a5 l6 l7 (l8 + 1) S20 h
set_option maxRecDepth 20000 in
set_option maxHeartbeats 4000000 in
theorem w_L_drop_L9 {E : zE} {K102 : Nat → Int32 → zS → Prop} {Q : Int32 → zS → Prop} {X : String → zS → Prop} (hK102 : ∀ (a5 : Nat) (l6 : Int32) (S : zS), K102 a5 l6 S → zJ E (RL, cL_drop, 10, (some .int), false, [], zTr) ({ frames := 4, cells := 0, slots := 0, locals := 98 } : Room) (zq (qI Q)) (zx X) 102 [(5, .ref a5), (6, .int l6)] [] [] S 0 0) : ∀ (m9 : Nat) (a0 : Nat) (a1 : Nat) (a2 : Nat) (a3 : Nat) (a4 : Nat) (a5 : Nat) (l6 : Int32) (l7 : Int32) (S : zS), p_L_drop_L9 E K102 Q X m9 a0 a1 a2 a3 a4 a5 l6 l7 S → zJ E (RL, cL_drop, 10, (some .int), false, [], zTr) ({ frames := 4, cells := 0, slots := 0, locals := 98 } : Room) (zq (qI Q)) (zx X) 9 [(0, .ref a0), (1, .ref a1), (2, .ref a2), (3, .ref a3), (4, .ref a4), (5, .ref a5), (6, .int l6), (7, .int l7)] [] [] S 0 0 := by
  intro m9
  induction m9 with
  | zero => intro a0 a1 a2 a3 a4 a5 l6 l7 S h; exact (show False from h).elim
  | succ m9 ih =>
    intro a0 a1 a2 a3 a4 a5 l6 l7 S h
    unfold p_L_drop_L9 at h
    refine z_iload 7 dL_drop_9 rfl ?_
    refine z_bipush (v := 61) dL_drop_11 rfl ?_
    refine z_icmp_ge 102 dL_drop_13 (by decide) (fun c27 => ?_) (fun c27 => ?_)
    · have h := h.1 c27
      refine z_sub [5, 6] rfl ?_
      exact hK102 a5 l6 S h
    · have h := h.2 c27
      refine z_iconst (v := 0) dL_drop_16 rfl ?_
      refine z_istore (lv' := [(8, .int 0), (0, .ref a0), (1, .ref a1), (2, .ref a2), (3, .ref a3), (4, .ref a4), (5, .ref a5), (6, .int l6), (7, .int l7)]) dL_drop_17 (Nat.le_of_ble_eq_true rfl) rfl ?_
      obtain ⟨m19, h⟩ := h
      refine z_sub [1, 2, 3, 4, 5, 6, 7, 8, 0] rfl ?_
      refine w_L_drop_L19 (fun a0 a1 a2 a3 a4 a5 l6 l7 S h => ?_) m19 a0 a1 a2 a3 a4 a5 l6 l7 0 S h
      refine z_iinc (v := (l7 + 1)) (lv' := [(7, .int (l7 + 1)), (0, .ref a0), (1, .ref a1), (2, .ref a2), (3, .ref a3), (4, .ref a4), (5, .ref a5), (6, .int l6)]) 7 dL_drop_96 rfl rfl (Nat.le_of_ble_eq_true rfl) rfl ?_
      refine z_goto 9 dL_drop_99 (by decide) ?_
      refine z_sub [1, 2, 3, 4, 5, 6, 7, 0] rfl ?_
      exact ih a0 a1 a2 a3 a4 a5 l6 (l7 + 1) S h
set_option maxRecDepth 20000 in
set_option maxHeartbeats 4000000 in
theorem w_L_drop {E : zE} {a0 : Nat} {a1 : Nat} {a2 : Nat} {a3 : Nat} {a4 : Nat} {a5 : Nat} {S : zS} {Q : Int32 → zS → Prop} {X : String → zS → Prop} (h : p_L_drop E a0 a1 a2 a3 a4 a5 S Q X) : zM E yL_drop cL_drop 10 (some .int) ({ frames := 4, cells := 0, slots := 0, locals := 98 } : Room) [.ref a0, .ref a1, .ref a2, .ref a3, .ref a4, .ref a5] S (qI Q) X := by
  unfold p_L_drop at h
  refine zM_of RL false (by decide) rfl (fun h => by cases h) (Nat.le_of_ble_eq_true rfl) ?_
  refine z_iconst (v := 0) dL_drop_0 rfl ?_
  refine z_istore (lv' := [(6, .int 0), (0, .ref a0), (1, .ref a1), (2, .ref a2), (3, .ref a3), (4, .ref a4), (5, .ref a5)]) dL_drop_1 (Nat.le_of_ble_eq_true rfl) rfl ?_
  refine z_aload 6 dL_drop_3 rfl ?_
  refine z_iconst (v := 2) dL_drop_5 rfl ?_
  obtain ⟨hf1, h⟩ := h
  obtain ⟨hj3, h⟩ := h
  refine z_iald (j := 2) hf1.1 hf1.2 rfl hj3.1 hj3.2 dL_drop_6 ?_
  refine z_istore (lv' := [(7, .int (gA S a5 2)), (6, .int 0), (0, .ref a0), (1, .ref a1), (2, .ref a2), (3, .ref a3), (4, .ref a4), (5, .ref a5)]) dL_drop_7 (Nat.le_of_ble_eq_true rfl) rfl ?_
  obtain ⟨m9, h⟩ := h
  refine z_sub [2, 3, 4, 5, 6, 7, 1, 0] rfl ?_
  refine w_L_drop_L9 (fun a5 l6 S h => ?_) m9 a0 a1 a2 a3 a4 a5 0 (gA S a5 2) S h
  refine z_aload 0 dL_drop_102 rfl ?_
  refine z_iconst (v := 3) dL_drop_104 rfl ?_
  refine z_dup2 dL_drop_105 rfl rfl ?_
  obtain ⟨hf28, h⟩ := h
  obtain ⟨hj30, h⟩ := h
  refine z_iald (j := 3) hf28.1 hf28.2 rfl hj30.1 hj30.2 dL_drop_106 ?_
  refine z_iload 1 dL_drop_107 rfl ?_
  refine z_iadd dL_drop_109 ?_
  obtain ⟨hj32, h⟩ := h
  have h := h _ rfl
  refine z_iast (j := 3) hf28.1 hf28.2 rfl hj32.1 hj32.2 dL_drop_110 ?_
  obtain ⟨S33, hS34⟩ : ∃ z, z = sA S a5 3 ((gA S a5 3) + l6) := ⟨_, rfl⟩
  rw [← hS34] at h ⊢
  have hf28 : a5 ∈ gL S33 ∧ gK S33 a5 = 12 := by rw [hS34]; exact hf28
  refine z_iload 1 dL_drop_111 rfl ?_
  exact z_ireturn ⟨rfl, _, rfl, h⟩ rfl (Nat.le_of_ble_eq_true rfl) (Nat.le_of_ble_eq_true rfl) dL_drop_113
set_option maxRecDepth 20000 in
set_option maxHeartbeats 4000000 in
theorem w_L_look_J31 {E : zE} {B3 : Nat → Nat → Nat → Nat → Nat → Nat → Nat → Int32 → zS → Prop} {Q : zS → Prop} {X : String → zS → Prop} (hB3 : ∀ (a0 : Nat) (a1 : Nat) (a2 : Nat) (a3 : Nat) (a4 : Nat) (a5 : Nat) (a6 : Nat) (l7 : Int32) (S : zS), B3 a0 a1 a2 a3 a4 a5 a6 l7 S → zJ E (RL, cL_look, 8, none, false, [], zTr) ({ frames := 5, cells := 0, slots := 0, locals := 127 } : Room) (zq (qV Q)) (zx X) 3 [(0, .ref a0), (1, .ref a1), (2, .ref a2), (3, .ref a3), (4, .ref a4), (5, .ref a5), (6, .ref a6), (7, .int l7)] [] [] S 0 0) (a0 : Nat) (a1 : Nat) (a2 : Nat) (a3 : Nat) (a4 : Nat) (a5 : Nat) (a6 : Nat) (l7 : Int32) (l100 : Int32) (l101 : Int32) (l102 : Int32) (a103 : Nat) (S : zS) (h : p_L_look_J31 E B3 Q X a0 a1 a2 a3 a4 a5 a6 l7 l100 l101 l102 a103 S) : zJ E (RL, cL_look, 8, none, false, [], zTr) ({ frames := 5, cells := 0, slots := 0, locals := 127 } : Room) (zq (qV Q)) (zx X) 31 [(0, .ref a0), (1, .ref a1), (2, .ref a2), (3, .ref a3), (4, .ref a4), (5, .ref a5), (6, .ref a6), (7, .int l7)] [.int l100, .int l101, .int l102, .ref a103] [] S 0 0 := by
  unfold p_L_look_J31 at h
  refine z_aload_n 3 dL_look_31 rfl rfl ?_
  refine z_bipush (v := 6) dL_look_32 rfl ?_
  refine z_iload 7 dL_look_34 rfl ?_
  refine z_iadd dL_look_36 ?_
  obtain ⟨hf7, h⟩ := h
  obtain ⟨j8, hj9, h⟩ := h
  refine z_iald (j := j8) hf7.1 hf7.2 hj9.1 hj9.2.1 hj9.2.2 dL_look_37 ?_
  refine z_sipush (v := 199) dL_look_38 rfl ?_
  refine z_icmp_le 48 dL_look_41 (by decide) (fun c22 => ?_) (fun c22 => ?_)
  · have h := h.1 c22
    refine z_iconst (v := 0) dL_look_48 rfl ?_
    refine z_ior dL_look_49 ?_
    refine z_ior dL_look_50 ?_
    obtain ⟨hf10, h⟩ := h
    obtain ⟨j11, hj12, h⟩ := h
    have h := h _ rfl
    refine z_iast (j := j11) hf10.1 hf10.2 hj12.1 hj12.2.1 hj12.2.2 dL_look_51 ?_
    obtain ⟨S13, hS14⟩ : ∃ z, z = sA S a103 j11 (l101 ||| (l100 ||| 0)) := ⟨_, rfl⟩
    rw [← hS14] at h ⊢
    have hf10 : a103 ∈ gL S13 ∧ gK S13 a103 = 12 := by rw [hS14]; exact hf10
    have hf7 : a3 ∈ gL S13 ∧ gK S13 a3 = 12 := by rw [hS14]; exact hf7
    refine z_iinc (v := (l7 + 1)) (lv' := [(7, .int (l7 + 1)), (0, .ref a0), (1, .ref a1), (2, .ref a2), (3, .ref a3), (4, .ref a4), (5, .ref a5), (6, .ref a6)]) 7 dL_look_52 rfl rfl (Nat.le_of_ble_eq_true rfl) rfl ?_
    refine z_goto 3 dL_look_55 (by decide) ?_
    refine z_sub [1, 2, 3, 4, 5, 6, 7, 0] rfl ?_
    exact hB3 a0 a1 a2 a3 a4 a5 a6 (l7 + 1) S13 h
  · have h := h.2 c22
    refine z_iconst (v := 4) dL_look_44 rfl ?_
    refine z_goto 49 dL_look_45 (by decide) ?_
    refine z_ior dL_look_49 ?_
    refine z_ior dL_look_50 ?_
    obtain ⟨hf16, h⟩ := h
    obtain ⟨j17, hj18, h⟩ := h
    have h := h _ rfl
    refine z_iast (j := j17) hf16.1 hf16.2 hj18.1 hj18.2.1 hj18.2.2 dL_look_51 ?_
    obtain ⟨S19, hS20⟩ : ∃ z, z = sA S a103 j17 (l101 ||| (l100 ||| 4)) := ⟨_, rfl⟩
    rw [← hS20] at h ⊢
    have hf16 : a103 ∈ gL S19 ∧ gK S19 a103 = 12 := by rw [hS20]; exact hf16
    have hf7 : a3 ∈ gL S19 ∧ gK S19 a3 = 12 := by rw [hS20]; exact hf7
    refine z_iinc (v := (l7 + 1)) (lv' := [(7, .int (l7 + 1)), (0, .ref a0), (1, .ref a1), (2, .ref a2), (3, .ref a3), (4, .ref a4), (5, .ref a5), (6, .ref a6)]) 7 dL_look_52 rfl rfl (Nat.le_of_ble_eq_true rfl) rfl ?_
    refine z_goto 3 dL_look_55 (by decide) ?_
    refine z_sub [1, 2, 3, 4, 5, 6, 7, 0] rfl ?_
    exact hB3 a0 a1 a2 a3 a4 a5 a6 (l7 + 1) S19 h
set_option maxRecDepth 20000 in
set_option maxHeartbeats 4000000 in
theorem w_L_look_L3 {E : zE} {K58 : Nat → Nat → Nat → Nat → Nat → Nat → zS → Prop} {Q : zS → Prop} {X : String → zS → Prop} (hK58 : ∀ (a0 : Nat) (a1 : Nat) (a2 : Nat) (a4 : Nat) (a5 : Nat) (a6 : Nat) (S : zS), K58 a0 a1 a2 a4 a5 a6 S → zJ E (RL, cL_look, 8, none, false, [], zTr) ({ frames := 5, cells := 0, slots := 0, locals := 127 } : Room) (zq (qV Q)) (zx X) 58 [(0, .ref a0), (1, .ref a1), (2, .ref a2), (4, .ref a4), (5, .ref a5), (6, .ref a6)] [] [] S 0 0) : ∀ (m3 : Nat) (a0 : Nat) (a1 : Nat) (a2 : Nat) (a3 : Nat) (a4 : Nat) (a5 : Nat) (a6 : Nat) (l7 : Int32) (S : zS), p_L_look_L3 E K58 Q X m3 a0 a1 a2 a3 a4 a5 a6 l7 S → zJ E (RL, cL_look, 8, none, false, [], zTr) ({ frames := 5, cells := 0, slots := 0, locals := 127 } : Room) (zq (qV Q)) (zx X) 3 [(0, .ref a0), (1, .ref a1), (2, .ref a2), (3, .ref a3), (4, .ref a4), (5, .ref a5), (6, .ref a6), (7, .int l7)] [] [] S 0 0 := by
  intro m3
  induction m3 with
  | zero => intro a0 a1 a2 a3 a4 a5 a6 l7 S h; exact (show False from h).elim
  | succ m3 ih =>
    intro a0 a1 a2 a3 a4 a5 a6 l7 S h
    unfold p_L_look_L3 at h
    refine z_iload 7 dL_look_3 rfl ?_
    refine z_bipush (v := 6) dL_look_5 rfl ?_
    refine z_icmp_ge 58 dL_look_7 (by decide) (fun c24 => ?_) (fun c24 => ?_)
    · have h := h.1 c24
      refine z_sub [0, 1, 2, 4, 5, 6] rfl ?_
      exact hK58 a0 a1 a2 a4 a5 a6 S h
    · have h := h.2 c24
      refine z_aload 4 dL_look_10 rfl ?_
      refine z_iload 7 dL_look_12 rfl ?_
      refine z_dup2 dL_look_14 rfl rfl ?_
      obtain ⟨hf1, h⟩ := h
      obtain ⟨j2, hj3, h⟩ := h
      refine z_iald (j := j2) hf1.1 hf1.2 hj3.1 hj3.2.1 hj3.2.2 dL_look_15 ?_
      refine z_aload_n 3 dL_look_16 rfl rfl ?_
      refine z_iload 7 dL_look_17 rfl ?_
      obtain ⟨hf4, h⟩ := h
      obtain ⟨j5, hj6, h⟩ := h
      refine z_iald (j := j5) hf4.1 hf4.2 hj6.1 hj6.2.1 hj6.2.2 dL_look_19 ?_
      refine z_sipush (v := 299) dL_look_20 rfl ?_
      refine z_icmp_le 30 dL_look_23 (by decide) (fun c23 => ?_) (fun c23 => ?_)
      · have h := h.1 c23
        refine z_iconst (v := 0) dL_look_30 rfl ?_
        refine w_L_look_J31 (fun a0 a1 a2 a3 a4 a5 a6 l7 S h => ?_) a0 a1 a2 a3 a4 a5 a6 l7 0 (gA S a4 j2) l7 a4 S h
        exact ih a0 a1 a2 a3 a4 a5 a6 l7 S h
      · have h := h.2 c23
        refine z_iconst (v := 2) dL_look_26 rfl ?_
        refine z_goto 31 dL_look_27 (by decide) ?_
        refine w_L_look_J31 (fun a0 a1 a2 a3 a4 a5 a6 l7 S h => ?_) a0 a1 a2 a3 a4 a5 a6 l7 2 (gA S a4 j2) l7 a4 S h
        exact ih a0 a1 a2 a3 a4 a5 a6 l7 S h
set_option maxRecDepth 20000 in
set_option maxHeartbeats 4000000 in
theorem w_L_look {E : zE} {a0 : Nat} {a1 : Nat} {a2 : Nat} {a3 : Nat} {a4 : Nat} {a5 : Nat} {a6 : Nat} {S : zS} {Q : zS → Prop} {X : String → zS → Prop} (h : p_L_look E a0 a1 a2 a3 a4 a5 a6 S Q X) : zM E yL_look cL_look 8 none ({ frames := 5, cells := 0, slots := 0, locals := 127 } : Room) [.ref a0, .ref a1, .ref a2, .ref a3, .ref a4, .ref a5, .ref a6] S (qV Q) X := by
  unfold p_L_look at h
  refine zM_of RL false (by decide) rfl (fun h => by cases h) (Nat.le_of_ble_eq_true rfl) ?_
  refine z_iconst (v := 0) dL_look_0 rfl ?_
  refine z_istore (lv' := [(7, .int 0), (0, .ref a0), (1, .ref a1), (2, .ref a2), (3, .ref a3), (4, .ref a4), (5, .ref a5), (6, .ref a6)]) dL_look_1 (Nat.le_of_ble_eq_true rfl) rfl ?_
  obtain ⟨m3, h⟩ := h
  refine z_sub [1, 2, 3, 4, 5, 6, 7, 0] rfl ?_
  refine w_L_look_L3 (fun a0 a1 a2 a4 a5 a6 S h => ?_) m3 a0 a1 a2 a3 a4 a5 a6 0 S h
  refine z_aload_n 0 dL_look_58 rfl rfl ?_
  refine z_aload_n 1 dL_look_59 rfl rfl ?_
  refine z_aload_n 2 dL_look_60 rfl rfl ?_
  refine z_aload 3 dL_look_61 rfl ?_
  refine z_aload 4 dL_look_63 rfl ?_
  refine z_aload 5 dL_look_65 rfl ?_
  refine z_callSI (st := []) (w_L_drop h) zw_797 zw_795 zw_796 zw_29 zy_L_drop rfl rfl ⟨Nat.le_of_ble_eq_true rfl, Nat.le_of_ble_eq_true rfl⟩ ⟨(Nat.le_of_ble_eq_true rfl), (Nat.le_of_ble_eq_true rfl)⟩ (Nat.le_of_ble_eq_true rfl) dL_look_67 (fun _ _ hx => hx.elim) (fun r26 S25 h => ?_)
  refine z_widen (k' := 0) (n' := 0) (Nat.le_refl _) (Nat.le_refl _) ?_
  refine z_pop dL_look_70 rfl ?_
  exact z_return ⟨rfl, rfl, h⟩ rfl (Nat.le_of_ble_eq_true rfl) (Nat.le_of_ble_eq_true rfl) dL_look_71
set_option maxRecDepth 20000 in
set_option maxHeartbeats 4000000 in
theorem w_L_band_L28 {E : zE} {K82 : Nat → Nat → Nat → Nat → Nat → Int32 → Int32 → Int32 → Int32 → zS → Prop} {Q : Int32 → zS → Prop} {X : String → zS → Prop} (hK82 : ∀ (a0 : Nat) (a1 : Nat) (a2 : Nat) (a3 : Nat) (a4 : Nat) (l5 : Int32) (l6 : Int32) (l8 : Int32) (l9 : Int32) (S : zS), K82 a0 a1 a2 a3 a4 l5 l6 l8 l9 S → zJ E (RL, cL_band, 12, (some .int), false, [], zTr) ({ frames := 2, cells := 0, slots := 0, locals := 43 } : Room) (zq (qI Q)) (zx X) 82 [(0, .ref a0), (1, .ref a1), (2, .ref a2), (3, .ref a3), (4, .ref a4), (5, .int l5), (6, .int l6), (8, .int l8), (9, .int l9)] [] [] S 0 0) : ∀ (m28 : Nat) (a0 : Nat) (a1 : Nat) (a2 : Nat) (a3 : Nat) (a4 : Nat) (l5 : Int32) (l6 : Int32) (l8 : Int32) (l9 : Int32) (l10 : Int32) (S : zS), p_L_band_L28 E K82 Q X m28 a0 a1 a2 a3 a4 l5 l6 l8 l9 l10 S → zJ E (RL, cL_band, 12, (some .int), false, [], zTr) ({ frames := 2, cells := 0, slots := 0, locals := 43 } : Room) (zq (qI Q)) (zx X) 28 [(0, .ref a0), (1, .ref a1), (2, .ref a2), (3, .ref a3), (4, .ref a4), (5, .int l5), (6, .int l6), (8, .int l8), (9, .int l9), (10, .int l10)] [] [] S 0 0 := by
  intro m28
  induction m28 with
  | zero => intro a0 a1 a2 a3 a4 l5 l6 l8 l9 l10 S h; exact (show False from h).elim
  | succ m28 ih =>
    intro a0 a1 a2 a3 a4 l5 l6 l8 l9 l10 S h
    unfold p_L_band_L28 at h
    refine z_iload 9 dL_band_28 rfl ?_
    refine z_aload_n 2 dL_band_30 rfl rfl ?_
    refine z_iload 7 dL_band_31 rfl ?_
    obtain ⟨hf6, h⟩ := h
    obtain ⟨j7, hj8, h⟩ := h
    refine z_iald (j := j7) hf6.1 hf6.2 hj8.1 hj8.2.1 hj8.2.2 dL_band_33 ?_
    refine z_bipush (v := 7) dL_band_34 rfl ?_
    refine z_iand dL_band_36 ?_
    refine z_icmp_ge 82 dL_band_37 (by decide) (fun c14 => ?_) (fun c14 => ?_)
    · have h := h.1 c14
      refine z_sub [0, 1, 2, 3, 4, 5, 6, 7, 8] rfl ?_
      exact hK82 a0 a1 a2 a3 a4 l5 l6 l8 l9 S h
    · have h := h.2 c14
      refine z_aload_n 0 dL_band_40 rfl rfl ?_
      refine z_aload_n 1 dL_band_41 rfl rfl ?_
      refine z_aload_n 2 dL_band_42 rfl rfl ?_
      refine z_iload 7 dL_band_43 rfl ?_
      obtain ⟨j9, hj10, h⟩ := h
      refine z_iald (j := j9) hf6.1 hf6.2 hj10.1 hj10.2.1 hj10.2.2 dL_band_45 ?_
      refine z_iconst (v := 3) dL_band_46 rfl ?_
      refine z_iconst (v := 2) dL_band_47 rfl ?_
      refine z_iload 9 dL_band_48 rfl ?_
      refine z_imul dL_band_50 ?_
      refine z_iadd dL_band_51 ?_
      refine z_ishr dL_band_52 ?_
      refine z_iconst (v := 3) dL_band_53 rfl ?_
      refine z_iand dL_band_54 ?_
      refine z_callSI (st := []) (w_L_stageIn h) zw_800 zw_798 zw_799 zw_29 zy_L_stageIn rfl rfl ⟨Nat.le_of_ble_eq_true rfl, Nat.le_of_ble_eq_true rfl⟩ ⟨(Nat.le_of_ble_eq_true rfl), (Nat.le_of_ble_eq_true rfl)⟩ (Nat.le_of_ble_eq_true rfl) dL_band_55 (fun _ _ hx => hx.elim) (fun r12 S11 h => ?_)
      refine z_widen (k' := 0) (n' := 0) (Nat.le_refl _) (Nat.le_refl _) ?_
      refine z_istore (lv' := [(11, .int r12), (0, .ref a0), (1, .ref a1), (2, .ref a2), (3, .ref a3), (4, .ref a4), (5, .int l5), (6, .int l6), (8, .int l8), (9, .int l9), (10, .int l10)]) dL_band_58 (Nat.le_of_ble_eq_true rfl) rfl ?_
      refine z_iload 0 dL_band_60 rfl ?_
      refine z_iload 9 dL_band_62 rfl ?_
      refine z_icmp_le 72 dL_band_64 (by decide) (fun c13 => ?_) (fun c13 => ?_)
      · have h := h.1 c13
        refine z_iload 9 dL_band_72 rfl ?_
        refine z_istore (lv' := [(9, .int l9), (11, .int r12), (0, .ref a0), (1, .ref a1), (2, .ref a2), (3, .ref a3), (4, .ref a4), (5, .int l5), (6, .int l6), (8, .int l8), (10, .int l10)]) dL_band_74 (Nat.le_of_ble_eq_true rfl) rfl ?_
        refine z_iinc (v := (l10 + 1)) (lv' := [(10, .int (l10 + 1)), (9, .int l9), (11, .int r12), (0, .ref a0), (1, .ref a1), (2, .ref a2), (3, .ref a3), (4, .ref a4), (5, .int l5), (6, .int l6), (8, .int l8)]) 10 dL_band_76 rfl rfl (Nat.le_of_ble_eq_true rfl) rfl ?_
        refine z_goto 28 dL_band_79 (by decide) ?_
        refine z_sub [3, 4, 5, 6, 7, 8, 9, 10, 1, 0] rfl ?_
        exact ih a0 a1 a2 a3 a4 l5 l6 l8 l9 (l10 + 1) S11 h
      · have h := h.2 c13
        refine z_iload 0 dL_band_67 rfl ?_
        refine z_goto 74 dL_band_69 (by decide) ?_
        refine z_istore (lv' := [(9, .int r12), (11, .int r12), (0, .ref a0), (1, .ref a1), (2, .ref a2), (3, .ref a3), (4, .ref a4), (5, .int l5), (6, .int l6), (8, .int l8), (10, .int l10)]) dL_band_74 (Nat.le_of_ble_eq_true rfl) rfl ?_
        refine z_iinc (v := (l10 + 1)) (lv' := [(10, .int (l10 + 1)), (9, .int r12), (11, .int r12), (0, .ref a0), (1, .ref a1), (2, .ref a2), (3, .ref a3), (4, .ref a4), (5, .int l5), (6, .int l6), (8, .int l8)]) 10 dL_band_76 rfl rfl (Nat.le_of_ble_eq_true rfl) rfl ?_
        refine z_goto 28 dL_band_79 (by decide) ?_
        refine z_sub [3, 4, 5, 6, 7, 8, 9, 10, 1, 0] rfl ?_
        exact ih a0 a1 a2 a3 a4 l5 l6 l8 r12 (l10 + 1) S11 h
set_option maxRecDepth 20000 in
set_option maxHeartbeats 4000000 in
theorem w_L_band_L88 {E : zE} {K133 : Nat → Nat → Nat → Nat → Nat → Int32 → Int32 → Int32 → Int32 → zS → Prop} {Q : Int32 → zS → Prop} {X : String → zS → Prop} (hK133 : ∀ (a0 : Nat) (a1 : Nat) (a2 : Nat) (a3 : Nat) (a4 : Nat) (l5 : Int32) (l6 : Int32) (l7 : Int32) (l8 : Int32) (S : zS), K133 a0 a1 a2 a3 a4 l5 l6 l7 l8 S → zJ E (RL, cL_band, 12, (some .int), false, [], zTr) ({ frames := 2, cells := 0, slots := 0, locals := 43 } : Room) (zq (qI Q)) (zx X) 133 [(0, .ref a0), (1, .ref a1), (2, .ref a2), (3, .ref a3), (4, .ref a4), (5, .int l5), (6, .int l6), (7, .int l7), (8, .int l8)] [] [] S 0 0) : ∀ (m88 : Nat) (a0 : Nat) (a1 : Nat) (a2 : Nat) (a3 : Nat) (a4 : Nat) (l5 : Int32) (l6 : Int32) (l7 : Int32) (l8 : Int32) (l9 : Int32) (l10 : Int32) (S : zS), p_L_band_L88 E K133 Q X m88 a0 a1 a2 a3 a4 l5 l6 l7 l8 l9 l10 S → zJ E (RL, cL_band, 12, (some .int), false, [], zTr) ({ frames := 2, cells := 0, slots := 0, locals := 43 } : Room) (zq (qI Q)) (zx X) 88 [(0, .ref a0), (1, .ref a1), (2, .ref a2), (3, .ref a3), (4, .ref a4), (5, .int l5), (6, .int l6), (7, .int l7), (8, .int l8), (9, .int l9), (10, .int l10)] [] [] S 0 0 := by
  intro m88
  induction m88 with
  | zero => intro a0 a1 a2 a3 a4 l5 l6 l7 l8 l9 l10 S h; exact (show False from h).elim
  | succ m88 ih =>
    intro a0 a1 a2 a3 a4 l5 l6 l7 l8 l9 l10 S h
    unfold p_L_band_L88 at h
    refine z_iload 10 dL_band_88 rfl ?_
    refine z_iconst (v := 4) dL_band_90 rfl ?_
    refine z_icmp_ge 133 dL_band_91 (by decide) (fun c21 => ?_) (fun c21 => ?_)
    · have h := h.1 c21
      refine z_sub [0, 1, 2, 3, 4, 5, 6, 7, 8] rfl ?_
      exact hK133 a0 a1 a2 a3 a4 l5 l6 l7 l8 S h
    · have h := h.2 c21
      refine z_iload 9 dL_band_94 rfl ?_
      refine z_if_le 133 dL_band_96 (by decide) (fun c20 => ?_) (fun c20 => ?_)
      · have h := h.1 c20
        refine z_sub [0, 1, 2, 3, 4, 5, 6, 7, 8] rfl ?_
        exact hK133 a0 a1 a2 a3 a4 l5 l6 l7 l8 S h
      · have h := h.2 c20
        refine z_iload 7 dL_band_99 rfl ?_
        refine z_if_ge 133 dL_band_101 (by decide) (fun c19 => ?_) (fun c19 => ?_)
        · have h := h.1 c19
          refine z_sub [0, 1, 2, 3, 4, 5, 6, 7, 8] rfl ?_
          exact hK133 a0 a1 a2 a3 a4 l5 l6 l7 l8 S h
        · have h := h.2 c19
          refine z_aload_n 3 dL_band_104 rfl rfl ?_
          refine z_iload 6 dL_band_105 rfl ?_
          refine z_iload 10 dL_band_107 rfl ?_
          refine z_iadd dL_band_109 ?_
          refine z_iconst (v := 4) dL_band_110 rfl ?_
          refine z_irem dL_band_111 (by decide) ?_
          obtain ⟨hf15, h⟩ := h
          obtain ⟨j16, hj17, h⟩ := h
          refine z_iald (j := j16) hf15.1 hf15.2 hj17.1 hj17.2.1 hj17.2.2 dL_band_112 ?_
          refine z_iload 9 dL_band_113 rfl ?_
          refine z_icmp_lt 127 dL_band_115 (by decide) (fun c18 => ?_) (fun c18 => ?_)
          · have h := h.1 c18
            refine z_iinc (v := (l10 + 1)) (lv' := [(10, .int (l10 + 1)), (0, .ref a0), (1, .ref a1), (2, .ref a2), (3, .ref a3), (4, .ref a4), (5, .int l5), (6, .int l6), (7, .int l7), (8, .int l8), (9, .int l9)]) 10 dL_band_127 rfl rfl (Nat.le_of_ble_eq_true rfl) rfl ?_
            refine z_goto 88 dL_band_130 (by decide) ?_
            refine z_sub [1, 2, 3, 4, 5, 6, 7, 8, 9, 10, 0] rfl ?_
            exact ih a0 a1 a2 a3 a4 l5 l6 l7 l8 l9 (l10 + 1) S h
          · have h := h.2 c18
            refine z_iload 6 dL_band_118 rfl ?_
            refine z_iload 10 dL_band_120 rfl ?_
            refine z_iadd dL_band_122 ?_
            refine z_iconst (v := 4) dL_band_123 rfl ?_
            refine z_irem dL_band_124 (by decide) ?_
            refine z_istore (lv' := [(7, .int ((l6 + l10) - (l6 + l10) / 4 * 4)), (0, .ref a0), (1, .ref a1), (2, .ref a2), (3, .ref a3), (4, .ref a4), (5, .int l5), (6, .int l6), (8, .int l8), (9, .int l9), (10, .int l10)]) dL_band_125 (Nat.le_of_ble_eq_true rfl) rfl ?_
            refine z_iinc (v := (l10 + 1)) (lv' := [(10, .int (l10 + 1)), (7, .int ((l6 + l10) - (l6 + l10) / 4 * 4)), (0, .ref a0), (1, .ref a1), (2, .ref a2), (3, .ref a3), (4, .ref a4), (5, .int l5), (6, .int l6), (8, .int l8), (9, .int l9)]) 10 dL_band_127 rfl rfl (Nat.le_of_ble_eq_true rfl) rfl ?_
            refine z_goto 88 dL_band_130 (by decide) ?_
            refine z_sub [2, 3, 4, 5, 6, 7, 8, 1, 9, 10, 0] rfl ?_
            exact ih a0 a1 a2 a3 a4 l5 l6 ((l6 + l10) - (l6 + l10) / 4 * 4) l8 l9 (l10 + 1) S h
set_option maxRecDepth 20000 in
set_option maxHeartbeats 4000000 in
theorem w_L_band_J133 {E : zE} {B15 : Nat → Nat → Nat → Nat → Nat → Int32 → Int32 → Int32 → Int32 → zS → Prop} {Q : Int32 → zS → Prop} {X : String → zS → Prop} (hB15 : ∀ (a0 : Nat) (a1 : Nat) (a2 : Nat) (a3 : Nat) (a4 : Nat) (l5 : Int32) (l6 : Int32) (l7 : Int32) (l8 : Int32) (S : zS), B15 a0 a1 a2 a3 a4 l5 l6 l7 l8 S → zJ E (RL, cL_band, 12, (some .int), false, [], zTr) ({ frames := 2, cells := 0, slots := 0, locals := 43 } : Room) (zq (qI Q)) (zx X) 15 [(0, .ref a0), (1, .ref a1), (2, .ref a2), (3, .ref a3), (4, .ref a4), (5, .int l5), (6, .int l6), (7, .int l7), (8, .int l8)] [] [] S 0 0) (a0 : Nat) (a1 : Nat) (a2 : Nat) (a3 : Nat) (a4 : Nat) (l5 : Int32) (l6 : Int32) (l7 : Int32) (l8 : Int32) (S : zS) (h : p_L_band_J133 E B15 Q X a0 a1 a2 a3 a4 l5 l6 l7 l8 S) : zJ E (RL, cL_band, 12, (some .int), false, [], zTr) ({ frames := 2, cells := 0, slots := 0, locals := 43 } : Room) (zq (qI Q)) (zx X) 133 [(0, .ref a0), (1, .ref a1), (2, .ref a2), (3, .ref a3), (4, .ref a4), (5, .int l5), (6, .int l6), (7, .int l7), (8, .int l8)] [] [] S 0 0 := by
  unfold p_L_band_J133 at h
  refine z_iload 8 dL_band_133 rfl ?_
  refine z_aload 4 dL_band_135 rfl ?_
  refine z_iconst (v := 2) dL_band_137 rfl ?_
  obtain ⟨hf22, h⟩ := h
  obtain ⟨hj24, h⟩ := h
  refine z_iald (j := 2) hf22.1 hf22.2 rfl hj24.1 hj24.2 dL_band_138 ?_
  refine z_icmp_ne 157 dL_band_139 (by decide) (fun c35 => ?_) (fun c35 => ?_)
  · have h := h.1 c35
    refine z_iload 7 dL_band_157 rfl ?_
    refine z_if_ge 167 dL_band_159 (by decide) (fun c25 => ?_) (fun c25 => ?_)
    · have h := h.1 c25
      refine z_iload 7 dL_band_167 rfl ?_
      refine z_iconst (v := 1) dL_band_169 rfl ?_
      refine z_iadd dL_band_170 ?_
      refine z_iconst (v := 4) dL_band_171 rfl ?_
      refine z_irem dL_band_172 (by decide) ?_
      refine z_istore (lv' := [(6, .int ((l7 + 1) - (l7 + 1) / 4 * 4)), (0, .ref a0), (1, .ref a1), (2, .ref a2), (3, .ref a3), (4, .ref a4), (5, .int l5), (7, .int l7), (8, .int l8)]) dL_band_173 (Nat.le_of_ble_eq_true rfl) rfl ?_
      refine z_iinc (v := (l8 + 1)) (lv' := [(8, .int (l8 + 1)), (6, .int ((l7 + 1) - (l7 + 1) / 4 * 4)), (0, .ref a0), (1, .ref a1), (2, .ref a2), (3, .ref a3), (4, .ref a4), (5, .int l5), (7, .int l7)]) 8 dL_band_175 rfl rfl (Nat.le_of_ble_eq_true rfl) rfl ?_
      refine z_goto 15 dL_band_178 (by decide) ?_
      refine z_sub [2, 3, 4, 5, 6, 7, 1, 8, 0] rfl ?_
      exact hB15 a0 a1 a2 a3 a4 l5 ((l7 + 1) - (l7 + 1) / 4 * 4) l7 (l8 + 1) S h
    · have h := h.2 c25
      refine z_iload 6 dL_band_162 rfl ?_
      refine z_goto 173 dL_band_164 (by decide) ?_
      refine z_istore (lv' := [(6, .int l6), (0, .ref a0), (1, .ref a1), (2, .ref a2), (3, .ref a3), (4, .ref a4), (5, .int l5), (7, .int l7), (8, .int l8)]) dL_band_173 (Nat.le_of_ble_eq_true rfl) rfl ?_
      refine z_iinc (v := (l8 + 1)) (lv' := [(8, .int (l8 + 1)), (6, .int l6), (0, .ref a0), (1, .ref a1), (2, .ref a2), (3, .ref a3), (4, .ref a4), (5, .int l5), (7, .int l7)]) 8 dL_band_175 rfl rfl (Nat.le_of_ble_eq_true rfl) rfl ?_
      refine z_goto 15 dL_band_178 (by decide) ?_
      refine z_sub [2, 3, 4, 5, 6, 7, 1, 8, 0] rfl ?_
      exact hB15 a0 a1 a2 a3 a4 l5 l6 l7 (l8 + 1) S h
  · have h := h.2 c35
    refine z_aload 4 dL_band_142 rfl ?_
    refine z_iconst (v := 5) dL_band_144 rfl ?_
    obtain ⟨hj27, h⟩ := h
    refine z_iald (j := 5) hf22.1 hf22.2 rfl hj27.1 hj27.2 dL_band_145 ?_
    refine z_if_le 157 dL_band_146 (by decide) (fun c34 => ?_) (fun c34 => ?_)
    · have h := h.1 c34
      refine z_iload 7 dL_band_157 rfl ?_
      refine z_if_ge 167 dL_band_159 (by decide) (fun c28 => ?_) (fun c28 => ?_)
      · have h := h.1 c28
        refine z_iload 7 dL_band_167 rfl ?_
        refine z_iconst (v := 1) dL_band_169 rfl ?_
        refine z_iadd dL_band_170 ?_
        refine z_iconst (v := 4) dL_band_171 rfl ?_
        refine z_irem dL_band_172 (by decide) ?_
        refine z_istore (lv' := [(6, .int ((l7 + 1) - (l7 + 1) / 4 * 4)), (0, .ref a0), (1, .ref a1), (2, .ref a2), (3, .ref a3), (4, .ref a4), (5, .int l5), (7, .int l7), (8, .int l8)]) dL_band_173 (Nat.le_of_ble_eq_true rfl) rfl ?_
        refine z_iinc (v := (l8 + 1)) (lv' := [(8, .int (l8 + 1)), (6, .int ((l7 + 1) - (l7 + 1) / 4 * 4)), (0, .ref a0), (1, .ref a1), (2, .ref a2), (3, .ref a3), (4, .ref a4), (5, .int l5), (7, .int l7)]) 8 dL_band_175 rfl rfl (Nat.le_of_ble_eq_true rfl) rfl ?_
        refine z_goto 15 dL_band_178 (by decide) ?_
        refine z_sub [2, 3, 4, 5, 6, 7, 1, 8, 0] rfl ?_
        exact hB15 a0 a1 a2 a3 a4 l5 ((l7 + 1) - (l7 + 1) / 4 * 4) l7 (l8 + 1) S h
      · have h := h.2 c28
        refine z_iload 6 dL_band_162 rfl ?_
        refine z_goto 173 dL_band_164 (by decide) ?_
        refine z_istore (lv' := [(6, .int l6), (0, .ref a0), (1, .ref a1), (2, .ref a2), (3, .ref a3), (4, .ref a4), (5, .int l5), (7, .int l7), (8, .int l8)]) dL_band_173 (Nat.le_of_ble_eq_true rfl) rfl ?_
        refine z_iinc (v := (l8 + 1)) (lv' := [(8, .int (l8 + 1)), (6, .int l6), (0, .ref a0), (1, .ref a1), (2, .ref a2), (3, .ref a3), (4, .ref a4), (5, .int l5), (7, .int l7)]) 8 dL_band_175 rfl rfl (Nat.le_of_ble_eq_true rfl) rfl ?_
        refine z_goto 15 dL_band_178 (by decide) ?_
        refine z_sub [2, 3, 4, 5, 6, 7, 1, 8, 0] rfl ?_
        exact hB15 a0 a1 a2 a3 a4 l5 l6 l7 (l8 + 1) S h
    · have h := h.2 c34
      refine z_aload 4 dL_band_149 rfl ?_
      refine z_iconst (v := 5) dL_band_151 rfl ?_
      obtain ⟨hj30, h⟩ := h
      refine z_iald (j := 5) hf22.1 hf22.2 rfl hj30.1 hj30.2 dL_band_152 ?_
      refine z_iconst (v := 1) dL_band_153 rfl ?_
      refine z_isub dL_band_154 ?_
      refine z_istore (lv' := [(7, .int ((gA S a4 5) - 1)), (0, .ref a0), (1, .ref a1), (2, .ref a2), (3, .ref a3), (4, .ref a4), (5, .int l5), (6, .int l6), (8, .int l8)]) dL_band_155 (Nat.le_of_ble_eq_true rfl) rfl ?_
      refine z_iload 0 dL_band_157 rfl ?_
      refine z_if_ge 167 dL_band_159 (by decide) (fun c33 => ?_) (fun c33 => ?_)
      · have h := h.1 c33
        refine z_iload 0 dL_band_167 rfl ?_
        refine z_iconst (v := 1) dL_band_169 rfl ?_
        refine z_iadd dL_band_170 ?_
        refine z_iconst (v := 4) dL_band_171 rfl ?_
        refine z_irem dL_band_172 (by decide) ?_
        refine z_top (fun x31 hx32 => ?_)
        have h := h x31 hx32
        refine z_istore (lv' := [(6, .int x31), (7, .int ((gA S a4 5) - 1)), (0, .ref a0), (1, .ref a1), (2, .ref a2), (3, .ref a3), (4, .ref a4), (5, .int l5), (8, .int l8)]) dL_band_173 (Nat.le_of_ble_eq_true rfl) rfl ?_
        refine z_iinc (v := (l8 + 1)) (lv' := [(8, .int (l8 + 1)), (6, .int x31), (7, .int ((gA S a4 5) - 1)), (0, .ref a0), (1, .ref a1), (2, .ref a2), (3, .ref a3), (4, .ref a4), (5, .int l5)]) 8 dL_band_175 rfl rfl (Nat.le_of_ble_eq_true rfl) rfl ?_
        refine z_goto 15 dL_band_178 (by decide) ?_
        refine z_sub [3, 4, 5, 6, 7, 8, 1, 2, 0] rfl ?_
        exact hB15 a0 a1 a2 a3 a4 l5 x31 ((gA S a4 5) - 1) (l8 + 1) S h
      · have h := h.2 c33
        refine z_iload 7 dL_band_162 rfl ?_
        refine z_goto 173 dL_band_164 (by decide) ?_
        refine z_istore (lv' := [(6, .int l6), (7, .int ((gA S a4 5) - 1)), (0, .ref a0), (1, .ref a1), (2, .ref a2), (3, .ref a3), (4, .ref a4), (5, .int l5), (8, .int l8)]) dL_band_173 (Nat.le_of_ble_eq_true rfl) rfl ?_
        refine z_iinc (v := (l8 + 1)) (lv' := [(8, .int (l8 + 1)), (6, .int l6), (7, .int ((gA S a4 5) - 1)), (0, .ref a0), (1, .ref a1), (2, .ref a2), (3, .ref a3), (4, .ref a4), (5, .int l5)]) 8 dL_band_175 rfl rfl (Nat.le_of_ble_eq_true rfl) rfl ?_
        refine z_goto 15 dL_band_178 (by decide) ?_
        refine z_sub [3, 4, 5, 6, 7, 8, 1, 2, 0] rfl ?_
        exact hB15 a0 a1 a2 a3 a4 l5 l6 ((gA S a4 5) - 1) (l8 + 1) S h
set_option maxRecDepth 20000 in
set_option maxHeartbeats 4000000 in
theorem w_L_band_L15 {E : zE} {K181 : Int32 → zS → Prop} {Q : Int32 → zS → Prop} {X : String → zS → Prop} (hK181 : ∀ (l7 : Int32) (S : zS), K181 l7 S → zJ E (RL, cL_band, 12, (some .int), false, [], zTr) ({ frames := 2, cells := 0, slots := 0, locals := 43 } : Room) (zq (qI Q)) (zx X) 181 [(7, .int l7)] [] [] S 0 0) : ∀ (m15 : Nat) (a0 : Nat) (a1 : Nat) (a2 : Nat) (a3 : Nat) (a4 : Nat) (l5 : Int32) (l6 : Int32) (l7 : Int32) (l8 : Int32) (S : zS), p_L_band_L15 E K181 Q X m15 a0 a1 a2 a3 a4 l5 l6 l7 l8 S → zJ E (RL, cL_band, 12, (some .int), false, [], zTr) ({ frames := 2, cells := 0, slots := 0, locals := 43 } : Room) (zq (qI Q)) (zx X) 15 [(0, .ref a0), (1, .ref a1), (2, .ref a2), (3, .ref a3), (4, .ref a4), (5, .int l5), (6, .int l6), (7, .int l7), (8, .int l8)] [] [] S 0 0 := by
  intro m15
  induction m15 with
  | zero => intro a0 a1 a2 a3 a4 l5 l6 l7 l8 S h; exact (show False from h).elim
  | succ m15 ih =>
    intro a0 a1 a2 a3 a4 l5 l6 l7 l8 S h
    unfold p_L_band_L15 at h
    refine z_iload 8 dL_band_15 rfl ?_
    refine z_iload 5 dL_band_17 rfl ?_
    refine z_icmp_gt 181 dL_band_19 (by decide) (fun c36 => ?_) (fun c36 => ?_)
    · have h := h.1 c36
      refine z_sub [7] rfl ?_
      exact hK181 l7 S h
    · have h := h.2 c36
      refine z_iconst (v := 0) dL_band_22 rfl ?_
      refine z_istore (lv' := [(9, .int 0), (0, .ref a0), (1, .ref a1), (2, .ref a2), (3, .ref a3), (4, .ref a4), (5, .int l5), (6, .int l6), (7, .int l7), (8, .int l8)]) dL_band_23 (Nat.le_of_ble_eq_true rfl) rfl ?_
      refine z_iconst (v := 0) dL_band_25 rfl ?_
      refine z_istore (lv' := [(10, .int 0), (9, .int 0), (0, .ref a0), (1, .ref a1), (2, .ref a2), (3, .ref a3), (4, .ref a4), (5, .int l5), (6, .int l6), (7, .int l7), (8, .int l8)]) dL_band_26 (Nat.le_of_ble_eq_true rfl) rfl ?_
      obtain ⟨m28, h⟩ := h
      refine z_sub [2, 3, 4, 5, 6, 7, 8, 10, 1, 0] rfl ?_
      refine w_L_band_L28 (fun a0 a1 a2 a3 a4 l5 l6 l8 l9 S h => ?_) m28 a0 a1 a2 a3 a4 l5 l6 l8 0 0 S h
      refine z_iconst (v := (-1)) dL_band_82 rfl ?_
      refine z_istore (lv' := [(7, .int (-1)), (0, .ref a0), (1, .ref a1), (2, .ref a2), (3, .ref a3), (4, .ref a4), (5, .int l5), (6, .int l6), (8, .int l8), (9, .int l9)]) dL_band_83 (Nat.le_of_ble_eq_true rfl) rfl ?_
      refine z_iconst (v := 0) dL_band_85 rfl ?_
      refine z_istore (lv' := [(10, .int 0), (7, .int (-1)), (0, .ref a0), (1, .ref a1), (2, .ref a2), (3, .ref a3), (4, .ref a4), (5, .int l5), (6, .int l6), (8, .int l8), (9, .int l9)]) dL_band_86 (Nat.le_of_ble_eq_true rfl) rfl ?_
      obtain ⟨m88, h⟩ := h
      refine z_sub [2, 3, 4, 5, 6, 7, 8, 1, 9, 10, 0] rfl ?_
      refine w_L_band_L88 (fun a0 a1 a2 a3 a4 l5 l6 l7 l8 S h => ?_) m88 a0 a1 a2 a3 a4 l5 l6 (-1) l8 l9 0 S h
      refine w_L_band_J133 (fun a0 a1 a2 a3 a4 l5 l6 l7 l8 S h => ?_) a0 a1 a2 a3 a4 l5 l6 l7 l8 S h
      exact ih a0 a1 a2 a3 a4 l5 l6 l7 l8 S h
set_option maxRecDepth 20000 in
set_option maxHeartbeats 4000000 in
theorem w_L_band {E : zE} {a0 : Nat} {a1 : Nat} {a2 : Nat} {a3 : Nat} {a4 : Nat} {l5 : Int32} {S : zS} {Q : Int32 → zS → Prop} {X : String → zS → Prop} (h : p_L_band E a0 a1 a2 a3 a4 l5 S Q X) : zM E yL_band cL_band 12 (some .int) ({ frames := 2, cells := 0, slots := 0, locals := 43 } : Room) [.ref a0, .ref a1, .ref a2, .ref a3, .ref a4, .int l5] S (qI Q) X := by
  unfold p_L_band at h
  refine zM_of RL false (by decide) rfl (fun h => by cases h) (Nat.le_of_ble_eq_true rfl) ?_
  refine z_aload 4 dL_band_0 rfl ?_
  refine z_iconst (v := 4) dL_band_2 rfl ?_
  obtain ⟨hf1, h⟩ := h
  obtain ⟨hj3, h⟩ := h
  refine z_iald (j := 4) hf1.1 hf1.2 rfl hj3.1 hj3.2 dL_band_3 ?_
  refine z_istore (lv' := [(6, .int (gA S a4 4)), (0, .ref a0), (1, .ref a1), (2, .ref a2), (3, .ref a3), (4, .ref a4), (5, .int l5)]) dL_band_4 (Nat.le_of_ble_eq_true rfl) rfl ?_
  refine z_iconst (v := (-1)) dL_band_6 rfl ?_
  refine z_istore (lv' := [(7, .int (-1)), (6, .int (gA S a4 4)), (0, .ref a0), (1, .ref a1), (2, .ref a2), (3, .ref a3), (4, .ref a4), (5, .int l5)]) dL_band_7 (Nat.le_of_ble_eq_true rfl) rfl ?_
  refine z_aload 6 dL_band_9 rfl ?_
  refine z_iconst (v := 2) dL_band_11 rfl ?_
  obtain ⟨hj5, h⟩ := h
  refine z_iald (j := 2) hf1.1 hf1.2 rfl hj5.1 hj5.2 dL_band_12 ?_
  refine z_istore (lv' := [(8, .int (gA S a4 2)), (7, .int (-1)), (6, .int (gA S a4 4)), (0, .ref a0), (1, .ref a1), (2, .ref a2), (3, .ref a3), (4, .ref a4), (5, .int l5)]) dL_band_13 (Nat.le_of_ble_eq_true rfl) rfl ?_
  obtain ⟨m15, h⟩ := h
  refine z_sub [3, 4, 5, 6, 7, 8, 2, 1, 0] rfl ?_
  refine w_L_band_L15 (fun l7 S h => ?_) m15 a0 a1 a2 a3 a4 l5 (gA S a4 4) (-1) (gA S a4 2) S h
  refine z_iload 0 dL_band_181 rfl ?_
  exact z_ireturn ⟨rfl, _, rfl, h⟩ rfl (Nat.le_of_ble_eq_true rfl) (Nat.le_of_ble_eq_true rfl) dL_band_183
set_option maxRecDepth 20000 in
set_option maxHeartbeats 4000000 in
theorem w_L_planAt_L2 {E : zE} {K27 : Int32 → zS → Prop} {K35 : zS → Prop} {Q : Int32 → zS → Prop} {X : String → zS → Prop} (hK27 : ∀ (l3 : Int32) (S : zS), K27 l3 S → zJ E (RL, cL_planAt, 4, (some .int), false, [], zTr) ({ frames := 0, cells := 0, slots := 0, locals := 0 } : Room) (zq (qI Q)) (zx X) 27 [(3, .int l3)] [] [] S 0 0) (hK35 : ∀  (S : zS), K35  S → zJ E (RL, cL_planAt, 4, (some .int), false, [], zTr) ({ frames := 0, cells := 0, slots := 0, locals := 0 } : Room) (zq (qI Q)) (zx X) 35 [] [] [] S 0 0) : ∀ (m2 : Nat) (a0 : Nat) (l1 : Int32) (l2 : Int32) (l3 : Int32) (S : zS), p_L_planAt_L2 E K27 K35 Q X m2 a0 l1 l2 l3 S → zJ E (RL, cL_planAt, 4, (some .int), false, [], zTr) ({ frames := 0, cells := 0, slots := 0, locals := 0 } : Room) (zq (qI Q)) (zx X) 2 [(0, .ref a0), (1, .int l1), (2, .int l2), (3, .int l3)] [] [] S 0 0 := by
  intro m2
  induction m2 with
  | zero => intro a0 l1 l2 l3 S h; exact (show False from h).elim
  | succ m2 ih =>
    intro a0 l1 l2 l3 S h
    unfold p_L_planAt_L2 at h
    refine z_iload_n 3 dL_planAt_2 rfl rfl ?_
    refine z_aload_n 0 dL_planAt_3 rfl rfl ?_
    refine z_iload_n 1 dL_planAt_4 rfl rfl ?_
    obtain ⟨hf1, h⟩ := h
    obtain ⟨j2, hj3, h⟩ := h
    refine z_iald (j := j2) hf1.1 hf1.2 hj3.1 hj3.2.1 hj3.2.2 dL_planAt_5 ?_
    refine z_bipush (v := 7) dL_planAt_6 rfl ?_
    refine z_iand dL_planAt_8 ?_
    refine z_icmp_ge 35 dL_planAt_9 (by decide) (fun c7 => ?_) (fun c7 => ?_)
    · have h := h.1 c7
      refine z_sub [] rfl ?_
      exact hK35 S h
    · have h := h.2 c7
      refine z_aload_n 0 dL_planAt_12 rfl rfl ?_
      refine z_iload_n 1 dL_planAt_13 rfl rfl ?_
      obtain ⟨j4, hj5, h⟩ := h
      refine z_iald (j := j4) hf1.1 hf1.2 hj5.1 hj5.2.1 hj5.2.2 dL_planAt_14 ?_
      refine z_iconst (v := 3) dL_planAt_15 rfl ?_
      refine z_iconst (v := 2) dL_planAt_16 rfl ?_
      refine z_iload_n 3 dL_planAt_17 rfl rfl ?_
      refine z_imul dL_planAt_18 ?_
      refine z_iadd dL_planAt_19 ?_
      refine z_ishr dL_planAt_20 ?_
      refine z_iconst (v := 3) dL_planAt_21 rfl ?_
      refine z_iand dL_planAt_22 ?_
      refine z_iload_n 2 dL_planAt_23 rfl rfl ?_
      refine z_icmp_ne 29 dL_planAt_24 (by decide) (fun c6 => ?_) (fun c6 => ?_)
      · have h := h.1 c6
        refine z_iinc (v := (l3 + 1)) (lv' := [(3, .int (l3 + 1)), (0, .ref a0), (1, .int l1), (2, .int l2)]) 3 dL_planAt_29 rfl rfl (Nat.le_of_ble_eq_true rfl) rfl ?_
        refine z_goto 2 dL_planAt_32 (by decide) ?_
        refine z_sub [1, 2, 3, 0] rfl ?_
        exact ih a0 l1 l2 (l3 + 1) S h
      · have h := h.2 c6
        refine z_sub [3] rfl ?_
        exact hK27 l3 S h
set_option maxRecDepth 20000 in
set_option maxHeartbeats 4000000 in
theorem w_L_planAt {E : zE} {a0 : Nat} {l1 : Int32} {l2 : Int32} {S : zS} {Q : Int32 → zS → Prop} {X : String → zS → Prop} (h : p_L_planAt E a0 l1 l2 S Q X) : zM E yL_planAt cL_planAt 4 (some .int) ({ frames := 0, cells := 0, slots := 0, locals := 0 } : Room) [.ref a0, .int l1, .int l2] S (qI Q) X := by
  unfold p_L_planAt at h
  refine zM_of RL false (by decide) rfl (fun h => by cases h) (Nat.le_of_ble_eq_true rfl) ?_
  refine z_iconst (v := 0) dL_planAt_0 rfl ?_
  refine z_istore_n (lv' := [(3, .int 0), (0, .ref a0), (1, .int l1), (2, .int l2)]) dL_planAt_1 rfl (Nat.le_of_ble_eq_true rfl) rfl ?_
  obtain ⟨m2, h⟩ := h
  refine z_sub [1, 2, 3, 0] rfl ?_
  refine w_L_planAt_L2 (fun l3 S h => ?_) (fun S h => ?_) m2 a0 l1 l2 0 S h
  · refine z_iload_n 0 dL_planAt_27 rfl rfl ?_
    exact z_ireturn ⟨rfl, _, rfl, h⟩ rfl (Nat.le_of_ble_eq_true rfl) (Nat.le_of_ble_eq_true rfl) dL_planAt_28
  · refine z_iconst (v := (-1)) dL_planAt_35 rfl ?_
    exact z_ireturn ⟨rfl, _, rfl, h⟩ rfl (Nat.le_of_ble_eq_true rfl) (Nat.le_of_ble_eq_true rfl) dL_planAt_36
set_option maxRecDepth 20000 in
set_option maxHeartbeats 4000000 in
theorem w_L_when {E : zE} {a0 : Nat} {l1 : Int32} {l2 : Int32} {S : zS} {Q : Int32 → zS → Prop} {X : String → zS → Prop} (h : p_L_when E a0 l1 l2 S Q X) : zM E yL_when cL_when 3 (some .int) ({ frames := 0, cells := 0, slots := 0, locals := 0 } : Room) [.ref a0, .int l1, .int l2] S (qI Q) X := by
  unfold p_L_when at h
  refine zM_of RL false (by decide) rfl (fun h => by cases h) (Nat.le_of_ble_eq_true rfl) ?_
  refine z_aload_n 0 dL_when_0 rfl rfl ?_
  refine z_bipush (v := 8) dL_when_1 rfl ?_
  refine z_iload_n 1 dL_when_3 rfl rfl ?_
  refine z_imul dL_when_4 ?_
  refine z_iload_n 2 dL_when_5 rfl rfl ?_
  refine z_iconst (v := 2) dL_when_6 rfl ?_
  refine z_idiv dL_when_7 (by decide) ?_
  refine z_iadd dL_when_8 ?_
  obtain ⟨hf1, h⟩ := h
  obtain ⟨j2, hj3, h⟩ := h
  refine z_lald (j := j2) hf1.1 hf1.2 hj3.1 hj3.2.1 hj3.2.2 dL_when_9 ?_
  refine z_bipush (v := 32) dL_when_10 rfl ?_
  refine z_iload_n 2 dL_when_12 rfl rfl ?_
  refine z_iconst (v := 2) dL_when_13 rfl ?_
  refine z_irem dL_when_14 (by decide) ?_
  refine z_imul dL_when_15 ?_
  refine z_lshr dL_when_16 ?_
  refine z_ldc2 zw_1078 dL_when_17 ?_
  refine z_land dL_when_20 ?_
  refine z_l2i dL_when_21 rfl ?_
  exact z_ireturn ⟨rfl, _, rfl, h⟩ rfl (Nat.le_of_ble_eq_true rfl) (Nat.le_of_ble_eq_true rfl) dL_when_22
set_option maxRecDepth 20000 in
set_option maxHeartbeats 4000000 in
theorem w_L_isPulled_L2 {E : zE} {K30 : zS → Prop} {K38 : zS → Prop} {Q : Int32 → zS → Prop} {X : String → zS → Prop} (hK30 : ∀  (S : zS), K30  S → zJ E (RL, cL_isPulled, 3, (some .boolean), false, [], zTr) ({ frames := 0, cells := 0, slots := 0, locals := 0 } : Room) (zq (qI Q)) (zx X) 30 [] [] [] S 0 0) (hK38 : ∀  (S : zS), K38  S → zJ E (RL, cL_isPulled, 3, (some .boolean), false, [], zTr) ({ frames := 0, cells := 0, slots := 0, locals := 0 } : Room) (zq (qI Q)) (zx X) 38 [] [] [] S 0 0) : ∀ (m2 : Nat) (a0 : Nat) (l1 : Int32) (l2 : Int32) (S : zS), p_L_isPulled_L2 E K30 K38 Q X m2 a0 l1 l2 S → zJ E (RL, cL_isPulled, 3, (some .boolean), false, [], zTr) ({ frames := 0, cells := 0, slots := 0, locals := 0 } : Room) (zq (qI Q)) (zx X) 2 [(0, .ref a0), (1, .int l1), (2, .int l2)] [] [] S 0 0 := by
  intro m2
  induction m2 with
  | zero => intro a0 l1 l2 S h; exact (show False from h).elim
  | succ m2 ih =>
    intro a0 l1 l2 S h
    unfold p_L_isPulled_L2 at h
    refine z_iload_n 2 dL_isPulled_2 rfl rfl ?_
    refine z_bipush (v := 6) dL_isPulled_3 rfl ?_
    refine z_icmp_ge 38 dL_isPulled_5 (by decide) (fun c8 => ?_) (fun c8 => ?_)
    · have h := h.1 c8
      refine z_sub [] rfl ?_
      exact hK38 S h
    · have h := h.2 c8
      refine z_aload_n 0 dL_isPulled_8 rfl rfl ?_
      refine z_bipush (v := 8) dL_isPulled_9 rfl ?_
      obtain ⟨hf1, h⟩ := h
      obtain ⟨hj3, h⟩ := h
      refine z_iald (j := 8) hf1.1 hf1.2 rfl hj3.1 hj3.2 dL_isPulled_11 ?_
      refine z_iload_n 2 dL_isPulled_12 rfl rfl ?_
      refine z_ishr dL_isPulled_13 ?_
      refine z_iconst (v := 1) dL_isPulled_14 rfl ?_
      refine z_iand dL_isPulled_15 ?_
      refine z_iconst (v := 1) dL_isPulled_16 rfl ?_
      refine z_icmp_ne 32 dL_isPulled_17 (by decide) (fun c7 => ?_) (fun c7 => ?_)
      · have h := h.1 c7
        refine z_iinc (v := (l2 + 1)) (lv' := [(2, .int (l2 + 1)), (0, .ref a0), (1, .int l1)]) 2 dL_isPulled_32 rfl rfl (Nat.le_of_ble_eq_true rfl) rfl ?_
        refine z_goto 2 dL_isPulled_35 (by decide) ?_
        refine z_sub [1, 2, 0] rfl ?_
        exact ih a0 l1 (l2 + 1) S h
      · have h := h.2 c7
        refine z_aload_n 0 dL_isPulled_20 rfl rfl ?_
        refine z_bipush (v := 16) dL_isPulled_21 rfl ?_
        refine z_iload_n 2 dL_isPulled_23 rfl rfl ?_
        refine z_iadd dL_isPulled_24 ?_
        obtain ⟨j4, hj5, h⟩ := h
        refine z_iald (j := j4) hf1.1 hf1.2 hj5.1 hj5.2.1 hj5.2.2 dL_isPulled_25 ?_
        refine z_iload_n 1 dL_isPulled_26 rfl rfl ?_
        refine z_icmp_gt 32 dL_isPulled_27 (by decide) (fun c6 => ?_) (fun c6 => ?_)
        · have h := h.1 c6
          refine z_iinc (v := (l2 + 1)) (lv' := [(2, .int (l2 + 1)), (0, .ref a0), (1, .int l1)]) 2 dL_isPulled_32 rfl rfl (Nat.le_of_ble_eq_true rfl) rfl ?_
          refine z_goto 2 dL_isPulled_35 (by decide) ?_
          refine z_sub [1, 2, 0] rfl ?_
          exact ih a0 l1 (l2 + 1) S h
        · have h := h.2 c6
          refine z_sub [] rfl ?_
          exact hK30 S h
set_option maxRecDepth 20000 in
set_option maxHeartbeats 4000000 in
theorem w_L_isPulled {E : zE} {a0 : Nat} {l1 : Int32} {S : zS} {Q : Int32 → zS → Prop} {X : String → zS → Prop} (h : p_L_isPulled E a0 l1 S Q X) : zM E yL_isPulled cL_isPulled 3 (some .boolean) ({ frames := 0, cells := 0, slots := 0, locals := 0 } : Room) [.ref a0, .int l1] S (qI Q) X := by
  unfold p_L_isPulled at h
  refine zM_of RL false (by decide) rfl (fun h => by cases h) (Nat.le_of_ble_eq_true rfl) ?_
  refine z_iconst (v := 0) dL_isPulled_0 rfl ?_
  refine z_istore_n (lv' := [(2, .int 0), (0, .ref a0), (1, .int l1)]) dL_isPulled_1 rfl (Nat.le_of_ble_eq_true rfl) rfl ?_
  obtain ⟨m2, h⟩ := h
  refine z_sub [1, 2, 0] rfl ?_
  refine w_L_isPulled_L2 (fun S h => ?_) (fun S h => ?_) m2 a0 l1 0 S h
  · refine z_iconst (v := 0) dL_isPulled_30 rfl ?_
    obtain ⟨hz9, h⟩ := h
    exact z_zreturn ⟨rfl, _, rfl, h⟩ rfl (zbn hz9) (Nat.le_of_ble_eq_true rfl) (Nat.le_of_ble_eq_true rfl) dL_isPulled_31
  · refine z_iconst (v := 1) dL_isPulled_38 rfl ?_
    obtain ⟨hz10, h⟩ := h
    exact z_zreturn ⟨rfl, _, rfl, h⟩ rfl (zbn hz10) (Nat.le_of_ble_eq_true rfl) (Nat.le_of_ble_eq_true rfl) dL_isPulled_39
set_option maxRecDepth 20000 in
set_option maxHeartbeats 4000000 in
theorem w_L_goOn_J184 {E : zE} {B78 : Nat → Nat → Nat → Nat → Nat → Nat → Nat → Nat → Int32 → Int32 → Int32 → Int32 → Int32 → Int32 → zS → Prop} {Q : Int32 → zS → Prop} {X : String → zS → Prop} (hB78 : ∀ (a0 : Nat) (a1 : Nat) (a2 : Nat) (a3 : Nat) (a4 : Nat) (a5 : Nat) (a6 : Nat) (a7 : Nat) (l8 : Int32) (l9 : Int32) (l10 : Int32) (l11 : Int32) (l12 : Int32) (l13 : Int32) (S : zS), B78 a0 a1 a2 a3 a4 a5 a6 a7 l8 l9 l10 l11 l12 l13 S → zJ E (RL, cL_goOn, 17, (some .int), false, [], zTr) ({ frames := 6, cells := 0, slots := 0, locals := 154 } : Room) (zq (qI Q)) (zx X) 78 [(0, .ref a0), (1, .ref a1), (2, .ref a2), (3, .ref a3), (4, .ref a4), (5, .ref a5), (6, .ref a6), (7, .ref a7), (8, .int l8), (9, .int l9), (10, .int l10), (11, .int l11), (12, .int l12), (13, .int l13)] [] [] S 0 0) (a0 : Nat) (a1 : Nat) (a2 : Nat) (a3 : Nat) (a4 : Nat) (a5 : Nat) (a6 : Nat) (a7 : Nat) (l8 : Int32) (l9 : Int32) (l10 : Int32) (l13 : Int32) (l14 : Int32) (l15 : Int32) (l16 : Int32) (l100 : Int32) (l101 : Int32) (S : zS) (h : p_L_goOn_J184 E B78 Q X a0 a1 a2 a3 a4 a5 a6 a7 l8 l9 l10 l13 l14 l15 l16 l100 l101 S) : zJ E (RL, cL_goOn, 17, (some .int), false, [], zTr) ({ frames := 6, cells := 0, slots := 0, locals := 154 } : Room) (zq (qI Q)) (zx X) 184 [(0, .ref a0), (1, .ref a1), (2, .ref a2), (3, .ref a3), (4, .ref a4), (5, .ref a5), (6, .ref a6), (7, .ref a7), (8, .int l8), (9, .int l9), (10, .int l10), (13, .int l13), (14, .int l14), (15, .int l15), (16, .int l16)] [.int l100, .int l101] [] S 0 0 := by
  unfold p_L_goOn_J184 at h
  refine z_ior dL_goOn_184 ?_
  refine z_istore (lv' := [(12, .int (l101 ||| l100)), (0, .ref a0), (1, .ref a1), (2, .ref a2), (3, .ref a3), (4, .ref a4), (5, .ref a5), (6, .ref a6), (7, .ref a7), (8, .int l8), (9, .int l9), (10, .int l10), (13, .int l13), (14, .int l14), (15, .int l15), (16, .int l16)]) dL_goOn_185 (Nat.le_of_ble_eq_true rfl) rfl ?_
  refine z_iload 15 dL_goOn_187 rfl ?_
  refine z_istore (lv' := [(11, .int l16), (12, .int (l101 ||| l100)), (0, .ref a0), (1, .ref a1), (2, .ref a2), (3, .ref a3), (4, .ref a4), (5, .ref a5), (6, .ref a6), (7, .ref a7), (8, .int l8), (9, .int l9), (10, .int l10), (13, .int l13), (14, .int l14), (15, .int l15), (16, .int l16)]) dL_goOn_189 (Nat.le_of_ble_eq_true rfl) rfl ?_
  refine z_iload 15 dL_goOn_191 rfl ?_
  refine z_if_eq 199 dL_goOn_193 (by decide) (fun c61 => ?_) (fun c61 => ?_)
  · have h := h.1 c61
    refine z_aload_n 5 dL_goOn_199 rfl rfl ?_
    refine z_iload 14 dL_goOn_200 rfl ?_
    refine z_dup2 dL_goOn_202 rfl rfl ?_
    obtain ⟨hf43, h⟩ := h
    obtain ⟨j44, hj45, h⟩ := h
    refine z_iald (j := j44) hf43.1 hf43.2 hj45.1 hj45.2.1 hj45.2.2 dL_goOn_203 ?_
    refine z_iconst (v := 1) dL_goOn_204 rfl ?_
    refine z_aload 9 dL_goOn_205 rfl ?_
    refine z_bipush (v := 10) dL_goOn_207 rfl ?_
    obtain ⟨hf46, h⟩ := h
    obtain ⟨hj48, h⟩ := h
    refine z_iald (j := 10) hf46.1 hf46.2 rfl hj48.1 hj48.2 dL_goOn_209 ?_
    refine z_iconst (v := 2) dL_goOn_210 rfl ?_
    refine z_irem dL_goOn_211 (by decide) ?_
    refine z_iadd dL_goOn_212 ?_
    refine z_iadd dL_goOn_213 ?_
    obtain ⟨j49, hj50, h⟩ := h
    have h := h _ rfl
    refine z_iast (j := j49) hf43.1 hf43.2 hj50.1 hj50.2.1 hj50.2.2 dL_goOn_214 ?_
    obtain ⟨S51, hS52⟩ : ∃ z, z = sA S a3 j49 ((gA S a3 j44) + (1 + ((gA S a7 10) - (gA S a7 10) / 2 * 2))) := ⟨_, rfl⟩
    rw [← hS52] at h ⊢
    have hf43 : a3 ∈ gL S51 ∧ gK S51 a3 = 12 := by rw [hS52]; exact hf43
    have hf46 : a7 ∈ gL S51 ∧ gK S51 a7 = 12 := by rw [hS52]; exact hf46
    refine z_aload_n 5 dL_goOn_215 rfl rfl ?_
    refine z_bipush (v := 6) dL_goOn_216 rfl ?_
    refine z_iload 14 dL_goOn_218 rfl ?_
    refine z_iadd dL_goOn_220 ?_
    refine z_dup2 dL_goOn_221 rfl rfl ?_
    obtain ⟨j53, hj54, h⟩ := h
    refine z_iald (j := j53) hf43.1 hf43.2 hj54.1 hj54.2.1 hj54.2.2 dL_goOn_222 ?_
    refine z_iconst (v := 1) dL_goOn_223 rfl ?_
    refine z_iadd dL_goOn_224 ?_
    obtain ⟨j55, hj56, h⟩ := h
    have h := h _ rfl
    refine z_iast (j := j55) hf43.1 hf43.2 hj56.1 hj56.2.1 hj56.2.2 dL_goOn_225 ?_
    obtain ⟨S57, hS58⟩ : ∃ z, z = sA S51 a3 j55 ((gA S51 a3 j53) + 1) := ⟨_, rfl⟩
    rw [← hS58] at h ⊢
    have hf43 : a3 ∈ gL S57 ∧ gK S57 a3 = 12 := by rw [hS58]; exact hf43
    have hf46 : a7 ∈ gL S57 ∧ gK S57 a7 = 12 := by rw [hS58]; exact hf46
    refine z_iinc (v := (l13 + 1)) (lv' := [(13, .int (l13 + 1)), (11, .int l16), (12, .int (l101 ||| l100)), (0, .ref a0), (1, .ref a1), (2, .ref a2), (3, .ref a3), (4, .ref a4), (5, .ref a5), (6, .ref a6), (7, .ref a7), (8, .int l8), (9, .int l9), (10, .int l10), (14, .int l14), (15, .int l15), (16, .int l16)]) 13 dL_goOn_226 rfl rfl (Nat.le_of_ble_eq_true rfl) rfl ?_
    refine z_goto 78 dL_goOn_229 (by decide) ?_
    refine z_sub [3, 4, 5, 6, 7, 8, 9, 10, 11, 12, 13, 1, 2, 0] rfl ?_
    exact hB78 a0 a1 a2 a3 a4 a5 a6 a7 l8 l9 l10 l16 (l101 ||| l100) (l13 + 1) S57 h
  · have h := h.2 c61
    refine z_goto 226 dL_goOn_196 (by decide) ?_
    refine z_iinc (v := (l13 + 1)) (lv' := [(13, .int (l13 + 1)), (11, .int l16), (12, .int (l101 ||| l100)), (0, .ref a0), (1, .ref a1), (2, .ref a2), (3, .ref a3), (4, .ref a4), (5, .ref a5), (6, .ref a6), (7, .ref a7), (8, .int l8), (9, .int l9), (10, .int l10), (14, .int l14), (15, .int l15), (16, .int l16)]) 13 dL_goOn_226 rfl rfl (Nat.le_of_ble_eq_true rfl) rfl ?_
    refine z_goto 78 dL_goOn_229 (by decide) ?_
    refine z_sub [3, 4, 5, 6, 7, 8, 9, 10, 11, 12, 13, 1, 2, 0] rfl ?_
    exact hB78 a0 a1 a2 a3 a4 a5 a6 a7 l8 l9 l10 l16 (l101 ||| l100) (l13 + 1) S h
set_option maxRecDepth 20000 in
set_option maxHeartbeats 4000000 in
theorem w_L_goOn_J168 {E : zE} {B78 : Nat → Nat → Nat → Nat → Nat → Nat → Nat → Nat → Int32 → Int32 → Int32 → Int32 → Int32 → Int32 → zS → Prop} {Q : Int32 → zS → Prop} {X : String → zS → Prop} (hB78 : ∀ (a0 : Nat) (a1 : Nat) (a2 : Nat) (a3 : Nat) (a4 : Nat) (a5 : Nat) (a6 : Nat) (a7 : Nat) (l8 : Int32) (l9 : Int32) (l10 : Int32) (l11 : Int32) (l12 : Int32) (l13 : Int32) (S : zS), B78 a0 a1 a2 a3 a4 a5 a6 a7 l8 l9 l10 l11 l12 l13 S → zJ E (RL, cL_goOn, 17, (some .int), false, [], zTr) ({ frames := 6, cells := 0, slots := 0, locals := 154 } : Room) (zq (qI Q)) (zx X) 78 [(0, .ref a0), (1, .ref a1), (2, .ref a2), (3, .ref a3), (4, .ref a4), (5, .ref a5), (6, .ref a6), (7, .ref a7), (8, .int l8), (9, .int l9), (10, .int l10), (11, .int l11), (12, .int l12), (13, .int l13)] [] [] S 0 0) (a0 : Nat) (a1 : Nat) (a2 : Nat) (a3 : Nat) (a4 : Nat) (a5 : Nat) (a6 : Nat) (a7 : Nat) (l8 : Int32) (l9 : Int32) (l10 : Int32) (l11 : Int32) (l12 : Int32) (l13 : Int32) (l14 : Int32) (l15 : Int32) (l100 : Int32) (S : zS) (h : p_L_goOn_J168 E B78 Q X a0 a1 a2 a3 a4 a5 a6 a7 l8 l9 l10 l11 l12 l13 l14 l15 l100 S) : zJ E (RL, cL_goOn, 17, (some .int), false, [], zTr) ({ frames := 6, cells := 0, slots := 0, locals := 154 } : Room) (zq (qI Q)) (zx X) 168 [(0, .ref a0), (1, .ref a1), (2, .ref a2), (3, .ref a3), (4, .ref a4), (5, .ref a5), (6, .ref a6), (7, .ref a7), (8, .int l8), (9, .int l9), (10, .int l10), (11, .int l11), (12, .int l12), (13, .int l13), (14, .int l14), (15, .int l15)] [.int l100] [] S 0 0 := by
  unfold p_L_goOn_J168 at h
  refine z_istore (lv' := [(16, .int l100), (0, .ref a0), (1, .ref a1), (2, .ref a2), (3, .ref a3), (4, .ref a4), (5, .ref a5), (6, .ref a6), (7, .ref a7), (8, .int l8), (9, .int l9), (10, .int l10), (11, .int l11), (12, .int l12), (13, .int l13), (14, .int l14), (15, .int l15)]) dL_goOn_168 (Nat.le_of_ble_eq_true rfl) rfl ?_
  refine z_iload 13 dL_goOn_170 rfl ?_
  refine z_iload 0 dL_goOn_172 rfl ?_
  refine z_iload 12 dL_goOn_174 rfl ?_
  refine z_icmp_gt 183 dL_goOn_176 (by decide) (fun c62 => ?_) (fun c62 => ?_)
  · have h := h.1 c62
    refine z_iconst (v := 0) dL_goOn_183 rfl ?_
    refine z_sub [1, 2, 3, 4, 5, 6, 7, 8, 9, 10, 11, 14, 15, 16, 0] rfl ?_
    refine w_L_goOn_J184 (fun a0 a1 a2 a3 a4 a5 a6 a7 l8 l9 l10 l11 l12 l13 S h => ?_) a0 a1 a2 a3 a4 a5 a6 a7 l8 l9 l10 l13 l14 l15 l100 0 l12 S h
    exact hB78 a0 a1 a2 a3 a4 a5 a6 a7 l8 l9 l10 l11 l12 l13 S h
  · have h := h.2 c62
    refine z_iconst (v := 1) dL_goOn_179 rfl ?_
    refine z_goto 184 dL_goOn_180 (by decide) ?_
    refine z_sub [1, 2, 3, 4, 5, 6, 7, 8, 9, 10, 11, 14, 15, 16, 0] rfl ?_
    refine w_L_goOn_J184 (fun a0 a1 a2 a3 a4 a5 a6 a7 l8 l9 l10 l11 l12 l13 S h => ?_) a0 a1 a2 a3 a4 a5 a6 a7 l8 l9 l10 l13 l14 l15 l100 1 l12 S h
    exact hB78 a0 a1 a2 a3 a4 a5 a6 a7 l8 l9 l10 l11 l12 l13 S h
set_option maxRecDepth 20000 in
set_option maxHeartbeats 4000000 in
theorem w_L_goOn_J115 {E : zE} {B78 : Nat → Nat → Nat → Nat → Nat → Nat → Nat → Nat → Int32 → Int32 → Int32 → Int32 → Int32 → Int32 → zS → Prop} {Q : Int32 → zS → Prop} {X : String → zS → Prop} (hB78 : ∀ (a0 : Nat) (a1 : Nat) (a2 : Nat) (a3 : Nat) (a4 : Nat) (a5 : Nat) (a6 : Nat) (a7 : Nat) (l8 : Int32) (l9 : Int32) (l10 : Int32) (l11 : Int32) (l12 : Int32) (l13 : Int32) (S : zS), B78 a0 a1 a2 a3 a4 a5 a6 a7 l8 l9 l10 l11 l12 l13 S → zJ E (RL, cL_goOn, 17, (some .int), false, [], zTr) ({ frames := 6, cells := 0, slots := 0, locals := 154 } : Room) (zq (qI Q)) (zx X) 78 [(0, .ref a0), (1, .ref a1), (2, .ref a2), (3, .ref a3), (4, .ref a4), (5, .ref a5), (6, .ref a6), (7, .ref a7), (8, .int l8), (9, .int l9), (10, .int l10), (11, .int l11), (12, .int l12), (13, .int l13)] [] [] S 0 0) (a0 : Nat) (a1 : Nat) (a2 : Nat) (a3 : Nat) (a4 : Nat) (a5 : Nat) (a6 : Nat) (a7 : Nat) (l8 : Int32) (l9 : Int32) (l10 : Int32) (l11 : Int32) (l12 : Int32) (l13 : Int32) (l14 : Int32) (l100 : Int32) (S : zS) (h : p_L_goOn_J115 E B78 Q X a0 a1 a2 a3 a4 a5 a6 a7 l8 l9 l10 l11 l12 l13 l14 l100 S) : zJ E (RL, cL_goOn, 17, (some .int), false, [], zTr) ({ frames := 6, cells := 0, slots := 0, locals := 154 } : Room) (zq (qI Q)) (zx X) 115 [(0, .ref a0), (1, .ref a1), (2, .ref a2), (3, .ref a3), (4, .ref a4), (5, .ref a5), (6, .ref a6), (7, .ref a7), (8, .int l8), (9, .int l9), (10, .int l10), (11, .int l11), (12, .int l12), (13, .int l13), (14, .int l14)] [.int l100] [] S 0 0 := by
  unfold p_L_goOn_J115 at h
  refine z_istore (lv' := [(15, .int l100), (0, .ref a0), (1, .ref a1), (2, .ref a2), (3, .ref a3), (4, .ref a4), (5, .ref a5), (6, .ref a6), (7, .ref a7), (8, .int l8), (9, .int l9), (10, .int l10), (11, .int l11), (12, .int l12), (13, .int l13), (14, .int l14)]) dL_goOn_115 (Nat.le_of_ble_eq_true rfl) rfl ?_
  refine z_iload 0 dL_goOn_117 rfl ?_
  refine z_if_eq 137 dL_goOn_119 (by decide) (fun c68 => ?_) (fun c68 => ?_)
  · have h := h.1 c68
    refine z_aload 8 dL_goOn_137 rfl ?_
    refine z_bipush (v := 9) dL_goOn_139 rfl ?_
    obtain ⟨hf34, h⟩ := h
    obtain ⟨hj36, h⟩ := h
    refine z_iald (j := 9) hf34.1 hf34.2 rfl hj36.1 hj36.2 dL_goOn_141 ?_
    refine z_iload 9 dL_goOn_142 rfl ?_
    refine z_aload 8 dL_goOn_144 rfl ?_
    refine z_bipush (v := 10) dL_goOn_146 rfl ?_
    obtain ⟨hj38, h⟩ := h
    refine z_iald (j := 10) hf34.1 hf34.2 rfl hj38.1 hj38.2 dL_goOn_148 ?_
    refine z_imul dL_goOn_149 ?_
    refine z_iload 14 dL_goOn_150 rfl ?_
    refine z_iadd dL_goOn_152 ?_
    refine z_aload 8 dL_goOn_153 rfl ?_
    refine z_bipush (v := 10) dL_goOn_155 rfl ?_
    obtain ⟨hj40, h⟩ := h
    refine z_iald (j := 10) hf34.1 hf34.2 rfl hj40.1 hj40.2 dL_goOn_157 ?_
    refine z_iconst (v := 2) dL_goOn_158 rfl ?_
    refine z_idiv dL_goOn_159 (by decide) ?_
    refine z_iadd dL_goOn_160 ?_
    refine z_imul dL_goOn_161 ?_
    refine z_aload 8 dL_goOn_162 rfl ?_
    refine z_bipush (v := 11) dL_goOn_164 rfl ?_
    obtain ⟨hj42, h⟩ := h
    refine z_iald (j := 11) hf34.1 hf34.2 rfl hj42.1 hj42.2 dL_goOn_166 ?_
    refine z_iadd dL_goOn_167 ?_
    refine z_sub [1, 2, 3, 4, 5, 6, 7, 8, 9, 10, 11, 12, 13, 14, 15, 0] rfl ?_
    refine w_L_goOn_J168 (fun a0 a1 a2 a3 a4 a5 a6 a7 l8 l9 l10 l11 l12 l13 S h => ?_) a0 a1 a2 a3 a4 a5 a6 a7 l8 l9 l10 l11 l12 l13 l14 l100 (((gA S a7 9) * (((l8 * (gA S a7 10)) + l13) + ((gA S a7 10) / 2))) + (gA S a7 11)) S h
    exact hB78 a0 a1 a2 a3 a4 a5 a6 a7 l8 l9 l10 l11 l12 l13 S h
  · have h := h.2 c68
    refine z_aload 6 dL_goOn_122 rfl ?_
    refine z_iload 15 dL_goOn_124 rfl ?_
    refine z_aload 8 dL_goOn_126 rfl ?_
    refine z_bipush (v := 10) dL_goOn_128 rfl ?_
    obtain ⟨hf63, h⟩ := h
    obtain ⟨hj65, h⟩ := h
    refine z_iald (j := 10) hf63.1 hf63.2 rfl hj65.1 hj65.2 dL_goOn_130 ?_
    refine z_callSI (st := []) (w_L_when h) zw_1077 zw_1075 zw_1076 zw_29 zy_L_when rfl rfl ⟨Nat.le_of_ble_eq_true rfl, Nat.le_of_ble_eq_true rfl⟩ ⟨(Nat.le_of_ble_eq_true rfl), (Nat.le_of_ble_eq_true rfl)⟩ (Nat.le_of_ble_eq_true rfl) dL_goOn_131 (fun _ _ hx => hx.elim) (fun r67 S66 h => ?_)
    refine z_widen (k' := 0) (n' := 0) (Nat.le_refl _) (Nat.le_refl _) ?_
    refine z_goto 168 dL_goOn_134 (by decide) ?_
    refine z_sub [1, 2, 3, 4, 5, 6, 7, 8, 9, 10, 11, 12, 13, 14, 15, 0] rfl ?_
    refine w_L_goOn_J168 (fun a0 a1 a2 a3 a4 a5 a6 a7 l8 l9 l10 l11 l12 l13 S h => ?_) a0 a1 a2 a3 a4 a5 a6 a7 l8 l9 l10 l11 l12 l13 l14 l100 r67 S66 h
    exact hB78 a0 a1 a2 a3 a4 a5 a6 a7 l8 l9 l10 l11 l12 l13 S h
set_option maxRecDepth 20000 in
set_option maxHeartbeats 4000000 in
theorem w_L_goOn_L78 {E : zE} {K232 : Nat → Nat → Nat → Nat → Nat → Nat → Nat → Nat → Int32 → Int32 → Int32 → zS → Prop} {Q : Int32 → zS → Prop} {X : String → zS → Prop} (hK232 : ∀ (a0 : Nat) (a1 : Nat) (a2 : Nat) (a3 : Nat) (a4 : Nat) (a5 : Nat) (a6 : Nat) (a7 : Nat) (l8 : Int32) (l9 : Int32) (l12 : Int32) (S : zS), K232 a0 a1 a2 a3 a4 a5 a6 a7 l8 l9 l12 S → zJ E (RL, cL_goOn, 17, (some .int), false, [], zTr) ({ frames := 6, cells := 0, slots := 0, locals := 154 } : Room) (zq (qI Q)) (zx X) 232 [(0, .ref a0), (1, .ref a1), (2, .ref a2), (3, .ref a3), (4, .ref a4), (5, .ref a5), (6, .ref a6), (7, .ref a7), (8, .int l8), (9, .int l9), (12, .int l12)] [] [] S 0 0) : ∀ (m78 : Nat) (a0 : Nat) (a1 : Nat) (a2 : Nat) (a3 : Nat) (a4 : Nat) (a5 : Nat) (a6 : Nat) (a7 : Nat) (l8 : Int32) (l9 : Int32) (l10 : Int32) (l11 : Int32) (l12 : Int32) (l13 : Int32) (S : zS), p_L_goOn_L78 E K232 Q X m78 a0 a1 a2 a3 a4 a5 a6 a7 l8 l9 l10 l11 l12 l13 S → zJ E (RL, cL_goOn, 17, (some .int), false, [], zTr) ({ frames := 6, cells := 0, slots := 0, locals := 154 } : Room) (zq (qI Q)) (zx X) 78 [(0, .ref a0), (1, .ref a1), (2, .ref a2), (3, .ref a3), (4, .ref a4), (5, .ref a5), (6, .ref a6), (7, .ref a7), (8, .int l8), (9, .int l9), (10, .int l10), (11, .int l11), (12, .int l12), (13, .int l13)] [] [] S 0 0 := by
  intro m78
  induction m78 with
  | zero => intro a0 a1 a2 a3 a4 a5 a6 a7 l8 l9 l10 l11 l12 l13 S h; unfold p_L_goOn_L78 at h; exact h.elim
  | succ m78 ih =>
    intro a0 a1 a2 a3 a4 a5 a6 a7 l8 l9 l10 l11 l12 l13 S h
    unfold p_L_goOn_L78 at h
    refine z_iload 13 dL_goOn_78 rfl ?_
    refine z_iload 8 dL_goOn_80 rfl ?_
    refine z_icmp_ge 232 dL_goOn_82 (by decide) (fun c70 => ?_) (fun c70 => ?_)
    · have h := h.1 c70
      refine z_sub [0, 1, 2, 3, 4, 5, 6, 7, 8, 9, 12] rfl ?_
      exact hK232 a0 a1 a2 a3 a4 a5 a6 a7 l8 l9 l12 S h
    · have h := h.2 c70
      refine z_iload 10 dL_goOn_85 rfl ?_
      refine z_iload 8 dL_goOn_87 rfl ?_
      refine z_iload 13 dL_goOn_89 rfl ?_
      refine z_callSI (st := []) (w_L_bell h) zw_1074 zw_1072 zw_1073 zw_29 zy_L_bell rfl rfl ⟨Nat.le_of_ble_eq_true rfl, Nat.le_of_ble_eq_true rfl⟩ ⟨(Nat.le_of_ble_eq_true rfl), (Nat.le_of_ble_eq_true rfl)⟩ (Nat.le_of_ble_eq_true rfl) dL_goOn_91 (fun _ _ hx => hx.elim) (fun r30 S29 h => ?_)
      refine z_widen (k' := 0) (n' := 0) (Nat.le_refl _) (Nat.le_refl _) ?_
      refine z_istore (lv' := [(14, .int r30), (0, .ref a0), (1, .ref a1), (2, .ref a2), (3, .ref a3), (4, .ref a4), (5, .ref a5), (6, .ref a6), (7, .ref a7), (8, .int l8), (9, .int l9), (10, .int l10), (11, .int l11), (12, .int l12), (13, .int l13)]) dL_goOn_94 (Nat.le_of_ble_eq_true rfl) rfl ?_
      refine z_aload 8 dL_goOn_96 rfl ?_
      refine z_bipush (v := 8) dL_goOn_98 rfl ?_
      obtain ⟨hf31, h⟩ := h
      obtain ⟨hj33, h⟩ := h
      refine z_iald (j := 8) hf31.1 hf31.2 rfl hj33.1 hj33.2 dL_goOn_100 ?_
      refine z_iload 0 dL_goOn_101 rfl ?_
      refine z_ishr dL_goOn_103 ?_
      refine z_iconst (v := 1) dL_goOn_104 rfl ?_
      refine z_iand dL_goOn_105 ?_
      refine z_iconst (v := 1) dL_goOn_106 rfl ?_
      refine z_icmp_ne 114 dL_goOn_107 (by decide) (fun c69 => ?_) (fun c69 => ?_)
      · have h := h.1 c69
        refine z_iconst (v := 0) dL_goOn_114 rfl ?_
        refine z_sub [1, 2, 3, 4, 5, 6, 7, 8, 9, 10, 11, 12, 13, 14, 0] rfl ?_
        refine w_L_goOn_J115 (fun a0 a1 a2 a3 a4 a5 a6 a7 l8 l9 l10 l11 l12 l13 S h => ?_) a0 a1 a2 a3 a4 a5 a6 a7 l8 l9 l10 l11 l12 l13 r30 0 S29 h
        exact ih a0 a1 a2 a3 a4 a5 a6 a7 l8 l9 l10 l11 l12 l13 S h
      · have h := h.2 c69
        refine z_iconst (v := 1) dL_goOn_110 rfl ?_
        refine z_goto 115 dL_goOn_111 (by decide) ?_
        refine z_sub [1, 2, 3, 4, 5, 6, 7, 8, 9, 10, 11, 12, 13, 14, 0] rfl ?_
        refine w_L_goOn_J115 (fun a0 a1 a2 a3 a4 a5 a6 a7 l8 l9 l10 l11 l12 l13 S h => ?_) a0 a1 a2 a3 a4 a5 a6 a7 l8 l9 l10 l11 l12 l13 r30 1 S29 h
        exact ih a0 a1 a2 a3 a4 a5 a6 a7 l8 l9 l10 l11 l12 l13 S h
set_option maxRecDepth 20000 in
set_option maxHeartbeats 4000000 in
theorem w_L_goOn_J248 {E : zE} {B27 : Nat → Nat → Nat → Nat → Nat → Nat → Nat → Nat → Int32 → Int32 → zS → Prop} {Q : Int32 → zS → Prop} {X : String → zS → Prop} (hB27 : ∀ (a0 : Nat) (a1 : Nat) (a2 : Nat) (a3 : Nat) (a4 : Nat) (a5 : Nat) (a6 : Nat) (a7 : Nat) (l8 : Int32) (l9 : Int32) (S : zS), B27 a0 a1 a2 a3 a4 a5 a6 a7 l8 l9 S → zJ E (RL, cL_goOn, 17, (some .int), false, [], zTr) ({ frames := 6, cells := 0, slots := 0, locals := 154 } : Room) (zq (qI Q)) (zx X) 27 [(0, .ref a0), (1, .ref a1), (2, .ref a2), (3, .ref a3), (4, .ref a4), (5, .ref a5), (6, .ref a6), (7, .ref a7), (8, .int l8), (9, .int l9)] [] [] S 0 0) (a0 : Nat) (a1 : Nat) (a2 : Nat) (a3 : Nat) (a4 : Nat) (a5 : Nat) (a6 : Nat) (a7 : Nat) (l8 : Int32) (l9 : Int32) (l100 : Int32) (l101 : Int32) (l102 : Int32) (a103 : Nat) (S : zS) (h : p_L_goOn_J248 E B27 Q X a0 a1 a2 a3 a4 a5 a6 a7 l8 l9 l100 l101 l102 a103 S) : zJ E (RL, cL_goOn, 17, (some .int), false, [], zTr) ({ frames := 6, cells := 0, slots := 0, locals := 154 } : Room) (zq (qI Q)) (zx X) 248 [(0, .ref a0), (1, .ref a1), (2, .ref a2), (3, .ref a3), (4, .ref a4), (5, .ref a5), (6, .ref a6), (7, .ref a7), (8, .int l8), (9, .int l9)] [.int l100, .int l101, .int l102, .ref a103] [] S 0 0 := by
  unfold p_L_goOn_J248 at h
  refine z_iadd dL_goOn_248 ?_
  obtain ⟨hf74, h⟩ := h
  obtain ⟨j75, hj76, h⟩ := h
  have h := h _ rfl
  refine z_iast (j := j75) hf74.1 hf74.2 hj76.1 hj76.2.1 hj76.2.2 dL_goOn_249 ?_
  obtain ⟨S77, hS78⟩ : ∃ z, z = sA S a103 j75 (l101 + l100) := ⟨_, rfl⟩
  rw [← hS78] at h ⊢
  have hf74 : a103 ∈ gL S77 ∧ gK S77 a103 = 12 := by rw [hS78]; exact hf74
  refine z_aload 7 dL_goOn_250 rfl ?_
  refine z_bipush (v := 10) dL_goOn_252 rfl ?_
  refine z_dup2 dL_goOn_254 rfl rfl ?_
  obtain ⟨hf79, h⟩ := h
  obtain ⟨hj81, h⟩ := h
  refine z_iald (j := 10) hf79.1 hf79.2 rfl hj81.1 hj81.2 dL_goOn_255 ?_
  refine z_iconst (v := 1) dL_goOn_256 rfl ?_
  refine z_iadd dL_goOn_257 ?_
  obtain ⟨hj83, h⟩ := h
  have h := h _ rfl
  refine z_iast (j := 10) hf79.1 hf79.2 rfl hj83.1 hj83.2 dL_goOn_258 ?_
  obtain ⟨S84, hS85⟩ : ∃ z, z = sA S77 a7 10 ((gA S77 a7 10) + 1) := ⟨_, rfl⟩
  rw [← hS85] at h ⊢
  have hf74 : a103 ∈ gL S84 ∧ gK S84 a103 = 12 := by rw [hS85]; exact hf74
  have hf79 : a7 ∈ gL S84 ∧ gK S84 a7 = 12 := by rw [hS85]; exact hf79
  refine z_aload_n 0 dL_goOn_259 rfl rfl ?_
  refine z_aload_n 1 dL_goOn_260 rfl rfl ?_
  refine z_aload_n 2 dL_goOn_261 rfl rfl ?_
  refine z_aload_n 3 dL_goOn_262 rfl rfl ?_
  refine z_aload 4 dL_goOn_263 rfl ?_
  refine z_aload 6 dL_goOn_265 rfl ?_
  refine z_aload 7 dL_goOn_267 rfl ?_
  refine z_callSV (st := []) (w_L_look h) zw_1081 zw_1079 zw_1080 zw_29 zy_L_look rfl rfl ⟨Nat.le_of_ble_eq_true rfl, Nat.le_of_ble_eq_true rfl⟩ ⟨(Nat.le_of_ble_eq_true rfl), (Nat.le_of_ble_eq_true rfl)⟩ (Nat.le_of_ble_eq_true rfl) dL_goOn_269 (fun _ _ hx => hx.elim) (fun S86 h => ?_)
  refine z_widen (k' := 0) (n' := 0) (Nat.le_refl _) (Nat.le_refl _) ?_
  refine z_aload 4 dL_goOn_272 rfl ?_
  refine z_iload 8 dL_goOn_274 rfl ?_
  refine z_callSI (st := []) (w_L_areIn h) zw_803 zw_801 zw_802 zw_29 zy_L_areIn rfl rfl ⟨Nat.le_of_ble_eq_true rfl, Nat.le_of_ble_eq_true rfl⟩ ⟨(Nat.le_of_ble_eq_true rfl), (Nat.le_of_ble_eq_true rfl)⟩ (Nat.le_of_ble_eq_true rfl) dL_goOn_276 (fun _ _ hx => hx.elim) (fun r89 S88 h => ?_)
  refine z_widen (k' := 0) (n' := 0) (Nat.le_refl _) (Nat.le_refl _) ?_
  refine z_if_ne 291 dL_goOn_279 (by decide) (fun c151 => ?_) (fun c151 => ?_)
  · have h := h.1 c151
    refine z_aload 7 dL_goOn_291 rfl ?_
    refine z_bipush (v := 10) dL_goOn_293 rfl ?_
    obtain ⟨hf90, h⟩ := h
    obtain ⟨hj92, h⟩ := h
    refine z_iald (j := 10) hf90.1 hf90.2 rfl hj92.1 hj92.2 dL_goOn_295 ?_
    refine z_iload 9 dL_goOn_296 rfl ?_
    refine z_icmp_ne 349 dL_goOn_298 (by decide) (fun c137 => ?_) (fun c137 => ?_)
    · have h := h.1 c137
      refine z_aload_n 0 dL_goOn_349 rfl rfl ?_
      refine z_aload_n 1 dL_goOn_350 rfl rfl ?_
      refine z_aload 7 dL_goOn_351 rfl ?_
      refine z_bipush (v := 7) dL_goOn_353 rfl ?_
      obtain ⟨hj94, h⟩ := h
      refine z_iald (j := 7) hf90.1 hf90.2 rfl hj94.1 hj94.2 dL_goOn_355 ?_
      obtain ⟨hf95, h⟩ := h
      obtain ⟨j96, hj97, h⟩ := h
      refine z_iald (j := j96) hf95.1 hf95.2 hj97.1 hj97.2.1 hj97.2.2 dL_goOn_356 ?_
      refine z_aload 6 dL_goOn_357 rfl ?_
      refine z_callSI (st := []) (w_L_lay h) zw_809 zw_807 zw_808 zw_29 zy_L_lay rfl rfl ⟨Nat.le_of_ble_eq_true rfl, Nat.le_of_ble_eq_true rfl⟩ ⟨(Nat.le_of_ble_eq_true rfl), (Nat.le_of_ble_eq_true rfl)⟩ (Nat.le_of_ble_eq_true rfl) dL_goOn_359 (fun _ _ hx => hx.elim) (fun r99 S98 h => ?_)
      refine z_widen (k' := 0) (n' := 0) (Nat.le_refl _) (Nat.le_refl _) ?_
      refine z_istore (lv' := [(9, .int r99), (0, .ref a0), (1, .ref a1), (2, .ref a2), (3, .ref a3), (4, .ref a4), (5, .ref a5), (6, .ref a6), (7, .ref a7), (8, .int l8)]) dL_goOn_362 (Nat.le_of_ble_eq_true rfl) rfl ?_
      refine z_goto 27 dL_goOn_364 (by decide) ?_
      refine z_sub [1, 2, 3, 4, 5, 6, 7, 8, 9, 0] rfl ?_
      exact hB27 a0 a1 a2 a3 a4 a5 a6 a7 l8 r99 S98 h
    · have h := h.2 c137
      refine z_aload 7 dL_goOn_301 rfl ?_
      refine z_bipush (v := 6) dL_goOn_303 rfl ?_
      refine z_iconst (v := 0) dL_goOn_305 rfl ?_
      obtain ⟨hj101, h⟩ := h
      have h := h _ rfl
      refine z_iast (j := 6) hf90.1 hf90.2 rfl hj101.1 hj101.2 dL_goOn_306 ?_
      obtain ⟨S102, hS103⟩ : ∃ z, z = sA S88 a7 6 0 := ⟨_, rfl⟩
      rw [← hS103] at h ⊢
      have hf90 : a7 ∈ gL S102 ∧ gK S102 a7 = 12 := by rw [hS103]; exact hf90
      refine z_aload 7 dL_goOn_307 rfl ?_
      refine z_bipush (v := 14) dL_goOn_309 rfl ?_
      refine z_dup2 dL_goOn_311 rfl rfl ?_
      obtain ⟨hj105, h⟩ := h
      refine z_iald (j := 14) hf90.1 hf90.2 rfl hj105.1 hj105.2 dL_goOn_312 ?_
      refine z_iconst (v := 1) dL_goOn_313 rfl ?_
      refine z_iadd dL_goOn_314 ?_
      obtain ⟨hj107, h⟩ := h
      have h := h _ rfl
      refine z_iast (j := 14) hf90.1 hf90.2 rfl hj107.1 hj107.2 dL_goOn_315 ?_
      obtain ⟨S108, hS109⟩ : ∃ z, z = sA S102 a7 14 ((gA S102 a7 14) + 1) := ⟨_, rfl⟩
      rw [← hS109] at h ⊢
      have hf90 : a7 ∈ gL S108 ∧ gK S108 a7 = 12 := by rw [hS109]; exact hf90
      refine z_aload 7 dL_goOn_316 rfl ?_
      refine z_bipush (v := 15) dL_goOn_318 rfl ?_
      refine z_aload 7 dL_goOn_320 rfl ?_
      refine z_bipush (v := 7) dL_goOn_322 rfl ?_
      obtain ⟨hj111, h⟩ := h
      refine z_iald (j := 7) hf90.1 hf90.2 rfl hj111.1 hj111.2 dL_goOn_324 ?_
      refine z_iconst (v := 1) dL_goOn_325 rfl ?_
      refine z_iadd dL_goOn_326 ?_
      obtain ⟨hj113, h⟩ := h
      have h := h _ rfl
      refine z_iast (j := 15) hf90.1 hf90.2 rfl hj113.1 hj113.2 dL_goOn_327 ?_
      obtain ⟨S114, hS115⟩ : ∃ z, z = sA S108 a7 15 ((gA S108 a7 7) + 1) := ⟨_, rfl⟩
      rw [← hS115] at h ⊢
      have hf90 : a7 ∈ gL S114 ∧ gK S114 a7 = 12 := by rw [hS115]; exact hf90
      refine z_aload_n 2 dL_goOn_328 rfl rfl ?_
      refine z_aload 7 dL_goOn_329 rfl ?_
      refine z_iconst (v := 2) dL_goOn_331 rfl ?_
      obtain ⟨hj117, h⟩ := h
      refine z_iald (j := 2) hf90.1 hf90.2 rfl hj117.1 hj117.2 dL_goOn_332 ?_
      refine z_aload_n 2 dL_goOn_333 rfl rfl ?_
      refine z_aload 7 dL_goOn_334 rfl ?_
      refine z_iconst (v := 2) dL_goOn_336 rfl ?_
      obtain ⟨hj119, h⟩ := h
      refine z_iald (j := 2) hf90.1 hf90.2 rfl hj119.1 hj119.2 dL_goOn_337 ?_
      refine z_aload 7 dL_goOn_338 rfl ?_
      refine z_bipush (v := 7) dL_goOn_340 rfl ?_
      obtain ⟨hj121, h⟩ := h
      refine z_iald (j := 7) hf90.1 hf90.2 rfl hj121.1 hj121.2 dL_goOn_342 ?_
      refine z_callSI (st := [.int (gA S114 a7 2), .ref a2]) (w_L_planAt h) zw_911 zw_909 zw_910 zw_29 zy_L_planAt rfl rfl ⟨Nat.le_of_ble_eq_true rfl, Nat.le_of_ble_eq_true rfl⟩ ⟨(Nat.le_of_ble_eq_true rfl), (Nat.le_of_ble_eq_true rfl)⟩ (Nat.le_of_ble_eq_true rfl) dL_goOn_343 (fun _ _ hx => hx.elim) (fun r123 S122 h => ?_)
      refine z_widen (k' := 0) (n' := 0) (Nat.le_refl _) (Nat.le_refl _) ?_
      refine z_callSV (st := []) (w_L_takePlan h) zw_824 zw_822 zw_823 zw_29 zy_L_takePlan rfl rfl ⟨Nat.le_of_ble_eq_true rfl, Nat.le_of_ble_eq_true rfl⟩ ⟨(Nat.le_of_ble_eq_true rfl), (Nat.le_of_ble_eq_true rfl)⟩ (Nat.le_of_ble_eq_true rfl) dL_goOn_346 (fun _ _ hx => hx.elim) (fun S124 h => ?_)
      refine z_widen (k' := 0) (n' := 0) (Nat.le_refl _) (Nat.le_refl _) ?_
      refine z_aload_n 0 dL_goOn_349 rfl rfl ?_
      refine z_aload_n 1 dL_goOn_350 rfl rfl ?_
      refine z_aload 7 dL_goOn_351 rfl ?_
      refine z_bipush (v := 7) dL_goOn_353 rfl ?_
      obtain ⟨hf126, h⟩ := h
      obtain ⟨hj128, h⟩ := h
      refine z_iald (j := 7) hf126.1 hf126.2 rfl hj128.1 hj128.2 dL_goOn_355 ?_
      obtain ⟨hf129, h⟩ := h
      obtain ⟨j130, hj131, h⟩ := h
      refine z_iald (j := j130) hf129.1 hf129.2 hj131.1 hj131.2.1 hj131.2.2 dL_goOn_356 ?_
      refine z_aload 6 dL_goOn_357 rfl ?_
      refine z_callSI (st := []) (w_L_lay h) zw_809 zw_807 zw_808 zw_29 zy_L_lay rfl rfl ⟨Nat.le_of_ble_eq_true rfl, Nat.le_of_ble_eq_true rfl⟩ ⟨(Nat.le_of_ble_eq_true rfl), (Nat.le_of_ble_eq_true rfl)⟩ (Nat.le_of_ble_eq_true rfl) dL_goOn_359 (fun _ _ hx => hx.elim) (fun r133 S132 h => ?_)
      refine z_widen (k' := 0) (n' := 0) (Nat.le_refl _) (Nat.le_refl _) ?_
      refine z_istore (lv' := [(9, .int r133), (0, .ref a0), (1, .ref a1), (2, .ref a2), (3, .ref a3), (4, .ref a4), (5, .ref a5), (6, .ref a6), (7, .ref a7), (8, .int l8)]) dL_goOn_362 (Nat.le_of_ble_eq_true rfl) rfl ?_
      refine z_goto 27 dL_goOn_364 (by decide) ?_
      refine z_sub [1, 2, 3, 4, 5, 6, 7, 8, 9, 0] rfl ?_
      exact hB27 a0 a1 a2 a3 a4 a5 a6 a7 l8 r133 S132 h
  · have h := h.2 c151
    refine z_aload 7 dL_goOn_282 rfl ?_
    refine z_bipush (v := 6) dL_goOn_284 rfl ?_
    refine z_iconst (v := 0) dL_goOn_286 rfl ?_
    obtain ⟨hf138, h⟩ := h
    obtain ⟨hj140, h⟩ := h
    have h := h _ rfl
    refine z_iast (j := 6) hf138.1 hf138.2 rfl hj140.1 hj140.2 dL_goOn_287 ?_
    obtain ⟨S141, hS142⟩ : ∃ z, z = sA S88 a7 6 0 := ⟨_, rfl⟩
    rw [← hS142] at h ⊢
    have hf138 : a7 ∈ gL S141 ∧ gK S141 a7 = 12 := by rw [hS142]; exact hf138
    refine z_goto 349 dL_goOn_288 (by decide) ?_
    refine z_aload_n 0 dL_goOn_349 rfl rfl ?_
    refine z_aload_n 1 dL_goOn_350 rfl rfl ?_
    refine z_aload 7 dL_goOn_351 rfl ?_
    refine z_bipush (v := 7) dL_goOn_353 rfl ?_
    obtain ⟨hj144, h⟩ := h
    refine z_iald (j := 7) hf138.1 hf138.2 rfl hj144.1 hj144.2 dL_goOn_355 ?_
    obtain ⟨hf145, h⟩ := h
    obtain ⟨j146, hj147, h⟩ := h
    refine z_iald (j := j146) hf145.1 hf145.2 hj147.1 hj147.2.1 hj147.2.2 dL_goOn_356 ?_
    refine z_aload 6 dL_goOn_357 rfl ?_
    refine z_callSI (st := []) (w_L_lay h) zw_809 zw_807 zw_808 zw_29 zy_L_lay rfl rfl ⟨Nat.le_of_ble_eq_true rfl, Nat.le_of_ble_eq_true rfl⟩ ⟨(Nat.le_of_ble_eq_true rfl), (Nat.le_of_ble_eq_true rfl)⟩ (Nat.le_of_ble_eq_true rfl) dL_goOn_359 (fun _ _ hx => hx.elim) (fun r149 S148 h => ?_)
    refine z_widen (k' := 0) (n' := 0) (Nat.le_refl _) (Nat.le_refl _) ?_
    refine z_istore (lv' := [(9, .int r149), (0, .ref a0), (1, .ref a1), (2, .ref a2), (3, .ref a3), (4, .ref a4), (5, .ref a5), (6, .ref a6), (7, .ref a7), (8, .int l8)]) dL_goOn_362 (Nat.le_of_ble_eq_true rfl) rfl ?_
    refine z_goto 27 dL_goOn_364 (by decide) ?_
    refine z_sub [1, 2, 3, 4, 5, 6, 7, 8, 9, 0] rfl ?_
    exact hB27 a0 a1 a2 a3 a4 a5 a6 a7 l8 r149 S148 h
set_option maxRecDepth 20000 in
set_option maxHeartbeats 4000000 in
theorem w_L_goOn_L27 {E : zE} {K367 : Nat → zS → Prop} {Q : Int32 → zS → Prop} {X : String → zS → Prop} (hK367 : ∀ (a7 : Nat) (S : zS), K367 a7 S → zJ E (RL, cL_goOn, 17, (some .int), false, [], zTr) ({ frames := 6, cells := 0, slots := 0, locals := 154 } : Room) (zq (qI Q)) (zx X) 367 [(7, .ref a7)] [] [] S 0 0) : ∀ (m27 : Nat) (a0 : Nat) (a1 : Nat) (a2 : Nat) (a3 : Nat) (a4 : Nat) (a5 : Nat) (a6 : Nat) (a7 : Nat) (l8 : Int32) (l9 : Int32) (S : zS), p_L_goOn_L27 E K367 Q X m27 a0 a1 a2 a3 a4 a5 a6 a7 l8 l9 S → zJ E (RL, cL_goOn, 17, (some .int), false, [], zTr) ({ frames := 6, cells := 0, slots := 0, locals := 154 } : Room) (zq (qI Q)) (zx X) 27 [(0, .ref a0), (1, .ref a1), (2, .ref a2), (3, .ref a3), (4, .ref a4), (5, .ref a5), (6, .ref a6), (7, .ref a7), (8, .int l8), (9, .int l9)] [] [] S 0 0 := by
  intro m27
  induction m27 with
  | zero => intro a0 a1 a2 a3 a4 a5 a6 a7 l8 l9 S h; exact (show False from h).elim
  | succ m27 ih =>
    intro a0 a1 a2 a3 a4 a5 a6 a7 l8 l9 S h
    unfold p_L_goOn_L27 at h
    refine z_aload 7 dL_goOn_27 rfl ?_
    refine z_bipush (v := 6) dL_goOn_29 rfl ?_
    obtain ⟨hf14, h⟩ := h
    obtain ⟨hj16, h⟩ := h
    refine z_iald (j := 6) hf14.1 hf14.2 rfl hj16.1 hj16.2 dL_goOn_31 ?_
    refine z_iconst (v := 1) dL_goOn_32 rfl ?_
    refine z_icmp_ne 367 dL_goOn_33 (by decide) (fun c157 => ?_) (fun c157 => ?_)
    · have h := h.1 c157
      refine z_sub [7] rfl ?_
      exact hK367 a7 S h
    · have h := h.2 c157
      refine z_aload 7 dL_goOn_36 rfl ?_
      refine z_bipush (v := 10) dL_goOn_38 rfl ?_
      obtain ⟨hj18, h⟩ := h
      refine z_iald (j := 10) hf14.1 hf14.2 rfl hj18.1 hj18.2 dL_goOn_40 ?_
      refine z_iload 9 dL_goOn_41 rfl ?_
      refine z_icmp_ge 367 dL_goOn_43 (by decide) (fun c156 => ?_) (fun c156 => ?_)
      · have h := h.1 c156
        refine z_sub [7] rfl ?_
        exact hK367 a7 S h
      · have h := h.2 c156
        refine z_aload 7 dL_goOn_46 rfl ?_
        refine z_aload 7 dL_goOn_48 rfl ?_
        refine z_bipush (v := 10) dL_goOn_50 rfl ?_
        obtain ⟨hj20, h⟩ := h
        refine z_iald (j := 10) hf14.1 hf14.2 rfl hj20.1 hj20.2 dL_goOn_52 ?_
        refine z_callSI (st := []) (w_L_isPulled h) zw_1071 zw_1069 zw_1070 zw_29 zy_L_isPulled rfl rfl ⟨Nat.le_of_ble_eq_true rfl, Nat.le_of_ble_eq_true rfl⟩ ⟨(Nat.le_of_ble_eq_true rfl), (Nat.le_of_ble_eq_true rfl)⟩ (Nat.le_of_ble_eq_true rfl) dL_goOn_53 (fun _ _ hx => hx.elim) (fun r22 S21 h => ?_)
        refine z_widen (k' := 0) (n' := 0) (Nat.le_refl _) (Nat.le_refl _) ?_
        refine z_if_eq 367 dL_goOn_56 (by decide) (fun c155 => ?_) (fun c155 => ?_)
        · have h := h.1 c155
          refine z_sub [7] rfl ?_
          exact hK367 a7 S21 h
        · have h := h.2 c155
          refine z_aload 6 dL_goOn_59 rfl ?_
          refine z_aload 7 dL_goOn_61 rfl ?_
          refine z_bipush (v := 10) dL_goOn_63 rfl ?_
          obtain ⟨hf23, h⟩ := h
          obtain ⟨hj25, h⟩ := h
          refine z_iald (j := 10) hf23.1 hf23.2 rfl hj25.1 hj25.2 dL_goOn_65 ?_
          obtain ⟨hf26, h⟩ := h
          obtain ⟨j27, hj28, h⟩ := h
          refine z_iald (j := j27) hf26.1 hf26.2 hj28.1 hj28.2.1 hj28.2.2 dL_goOn_66 ?_
          refine z_istore (lv' := [(10, .int (gA S21 a6 j27)), (0, .ref a0), (1, .ref a1), (2, .ref a2), (3, .ref a3), (4, .ref a4), (5, .ref a5), (6, .ref a6), (7, .ref a7), (8, .int l8), (9, .int l9)]) dL_goOn_67 (Nat.le_of_ble_eq_true rfl) rfl ?_
          refine z_iconst (v := (-1)) dL_goOn_69 rfl ?_
          refine z_istore (lv' := [(11, .int (-1)), (10, .int (gA S21 a6 j27)), (0, .ref a0), (1, .ref a1), (2, .ref a2), (3, .ref a3), (4, .ref a4), (5, .ref a5), (6, .ref a6), (7, .ref a7), (8, .int l8), (9, .int l9)]) dL_goOn_70 (Nat.le_of_ble_eq_true rfl) rfl ?_
          refine z_iconst (v := 0) dL_goOn_72 rfl ?_
          refine z_istore (lv' := [(12, .int 0), (11, .int (-1)), (10, .int (gA S21 a6 j27)), (0, .ref a0), (1, .ref a1), (2, .ref a2), (3, .ref a3), (4, .ref a4), (5, .ref a5), (6, .ref a6), (7, .ref a7), (8, .int l8), (9, .int l9)]) dL_goOn_73 (Nat.le_of_ble_eq_true rfl) rfl ?_
          refine z_iconst (v := 0) dL_goOn_75 rfl ?_
          refine z_istore (lv' := [(13, .int 0), (12, .int 0), (11, .int (-1)), (10, .int (gA S21 a6 j27)), (0, .ref a0), (1, .ref a1), (2, .ref a2), (3, .ref a3), (4, .ref a4), (5, .ref a5), (6, .ref a6), (7, .ref a7), (8, .int l8), (9, .int l9)]) dL_goOn_76 (Nat.le_of_ble_eq_true rfl) rfl ?_
          obtain ⟨m78, h⟩ := h
          refine z_sub [4, 5, 6, 7, 8, 9, 10, 11, 12, 13, 3, 2, 1, 0] rfl ?_
          refine w_L_goOn_L78 (fun a0 a1 a2 a3 a4 a5 a6 a7 l8 l9 l12 S h => ?_) m78 a0 a1 a2 a3 a4 a5 a6 a7 l8 l9 (gA S21 a6 j27) (-1) 0 0 S21 h
          refine z_aload 7 dL_goOn_232 rfl ?_
          refine z_bipush (v := 13) dL_goOn_234 rfl ?_
          refine z_dup2 dL_goOn_236 rfl rfl ?_
          obtain ⟨hf71, h⟩ := h
          obtain ⟨hj73, h⟩ := h
          refine z_iald (j := 13) hf71.1 hf71.2 rfl hj73.1 hj73.2 dL_goOn_237 ?_
          refine z_iload 10 dL_goOn_238 rfl ?_
          refine z_if_eq 247 dL_goOn_240 (by decide) (fun c154 => ?_) (fun c154 => ?_)
          · have h := h.1 c154
            refine z_iconst (v := 0) dL_goOn_247 rfl ?_
            refine z_sub [0, 1, 2, 3, 4, 5, 6, 7, 8, 9] rfl ?_
            refine w_L_goOn_J248 (fun a0 a1 a2 a3 a4 a5 a6 a7 l8 l9 S h => ?_) a0 a1 a2 a3 a4 a5 a6 a7 l8 l9 0 (gA S a7 13) 13 a7 S h
            exact ih a0 a1 a2 a3 a4 a5 a6 a7 l8 l9 S h
          · have h := h.2 c154
            refine z_iconst (v := 1) dL_goOn_243 rfl ?_
            refine z_goto 248 dL_goOn_244 (by decide) ?_
            refine z_sub [0, 1, 2, 3, 4, 5, 6, 7, 8, 9] rfl ?_
            refine w_L_goOn_J248 (fun a0 a1 a2 a3 a4 a5 a6 a7 l8 l9 S h => ?_) a0 a1 a2 a3 a4 a5 a6 a7 l8 l9 1 (gA S a7 13) 13 a7 S h
            exact ih a0 a1 a2 a3 a4 a5 a6 a7 l8 l9 S h
set_option maxRecDepth 20000 in
set_option maxHeartbeats 4000000 in
theorem w_L_goOn {E : zE} {a0 : Nat} {a1 : Nat} {a2 : Nat} {a3 : Nat} {a4 : Nat} {a5 : Nat} {a6 : Nat} {a7 : Nat} {S : zS} {Q : Int32 → zS → Prop} {X : String → zS → Prop} (h : p_L_goOn E a0 a1 a2 a3 a4 a5 a6 a7 S Q X) : zM E yL_goOn cL_goOn 17 (some .int) ({ frames := 6, cells := 0, slots := 0, locals := 154 } : Room) [.ref a0, .ref a1, .ref a2, .ref a3, .ref a4, .ref a5, .ref a6, .ref a7] S (qI Q) X := by
  unfold p_L_goOn at h
  refine zM_of RL false (by decide) rfl (fun h => by cases h) (Nat.le_of_ble_eq_true rfl) ?_
  refine z_aload_n 0 dL_goOn_0 rfl rfl ?_
  refine z_aload_n 1 dL_goOn_1 rfl rfl ?_
  refine z_aload 7 dL_goOn_2 rfl ?_
  refine z_bipush (v := 7) dL_goOn_4 rfl ?_
  obtain ⟨hf1, h⟩ := h
  obtain ⟨hj3, h⟩ := h
  refine z_iald (j := 7) hf1.1 hf1.2 rfl hj3.1 hj3.2 dL_goOn_6 ?_
  refine z_callSI (st := []) (w_L_stageIn h) zw_800 zw_798 zw_799 zw_29 zy_L_stageIn rfl rfl ⟨Nat.le_of_ble_eq_true rfl, Nat.le_of_ble_eq_true rfl⟩ ⟨(Nat.le_of_ble_eq_true rfl), (Nat.le_of_ble_eq_true rfl)⟩ (Nat.le_of_ble_eq_true rfl) dL_goOn_7 (fun _ _ hx => hx.elim) (fun r5 S4 h => ?_)
  refine z_widen (k' := 0) (n' := 0) (Nat.le_refl _) (Nat.le_refl _) ?_
  refine z_istore (lv' := [(8, .int r5), (0, .ref a0), (1, .ref a1), (2, .ref a2), (3, .ref a3), (4, .ref a4), (5, .ref a5), (6, .ref a6), (7, .ref a7)]) dL_goOn_10 (Nat.le_of_ble_eq_true rfl) rfl ?_
  refine z_aload_n 1 dL_goOn_12 rfl rfl ?_
  refine z_aload_n 2 dL_goOn_13 rfl rfl ?_
  refine z_aload 8 dL_goOn_14 rfl ?_
  refine z_bipush (v := 7) dL_goOn_16 rfl ?_
  obtain ⟨hf6, h⟩ := h
  obtain ⟨hj8, h⟩ := h
  refine z_iald (j := 7) hf6.1 hf6.2 rfl hj8.1 hj8.2 dL_goOn_18 ?_
  obtain ⟨hf9, h⟩ := h
  obtain ⟨j10, hj11, h⟩ := h
  refine z_iald (j := j10) hf9.1 hf9.2 hj11.1 hj11.2.1 hj11.2.2 dL_goOn_19 ?_
  refine z_aload 7 dL_goOn_20 rfl ?_
  refine z_callSI (st := []) (w_L_lay h) zw_809 zw_807 zw_808 zw_29 zy_L_lay rfl rfl ⟨Nat.le_of_ble_eq_true rfl, Nat.le_of_ble_eq_true rfl⟩ ⟨(Nat.le_of_ble_eq_true rfl), (Nat.le_of_ble_eq_true rfl)⟩ (Nat.le_of_ble_eq_true rfl) dL_goOn_22 (fun _ _ hx => hx.elim) (fun r13 S12 h => ?_)
  refine z_widen (k' := 0) (n' := 0) (Nat.le_refl _) (Nat.le_refl _) ?_
  refine z_istore (lv' := [(9, .int r13), (8, .int r5), (0, .ref a0), (1, .ref a1), (2, .ref a2), (3, .ref a3), (4, .ref a4), (5, .ref a5), (6, .ref a6), (7, .ref a7)]) dL_goOn_25 (Nat.le_of_ble_eq_true rfl) rfl ?_
  obtain ⟨m27, h⟩ := h
  refine z_sub [2, 3, 4, 5, 6, 7, 8, 9, 1, 0] rfl ?_
  refine w_L_goOn_L27 (fun a7 S h => ?_) m27 a0 a1 a2 a3 a4 a5 a6 a7 r5 r13 S12 h
  refine z_aload 0 dL_goOn_367 rfl ?_
  refine z_bipush (v := 10) dL_goOn_369 rfl ?_
  obtain ⟨hf158, h⟩ := h
  obtain ⟨hj160, h⟩ := h
  refine z_iald (j := 10) hf158.1 hf158.2 rfl hj160.1 hj160.2 dL_goOn_371 ?_
  exact z_ireturn ⟨rfl, _, rfl, h⟩ rfl (Nat.le_of_ble_eq_true rfl) (Nat.le_of_ble_eq_true rfl) dL_goOn_372
set_option maxRecDepth 20000 in
set_option maxHeartbeats 4000000 in
theorem w_L_place {E : zE} {l0 : Int32} {l1 : Int32} {S : zS} {Q : Int32 → zS → Prop} {X : String → zS → Prop} (h : p_L_place E l0 l1 S Q X) : zM E yL_place cL_place 2 (some .int) ({ frames := 0, cells := 0, slots := 0, locals := 0 } : Room) [.int l0, .int l1] S (qI Q) X := by
  unfold p_L_place at h
  refine zM_of RL false (by decide) rfl (fun h => by cases h) (Nat.le_of_ble_eq_true rfl) ?_
  refine z_iload_n 0 dL_place_0 rfl rfl ?_
  refine z_iconst (v := 3) dL_place_1 rfl ?_
  refine z_iload_n 1 dL_place_2 rfl rfl ?_
  refine z_imul dL_place_3 ?_
  refine z_ishr dL_place_4 ?_
  refine z_bipush (v := 7) dL_place_5 rfl ?_
  refine z_iand dL_place_7 ?_
  exact z_ireturn ⟨rfl, _, rfl, h⟩ rfl (Nat.le_of_ble_eq_true rfl) (Nat.le_of_ble_eq_true rfl) dL_place_8
set_option maxRecDepth 20000 in
set_option maxHeartbeats 4000000 in
theorem w_L_falseMany_L23 {E : zE} {K59 : Int64 → Nat → Int32 → Nat → Int32 → zS → Prop} {Q : Int32 → zS → Prop} {X : String → zS → Prop} (hK59 : ∀ (g0 : Int64) (a2 : Nat) (l3 : Int32) (a4 : Nat) (l5 : Int32) (S : zS), K59 g0 a2 l3 a4 l5 S → zJ E (RL, cL_falseMany, 12, (some .int), false, [], zTr) ({ frames := 2, cells := 1, slots := 64, locals := 47 } : Room) (zq (qI Q)) (zx X) 59 [(0, .long g0), (2, .ref a2), (3, .int l3), (4, .ref a4), (5, .int l5)] [] [] S 1 64) : ∀ (m23 : Nat) (g0 : Int64) (a2 : Nat) (l3 : Int32) (a4 : Nat) (l5 : Int32) (l6 : Int32) (l7 : Int32) (S : zS), p_L_falseMany_L23 E K59 Q X m23 g0 a2 l3 a4 l5 l6 l7 S → zJ E (RL, cL_falseMany, 12, (some .int), false, [], zTr) ({ frames := 2, cells := 1, slots := 64, locals := 47 } : Room) (zq (qI Q)) (zx X) 23 [(0, .long g0), (2, .ref a2), (3, .int l3), (4, .ref a4), (5, .int l5), (6, .int l6), (7, .int l7)] [] [] S 1 64 := by
  intro m23
  induction m23 with
  | zero => intro g0 a2 l3 a4 l5 l6 l7 S h; exact (show False from h).elim
  | succ m23 ih =>
    intro g0 a2 l3 a4 l5 l6 l7 S h
    unfold p_L_falseMany_L23 at h
    refine z_iload 6 dL_falseMany_23 rfl ?_
    refine z_lload_n 0 dL_falseMany_25 rfl rfl ?_
    refine z_callSI (st := [.int l7]) (w_L_size h) zw_789 zw_787 zw_788 zw_29 zy_L_size rfl rfl ⟨Nat.le_of_ble_eq_true rfl, Nat.le_of_ble_eq_true rfl⟩ ⟨(Nat.le_of_ble_eq_true rfl), (Nat.le_of_ble_eq_true rfl)⟩ (Nat.le_of_ble_eq_true rfl) dL_falseMany_26 (fun _ _ hx => hx.elim) (fun r12 S11 h => ?_)
    refine z_widen (k' := 1) (n' := 64) (Nat.le_refl _) (Nat.le_refl _) ?_
    refine z_icmp_ge 59 dL_falseMany_29 (by decide) (fun c23 => ?_) (fun c23 => ?_)
    · have h := h.1 c23
      refine z_sub [0, 1, 2, 3, 4] rfl ?_
      exact hK59 g0 a2 l3 a4 l5 S11 h
    · have h := h.2 c23
      refine z_iload 5 dL_falseMany_32 rfl ?_
      refine z_iload_n 2 dL_falseMany_34 rfl rfl ?_
      refine z_lload_n 0 dL_falseMany_35 rfl rfl ?_
      refine z_iconst (v := 0) dL_falseMany_36 rfl ?_
      refine z_iload 6 dL_falseMany_37 rfl ?_
      refine z_callSI (st := [.int l3, .int l6]) (w_L_its h) zw_792 zw_790 zw_791 zw_29 zy_L_its rfl rfl ⟨Nat.le_of_ble_eq_true rfl, Nat.le_of_ble_eq_true rfl⟩ ⟨(Nat.le_of_ble_eq_true rfl), (Nat.le_of_ble_eq_true rfl)⟩ (Nat.le_of_ble_eq_true rfl) dL_falseMany_39 (fun _ _ hx => hx.elim) (fun r14 S13 h => ?_)
      refine z_widen (k' := 1) (n' := 64) (Nat.le_refl _) (Nat.le_refl _) ?_
      refine z_callSI (st := []) (w_L_changed h) zw_815 zw_813 zw_814 zw_29 zy_L_changed rfl rfl ⟨Nat.le_of_ble_eq_true rfl, Nat.le_of_ble_eq_true rfl⟩ ⟨(Nat.le_of_ble_eq_true rfl), (Nat.le_of_ble_eq_true rfl)⟩ (Nat.le_of_ble_eq_true rfl) dL_falseMany_42 (fun _ _ hx => hx.elim) (fun r16 S15 h => ?_)
      refine z_widen (k' := 1) (n' := 64) (Nat.le_refl _) (Nat.le_refl _) ?_
      refine z_istore (lv' := [(6, .int r16), (0, .long g0), (2, .ref a2), (3, .int l3), (4, .ref a4), (5, .int l5), (7, .int l7)]) dL_falseMany_45 (Nat.le_of_ble_eq_true rfl) rfl ?_
      refine z_aload_n 2 dL_falseMany_47 rfl rfl ?_
      refine z_iload 6 dL_falseMany_48 rfl ?_
      refine z_iload 0 dL_falseMany_50 rfl ?_
      obtain ⟨hf17, h⟩ := h
      obtain ⟨j18, hj19, h⟩ := h
      have h := h _ rfl
      refine z_iast (j := j18) hf17.1 hf17.2 hj19.1 hj19.2.1 hj19.2.2 dL_falseMany_52 ?_
      obtain ⟨S20, hS21⟩ : ∃ z, z = sA S15 a2 j18 r16 := ⟨_, rfl⟩
      rw [← hS21] at h ⊢
      have hf17 : a2 ∈ gL S20 ∧ gK S20 a2 = 12 := by rw [hS21]; exact hf17
      refine z_iinc (v := (l7 + 1)) (lv' := [(7, .int (l7 + 1)), (6, .int r16), (0, .long g0), (2, .ref a2), (3, .int l3), (4, .ref a4), (5, .int l5)]) 6 dL_falseMany_53 rfl rfl (Nat.le_of_ble_eq_true rfl) rfl ?_
      refine z_goto 23 dL_falseMany_56 (by decide) ?_
      refine z_sub [2, 3, 4, 5, 6, 1, 0] rfl ?_
      exact ih g0 a2 l3 a4 l5 r16 (l7 + 1) S20 h
set_option maxRecDepth 20000 in
set_option maxHeartbeats 4000000 in
theorem w_L_falseMany_L89 {E : zE} {K131 : Int64 → Nat → Int32 → Nat → Int32 → Int32 → Int32 → Int32 → zS → Prop} {Q : Int32 → zS → Prop} {X : String → zS → Prop} (hK131 : ∀ (g0 : Int64) (a2 : Nat) (l3 : Int32) (a4 : Nat) (l5 : Int32) (l7 : Int32) (l8 : Int32) (l9 : Int32) (S : zS), K131 g0 a2 l3 a4 l5 l7 l8 l9 S → zJ E (RL, cL_falseMany, 12, (some .int), false, [], zTr) ({ frames := 2, cells := 1, slots := 64, locals := 47 } : Room) (zq (qI Q)) (zx X) 131 [(0, .long g0), (2, .ref a2), (3, .int l3), (4, .ref a4), (5, .int l5), (7, .int l7), (8, .int l8), (9, .int l9)] [] [] S 1 64) : ∀ (m89 : Nat) (g0 : Int64) (a2 : Nat) (l3 : Int32) (a4 : Nat) (l5 : Int32) (l7 : Int32) (l8 : Int32) (l9 : Int32) (l10 : Int32) (S : zS), p_L_falseMany_L89 E K131 Q X m89 g0 a2 l3 a4 l5 l7 l8 l9 l10 S → zJ E (RL, cL_falseMany, 12, (some .int), false, [], zTr) ({ frames := 2, cells := 1, slots := 64, locals := 47 } : Room) (zq (qI Q)) (zx X) 89 [(0, .long g0), (2, .ref a2), (3, .int l3), (4, .ref a4), (5, .int l5), (7, .int l7), (8, .int l8), (9, .int l9), (10, .int l10)] [] [] S 1 64 := by
  intro m89
  induction m89 with
  | zero => intro g0 a2 l3 a4 l5 l7 l8 l9 l10 S h; exact (show False from h).elim
  | succ m89 ih =>
    intro g0 a2 l3 a4 l5 l7 l8 l9 l10 S h
    unfold p_L_falseMany_L89 at h
    refine z_iload 8 dL_falseMany_89 rfl ?_
    refine z_iload_n 2 dL_falseMany_91 rfl rfl ?_
    refine z_icmp_ge 131 dL_falseMany_92 (by decide) (fun c35 => ?_) (fun c35 => ?_)
    · have h := h.1 c35
      refine z_sub [0, 1, 2, 3, 4, 5, 6, 7] rfl ?_
      exact hK131 g0 a2 l3 a4 l5 l7 l8 l9 S h
    · have h := h.2 c35
      refine z_iload 7 dL_falseMany_95 rfl ?_
      refine z_aload_n 1 dL_falseMany_97 rfl rfl ?_
      refine z_iload 5 dL_falseMany_98 rfl ?_
      obtain ⟨hf28, h⟩ := h
      obtain ⟨j29, hj30, h⟩ := h
      refine z_iald (j := j29) hf28.1 hf28.2 hj30.1 hj30.2.1 hj30.2.2 dL_falseMany_100 ?_
      refine z_iload_n 2 dL_falseMany_101 rfl rfl ?_
      refine z_aload_n 1 dL_falseMany_102 rfl rfl ?_
      refine z_iload 6 dL_falseMany_103 rfl ?_
      obtain ⟨j31, hj32, h⟩ := h
      refine z_iald (j := j31) hf28.1 hf28.2 hj32.1 hj32.2.1 hj32.2.2 dL_falseMany_105 ?_
      refine z_iconst (v := 3) dL_falseMany_106 rfl ?_
      refine z_iload 8 dL_falseMany_107 rfl ?_
      refine z_imul dL_falseMany_109 ?_
      refine z_ishr dL_falseMany_110 ?_
      refine z_bipush (v := 7) dL_falseMany_111 rfl ?_
      refine z_iand dL_falseMany_113 ?_
      refine z_callSI (st := [.int l9]) (w_L_bell h) zw_1074 zw_1072 zw_1073 zw_29 zy_L_bell rfl rfl ⟨Nat.le_of_ble_eq_true rfl, Nat.le_of_ble_eq_true rfl⟩ ⟨(Nat.le_of_ble_eq_true rfl), (Nat.le_of_ble_eq_true rfl)⟩ (Nat.le_of_ble_eq_true rfl) dL_falseMany_114 (fun _ _ hx => hx.elim) (fun r34 S33 h => ?_)
      refine z_widen (k' := 1) (n' := 64) (Nat.le_refl _) (Nat.le_refl _) ?_
      refine z_iconst (v := 3) dL_falseMany_117 rfl ?_
      refine z_iload 8 dL_falseMany_118 rfl ?_
      refine z_imul dL_falseMany_120 ?_
      refine z_ishl dL_falseMany_121 ?_
      refine z_ior dL_falseMany_122 ?_
      refine z_istore (lv' := [(9, .int (l9 ||| (r34 <<< ((3 * l10) &&& 31)))), (0, .long g0), (2, .ref a2), (3, .int l3), (4, .ref a4), (5, .int l5), (7, .int l7), (8, .int l8), (10, .int l10)]) dL_falseMany_123 (Nat.le_of_ble_eq_true rfl) rfl ?_
      refine z_iinc (v := (l10 + 1)) (lv' := [(10, .int (l10 + 1)), (9, .int (l9 ||| (r34 <<< ((3 * l10) &&& 31)))), (0, .long g0), (2, .ref a2), (3, .int l3), (4, .ref a4), (5, .int l5), (7, .int l7), (8, .int l8)]) 8 dL_falseMany_125 rfl rfl (Nat.le_of_ble_eq_true rfl) rfl ?_
      refine z_goto 89 dL_falseMany_128 (by decide) ?_
      refine z_sub [2, 3, 4, 5, 6, 7, 8, 1, 0] rfl ?_
      exact ih g0 a2 l3 a4 l5 l7 l8 (l9 ||| (r34 <<< ((3 * l10) &&& 31))) (l10 + 1) S33 h
set_option maxRecDepth 20000 in
set_option maxHeartbeats 4000000 in
theorem w_L_falseMany_L150 {E : zE} {K183 : Int64 → Nat → Int32 → Nat → Int32 → Int32 → Int32 → Int32 → Int32 → zS → Prop} {Q : Int32 → zS → Prop} {X : String → zS → Prop} (hK183 : ∀ (g0 : Int64) (a2 : Nat) (l3 : Int32) (a4 : Nat) (l5 : Int32) (l7 : Int32) (l8 : Int32) (l9 : Int32) (l10 : Int32) (S : zS), K183 g0 a2 l3 a4 l5 l7 l8 l9 l10 S → zJ E (RL, cL_falseMany, 12, (some .int), false, [], zTr) ({ frames := 2, cells := 1, slots := 64, locals := 47 } : Room) (zq (qI Q)) (zx X) 183 [(0, .long g0), (2, .ref a2), (3, .int l3), (4, .ref a4), (5, .int l5), (7, .int l7), (8, .int l8), (9, .int l9), (10, .int l10)] [] [] S 1 64) : ∀ (m150 : Nat) (g0 : Int64) (a2 : Nat) (l3 : Int32) (a4 : Nat) (l5 : Int32) (l7 : Int32) (l8 : Int32) (l9 : Int32) (l10 : Int32) (l11 : Int32) (S : zS), p_L_falseMany_L150 E K183 Q X m150 g0 a2 l3 a4 l5 l7 l8 l9 l10 l11 S → zJ E (RL, cL_falseMany, 12, (some .int), false, [], zTr) ({ frames := 2, cells := 1, slots := 64, locals := 47 } : Room) (zq (qI Q)) (zx X) 150 [(0, .long g0), (2, .ref a2), (3, .int l3), (4, .ref a4), (5, .int l5), (7, .int l7), (8, .int l8), (9, .int l9), (10, .int l10), (11, .int l11)] [] [] S 1 64 := by
  intro m150
  induction m150 with
  | zero => intro g0 a2 l3 a4 l5 l7 l8 l9 l10 l11 S h; exact (show False from h).elim
  | succ m150 ih =>
    intro g0 a2 l3 a4 l5 l7 l8 l9 l10 l11 S h
    unfold p_L_falseMany_L150 at h
    refine z_iload 9 dL_falseMany_150 rfl ?_
    refine z_iload 4 dL_falseMany_152 rfl ?_
    refine z_icmp_ge 183 dL_falseMany_154 (by decide) (fun c42 => ?_) (fun c42 => ?_)
    · have h := h.1 c42
      refine z_sub [0, 1, 2, 3, 4, 5, 6, 7, 8] rfl ?_
      exact hK183 g0 a2 l3 a4 l5 l7 l8 l9 l10 S h
    · have h := h.2 c42
      refine z_iload 8 dL_falseMany_157 rfl ?_
      refine z_aload 3 dL_falseMany_159 rfl ?_
      refine z_iload 9 dL_falseMany_161 rfl ?_
      obtain ⟨hf38, h⟩ := h
      obtain ⟨j39, hj40, h⟩ := h
      refine z_iald (j := j39) hf38.1 hf38.2 hj40.1 hj40.2.1 hj40.2.2 dL_falseMany_163 ?_
      refine z_iload 7 dL_falseMany_164 rfl ?_
      refine z_icmp_eq 173 dL_falseMany_166 (by decide) (fun c41 => ?_) (fun c41 => ?_)
      · have h := h.1 c41
        refine z_iconst (v := 0) dL_falseMany_173 rfl ?_
        refine z_iand dL_falseMany_174 ?_
        refine z_istore (lv' := [(10, .int (l10 &&& 0)), (0, .long g0), (2, .ref a2), (3, .int l3), (4, .ref a4), (5, .int l5), (7, .int l7), (8, .int l8), (9, .int l9), (11, .int l11)]) dL_falseMany_175 (Nat.le_of_ble_eq_true rfl) rfl ?_
        refine z_iinc (v := (l11 + 1)) (lv' := [(11, .int (l11 + 1)), (10, .int (l10 &&& 0)), (0, .long g0), (2, .ref a2), (3, .int l3), (4, .ref a4), (5, .int l5), (7, .int l7), (8, .int l8), (9, .int l9)]) 9 dL_falseMany_177 rfl rfl (Nat.le_of_ble_eq_true rfl) rfl ?_
        refine z_goto 150 dL_falseMany_180 (by decide) ?_
        refine z_sub [2, 3, 4, 5, 6, 7, 8, 9, 1, 0] rfl ?_
        exact ih g0 a2 l3 a4 l5 l7 l8 l9 (l10 &&& 0) (l11 + 1) S h
      · have h := h.2 c41
        refine z_iconst (v := 1) dL_falseMany_169 rfl ?_
        refine z_goto 174 dL_falseMany_170 (by decide) ?_
        refine z_iand dL_falseMany_174 ?_
        refine z_istore (lv' := [(10, .int (l10 &&& 1)), (0, .long g0), (2, .ref a2), (3, .int l3), (4, .ref a4), (5, .int l5), (7, .int l7), (8, .int l8), (9, .int l9), (11, .int l11)]) dL_falseMany_175 (Nat.le_of_ble_eq_true rfl) rfl ?_
        refine z_iinc (v := (l11 + 1)) (lv' := [(11, .int (l11 + 1)), (10, .int (l10 &&& 1)), (0, .long g0), (2, .ref a2), (3, .int l3), (4, .ref a4), (5, .int l5), (7, .int l7), (8, .int l8), (9, .int l9)]) 9 dL_falseMany_177 rfl rfl (Nat.le_of_ble_eq_true rfl) rfl ?_
        refine z_goto 150 dL_falseMany_180 (by decide) ?_
        refine z_sub [2, 3, 4, 5, 6, 7, 8, 9, 1, 0] rfl ?_
        exact ih g0 a2 l3 a4 l5 l7 l8 l9 (l10 &&& 1) (l11 + 1) S h
set_option maxRecDepth 20000 in
set_option maxHeartbeats 4000000 in
theorem w_L_falseMany_J145 {E : zE} {B74 : Int64 → Nat → Int32 → Nat → Int32 → Int32 → Int32 → zS → Prop} {Q : Int32 → zS → Prop} {X : String → zS → Prop} (hB74 : ∀ (g0 : Int64) (a2 : Nat) (l3 : Int32) (a4 : Nat) (l5 : Int32) (l7 : Int32) (l8 : Int32) (S : zS), B74 g0 a2 l3 a4 l5 l7 l8 S → zJ E (RL, cL_falseMany, 12, (some .int), false, [], zTr) ({ frames := 2, cells := 1, slots := 64, locals := 47 } : Room) (zq (qI Q)) (zx X) 74 [(0, .long g0), (2, .ref a2), (3, .int l3), (4, .ref a4), (5, .int l5), (7, .int l7), (8, .int l8)] [] [] S 1 64) (g0 : Int64) (a2 : Nat) (l3 : Int32) (a4 : Nat) (l5 : Int32) (l7 : Int32) (l8 : Int32) (l9 : Int32) (l100 : Int32) (S : zS) (h : p_L_falseMany_J145 E B74 Q X g0 a2 l3 a4 l5 l7 l8 l9 l100 S) : zJ E (RL, cL_falseMany, 12, (some .int), false, [], zTr) ({ frames := 2, cells := 1, slots := 64, locals := 47 } : Room) (zq (qI Q)) (zx X) 145 [(0, .long g0), (2, .ref a2), (3, .int l3), (4, .ref a4), (5, .int l5), (7, .int l7), (8, .int l8), (9, .int l9)] [.int l100] [] S 1 64 := by
  unfold p_L_falseMany_J145 at h
  refine z_istore (lv' := [(10, .int l100), (0, .long g0), (2, .ref a2), (3, .int l3), (4, .ref a4), (5, .int l5), (7, .int l7), (8, .int l8), (9, .int l9)]) dL_falseMany_145 (Nat.le_of_ble_eq_true rfl) rfl ?_
  refine z_iconst (v := 0) dL_falseMany_147 rfl ?_
  refine z_istore (lv' := [(11, .int 0), (10, .int l100), (0, .long g0), (2, .ref a2), (3, .int l3), (4, .ref a4), (5, .int l5), (7, .int l7), (8, .int l8), (9, .int l9)]) dL_falseMany_148 (Nat.le_of_ble_eq_true rfl) rfl ?_
  obtain ⟨m150, h⟩ := h
  refine z_sub [2, 3, 4, 5, 6, 7, 8, 9, 1, 0] rfl ?_
  refine w_L_falseMany_L150 (fun g0 a2 l3 a4 l5 l7 l8 l9 l10 S h => ?_) m150 g0 a2 l3 a4 l5 l7 l8 l9 l100 0 S h
  refine z_iload 8 dL_falseMany_183 rfl ?_
  refine z_if_ne 191 dL_falseMany_185 (by decide) (fun c49 => ?_) (fun c49 => ?_)
  · have h := h.1 c49
    refine z_aload 3 dL_falseMany_191 rfl ?_
    refine z_iload 4 dL_falseMany_193 rfl ?_
    refine z_iload 7 dL_falseMany_195 rfl ?_
    obtain ⟨hf43, h⟩ := h
    obtain ⟨j44, hj45, h⟩ := h
    have h := h _ rfl
    refine z_iast (j := j44) hf43.1 hf43.2 hj45.1 hj45.2.1 hj45.2.2 dL_falseMany_197 ?_
    obtain ⟨S46, hS47⟩ : ∃ z, z = sA S a4 j44 l9 := ⟨_, rfl⟩
    rw [← hS47] at h ⊢
    have hf43 : a4 ∈ gL S46 ∧ gK S46 a4 = 12 := by rw [hS47]; exact hf43
    refine z_iinc (v := (l5 + 1)) (lv' := [(5, .int (l5 + 1)), (0, .long g0), (2, .ref a2), (3, .int l3), (4, .ref a4), (7, .int l7), (8, .int l8), (9, .int l9), (10, .int l10)]) 4 dL_falseMany_198 rfl rfl (Nat.le_of_ble_eq_true rfl) rfl ?_
    refine z_iinc (v := (l8 + 1)) (lv' := [(8, .int (l8 + 1)), (5, .int (l5 + 1)), (0, .long g0), (2, .ref a2), (3, .int l3), (4, .ref a4), (7, .int l7), (9, .int l9), (10, .int l10)]) 6 dL_falseMany_201 rfl rfl (Nat.le_of_ble_eq_true rfl) rfl ?_
    refine z_goto 74 dL_falseMany_204 (by decide) ?_
    refine z_sub [2, 3, 4, 5, 1, 6, 0] rfl ?_
    exact hB74 g0 a2 l3 a4 (l5 + 1) l7 (l8 + 1) S46 h
  · have h := h.2 c49
    refine z_goto 201 dL_falseMany_188 (by decide) ?_
    refine z_iinc (v := (l8 + 1)) (lv' := [(8, .int (l8 + 1)), (0, .long g0), (2, .ref a2), (3, .int l3), (4, .ref a4), (5, .int l5), (7, .int l7), (9, .int l9), (10, .int l10)]) 6 dL_falseMany_201 rfl rfl (Nat.le_of_ble_eq_true rfl) rfl ?_
    refine z_goto 74 dL_falseMany_204 (by decide) ?_
    refine z_sub [1, 2, 3, 4, 5, 6, 0] rfl ?_
    exact hB74 g0 a2 l3 a4 l5 l7 (l8 + 1) S h
set_option maxRecDepth 20000 in
set_option maxHeartbeats 4000000 in
theorem w_L_falseMany_L74 {E : zE} {K207 : Int64 → Nat → Int32 → Nat → Int32 → Int32 → zS → Prop} {Q : Int32 → zS → Prop} {X : String → zS → Prop} (hK207 : ∀ (g0 : Int64) (a2 : Nat) (l3 : Int32) (a4 : Nat) (l5 : Int32) (l7 : Int32) (S : zS), K207 g0 a2 l3 a4 l5 l7 S → zJ E (RL, cL_falseMany, 12, (some .int), false, [], zTr) ({ frames := 2, cells := 1, slots := 64, locals := 47 } : Room) (zq (qI Q)) (zx X) 207 [(0, .long g0), (2, .ref a2), (3, .int l3), (4, .ref a4), (5, .int l5), (7, .int l7)] [] [] S 1 64) : ∀ (m74 : Nat) (g0 : Int64) (a2 : Nat) (l3 : Int32) (a4 : Nat) (l5 : Int32) (l7 : Int32) (l8 : Int32) (S : zS), p_L_falseMany_L74 E K207 Q X m74 g0 a2 l3 a4 l5 l7 l8 S → zJ E (RL, cL_falseMany, 12, (some .int), false, [], zTr) ({ frames := 2, cells := 1, slots := 64, locals := 47 } : Room) (zq (qI Q)) (zx X) 74 [(0, .long g0), (2, .ref a2), (3, .int l3), (4, .ref a4), (5, .int l5), (7, .int l7), (8, .int l8)] [] [] S 1 64 := by
  intro m74
  induction m74 with
  | zero => intro g0 a2 l3 a4 l5 l7 l8 S h; exact (show False from h).elim
  | succ m74 ih =>
    intro g0 a2 l3 a4 l5 l7 l8 S h
    unfold p_L_falseMany_L74 at h
    refine z_iload 6 dL_falseMany_74 rfl ?_
    refine z_lload_n 0 dL_falseMany_76 rfl rfl ?_
    refine z_callSI (st := [.int l8]) (w_L_size h) zw_789 zw_787 zw_788 zw_29 zy_L_size rfl rfl ⟨Nat.le_of_ble_eq_true rfl, Nat.le_of_ble_eq_true rfl⟩ ⟨(Nat.le_of_ble_eq_true rfl), (Nat.le_of_ble_eq_true rfl)⟩ (Nat.le_of_ble_eq_true rfl) dL_falseMany_77 (fun _ _ hx => hx.elim) (fun r27 S26 h => ?_)
    refine z_widen (k' := 1) (n' := 64) (Nat.le_refl _) (Nat.le_refl _) ?_
    refine z_icmp_ge 207 dL_falseMany_80 (by decide) (fun c51 => ?_) (fun c51 => ?_)
    · have h := h.1 c51
      refine z_sub [0, 1, 2, 3, 4, 5] rfl ?_
      exact hK207 g0 a2 l3 a4 l5 l7 S26 h
    · have h := h.2 c51
      refine z_iconst (v := 0) dL_falseMany_83 rfl ?_
      refine z_istore (lv' := [(9, .int 0), (0, .long g0), (2, .ref a2), (3, .int l3), (4, .ref a4), (5, .int l5), (7, .int l7), (8, .int l8)]) dL_falseMany_84 (Nat.le_of_ble_eq_true rfl) rfl ?_
      refine z_iconst (v := 0) dL_falseMany_86 rfl ?_
      refine z_istore (lv' := [(10, .int 0), (9, .int 0), (0, .long g0), (2, .ref a2), (3, .int l3), (4, .ref a4), (5, .int l5), (7, .int l7), (8, .int l8)]) dL_falseMany_87 (Nat.le_of_ble_eq_true rfl) rfl ?_
      obtain ⟨m89, h⟩ := h
      refine z_sub [2, 3, 4, 5, 6, 7, 8, 1, 0] rfl ?_
      refine w_L_falseMany_L89 (fun g0 a2 l3 a4 l5 l7 l8 l9 S h => ?_) m89 g0 a2 l3 a4 l5 l7 l8 0 0 S26 h
      refine z_iload 7 dL_falseMany_131 rfl ?_
      refine z_iload_n 2 dL_falseMany_133 rfl rfl ?_
      refine z_callSI (st := [.int l9]) (w_L_rounds h) zw_812 zw_810 zw_811 zw_29 zy_L_rounds rfl rfl ⟨Nat.le_of_ble_eq_true rfl, Nat.le_of_ble_eq_true rfl⟩ ⟨(Nat.le_of_ble_eq_true rfl), (Nat.le_of_ble_eq_true rfl)⟩ (Nat.le_of_ble_eq_true rfl) dL_falseMany_134 (fun _ _ hx => hx.elim) (fun r37 S36 h => ?_)
      refine z_widen (k' := 1) (n' := 64) (Nat.le_refl _) (Nat.le_refl _) ?_
      refine z_icmp_eq 144 dL_falseMany_137 (by decide) (fun c50 => ?_) (fun c50 => ?_)
      · have h := h.1 c50
        refine z_iconst (v := 0) dL_falseMany_144 rfl ?_
        refine w_L_falseMany_J145 (fun g0 a2 l3 a4 l5 l7 l8 S h => ?_) g0 a2 l3 a4 l5 l7 l8 l9 0 S36 h
        exact ih g0 a2 l3 a4 l5 l7 l8 S h
      · have h := h.2 c50
        refine z_iconst (v := 1) dL_falseMany_140 rfl ?_
        refine z_goto 145 dL_falseMany_141 (by decide) ?_
        refine w_L_falseMany_J145 (fun g0 a2 l3 a4 l5 l7 l8 S h => ?_) g0 a2 l3 a4 l5 l7 l8 l9 1 S36 h
        exact ih g0 a2 l3 a4 l5 l7 l8 S h
set_option maxRecDepth 20000 in
set_option maxHeartbeats 4000000 in
theorem w_L_falseMany_L62 {E : zE} {K213 : Int32 → zS → Prop} {Q : Int32 → zS → Prop} {X : String → zS → Prop} (hK213 : ∀ (l5 : Int32) (S : zS), K213 l5 S → zJ E (RL, cL_falseMany, 12, (some .int), false, [], zTr) ({ frames := 2, cells := 1, slots := 64, locals := 47 } : Room) (zq (qI Q)) (zx X) 213 [(5, .int l5)] [] [] S 1 64) : ∀ (m62 : Nat) (g0 : Int64) (a2 : Nat) (l3 : Int32) (a4 : Nat) (l5 : Int32) (l7 : Int32) (S : zS), p_L_falseMany_L62 E K213 Q X m62 g0 a2 l3 a4 l5 l7 S → zJ E (RL, cL_falseMany, 12, (some .int), false, [], zTr) ({ frames := 2, cells := 1, slots := 64, locals := 47 } : Room) (zq (qI Q)) (zx X) 62 [(0, .long g0), (2, .ref a2), (3, .int l3), (4, .ref a4), (5, .int l5), (7, .int l7)] [] [] S 1 64 := by
  intro m62
  induction m62 with
  | zero => intro g0 a2 l3 a4 l5 l7 S h; exact (show False from h).elim
  | succ m62 ih =>
    intro g0 a2 l3 a4 l5 l7 S h
    unfold p_L_falseMany_L62 at h
    refine z_iload 5 dL_falseMany_62 rfl ?_
    refine z_lload_n 0 dL_falseMany_64 rfl rfl ?_
    refine z_callSI (st := [.int l7]) (w_L_size h) zw_789 zw_787 zw_788 zw_29 zy_L_size rfl rfl ⟨Nat.le_of_ble_eq_true rfl, Nat.le_of_ble_eq_true rfl⟩ ⟨(Nat.le_of_ble_eq_true rfl), (Nat.le_of_ble_eq_true rfl)⟩ (Nat.le_of_ble_eq_true rfl) dL_falseMany_65 (fun _ _ hx => hx.elim) (fun r25 S24 h => ?_)
    refine z_widen (k' := 1) (n' := 64) (Nat.le_refl _) (Nat.le_refl _) ?_
    refine z_icmp_ge 213 dL_falseMany_68 (by decide) (fun c52 => ?_) (fun c52 => ?_)
    · have h := h.1 c52
      refine z_sub [4] rfl ?_
      exact hK213 l5 S24 h
    · have h := h.2 c52
      refine z_iconst (v := 0) dL_falseMany_71 rfl ?_
      refine z_istore (lv' := [(8, .int 0), (0, .long g0), (2, .ref a2), (3, .int l3), (4, .ref a4), (5, .int l5), (7, .int l7)]) dL_falseMany_72 (Nat.le_of_ble_eq_true rfl) rfl ?_
      obtain ⟨m74, h⟩ := h
      refine z_sub [1, 2, 3, 4, 5, 6, 0] rfl ?_
      refine w_L_falseMany_L74 (fun g0 a2 l3 a4 l5 l7 S h => ?_) m74 g0 a2 l3 a4 l5 l7 0 S24 h
      refine z_iinc (v := (l7 + 1)) (lv' := [(7, .int (l7 + 1)), (0, .long g0), (2, .ref a2), (3, .int l3), (4, .ref a4), (5, .int l5)]) 5 dL_falseMany_207 rfl rfl (Nat.le_of_ble_eq_true rfl) rfl ?_
      refine z_goto 62 dL_falseMany_210 (by decide) ?_
      refine z_sub [1, 2, 3, 4, 5, 0] rfl ?_
      exact ih g0 a2 l3 a4 l5 (l7 + 1) S h
set_option maxRecDepth 20000 in
set_option maxHeartbeats 4000000 in
theorem w_L_falseMany {E : zE} {g0 : Int64} {a2 : Nat} {S : zS} {Q : Int32 → zS → Prop} {X : String → zS → Prop} (h : p_L_falseMany E g0 a2 S Q X) : zM E yL_falseMany cL_falseMany 12 (some .int) ({ frames := 2, cells := 1, slots := 64, locals := 47 } : Room) [.long g0, .ref a2] S (qI Q) X := by
  unfold p_L_falseMany at h
  refine zM_of RL false (by decide) rfl (fun h => by cases h) (Nat.le_of_ble_eq_true rfl) ?_
  refine z_lload_n 0 dL_falseMany_0 rfl rfl ?_
  refine z_callSI (st := []) (w_L_stageOf h) zw_785 zw_783 zw_784 zw_29 zy_L_stageOf rfl rfl ⟨Nat.le_of_ble_eq_true rfl, Nat.le_of_ble_eq_true rfl⟩ ⟨(Nat.le_of_ble_eq_true rfl), (Nat.le_of_ble_eq_true rfl)⟩ (Nat.le_of_ble_eq_true rfl) dL_falseMany_1 (fun _ _ hx => hx.elim) (fun r2 S1 h => ?_)
  refine z_widen (k' := 0) (n' := 0) (Nat.le_refl _) (Nat.le_refl _) ?_
  refine z_istore_n (lv' := [(3, .int r2), (0, .long g0), (2, .ref a2)]) dL_falseMany_4 rfl (Nat.le_of_ble_eq_true rfl) rfl ?_
  refine z_bipush (v := 64) dL_falseMany_5 rfl ?_
  refine z_newa (c := 12) (N := 64) (.inl ⟨rfl, rfl⟩) zw_101 rfl (Nat.le_of_ble_eq_true rfl) (Nat.le_of_ble_eq_true rfl) (Nat.le_of_ble_eq_true rfl) dL_falseMany_7 (fun q3 hq4 => ?_)
  have h := h q3 hq4 _ rfl
  obtain ⟨S5, hS6⟩ : ∃ z, z = nA S1 q3 12 64 := ⟨_, rfl⟩
  rw [← hS6] at h ⊢
  refine z_widen (k' := 1) (n' := 64) (Nat.le_refl _) (Nat.le_refl _) ?_
  refine z_astore (lv' := [(4, .ref q3), (3, .int r2), (0, .long g0), (2, .ref a2)]) dL_falseMany_9 (Nat.le_of_ble_eq_true rfl) rfl ?_
  refine z_iconst (v := 0) dL_falseMany_11 rfl ?_
  refine z_istore (lv' := [(5, .int 0), (4, .ref q3), (3, .int r2), (0, .long g0), (2, .ref a2)]) dL_falseMany_12 (Nat.le_of_ble_eq_true rfl) rfl ?_
  refine z_iload_n 2 dL_falseMany_14 rfl rfl ?_
  refine z_callSI (st := []) (w_L_rounds h) zw_812 zw_810 zw_811 zw_29 zy_L_rounds rfl rfl ⟨Nat.le_of_ble_eq_true rfl, Nat.le_of_ble_eq_true rfl⟩ ⟨(Nat.le_of_ble_eq_true rfl), (Nat.le_of_ble_eq_true rfl)⟩ (Nat.le_of_ble_eq_true rfl) dL_falseMany_15 (fun _ _ hx => hx.elim) (fun r10 S9 h => ?_)
  refine z_widen (k' := 1) (n' := 64) (Nat.le_refl _) (Nat.le_refl _) ?_
  refine z_istore (lv' := [(6, .int r10), (5, .int 0), (4, .ref q3), (3, .int r2), (0, .long g0), (2, .ref a2)]) dL_falseMany_18 (Nat.le_of_ble_eq_true rfl) rfl ?_
  refine z_iconst (v := 0) dL_falseMany_20 rfl ?_
  refine z_istore (lv' := [(7, .int 0), (6, .int r10), (5, .int 0), (4, .ref q3), (3, .int r2), (0, .long g0), (2, .ref a2)]) dL_falseMany_21 (Nat.le_of_ble_eq_true rfl) rfl ?_
  obtain ⟨m23, h⟩ := h
  refine z_sub [5, 6, 4, 3, 2, 1, 0] rfl ?_
  refine w_L_falseMany_L23 (fun g0 a2 l3 a4 l5 S h => ?_) m23 g0 a2 r2 q3 0 r10 0 S9 h
  refine z_iconst (v := 0) dL_falseMany_59 rfl ?_
  refine z_istore (lv' := [(7, .int 0), (0, .long g0), (2, .ref a2), (3, .int l3), (4, .ref a4), (5, .int l5)]) dL_falseMany_60 (Nat.le_of_ble_eq_true rfl) rfl ?_
  obtain ⟨m62, h⟩ := h
  refine z_sub [1, 2, 3, 4, 5, 0] rfl ?_
  refine w_L_falseMany_L62 (fun l5 S h => ?_) m62 g0 a2 l3 a4 l5 0 S h
  refine z_iload 0 dL_falseMany_213 rfl ?_
  exact z_ireturn ⟨rfl, _, rfl, h⟩ rfl (Nat.le_of_ble_eq_true rfl) (Nat.le_of_ble_eq_true rfl) dL_falseMany_215
