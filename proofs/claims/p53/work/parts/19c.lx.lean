set_option maxRecDepth 20000 in
set_option maxHeartbeats 4000000 in
theorem w_L_rings_L567 {E : zE} {K618 : Nat → Int32 → Nat → Nat → Nat → Nat → Nat → Nat → Nat → Nat → Nat → Nat → Int32 → zS → zS → Prop} {Q : Int32 → zS → zS → Prop} {X : String → zS → Prop} (hK618 : ∀ (a0 : Nat) (l3 : Int32) (a4 : Nat) (a5 : Nat) (a6 : Nat) (a7 : Nat) (a8 : Nat) (a10 : Nat) (a11 : Nat) (a12 : Nat) (a13 : Nat) (a14 : Nat) (l15 : Int32) (S C : zS), K618 a0 l3 a4 a5 a6 a7 a8 a10 a11 a12 a13 a14 l15 S C → zJ E (RL, cL_rings, 27, (some .boolean), false, [], zTr) ({ frames := 10, cells := 25, slots := 150, locals := 224 } : Room) (zY E Q) (fun _ _ _ => False) 618 [(0, .ref a0), (3, .int l3), (4, .ref a4), (5, .ref a5), (6, .ref a6), (7, .ref a7), (8, .ref a8), (10, .ref a10), (11, .ref a11), (12, .ref a12), (13, .ref a13), (14, .ref a14), (15, .int l15)] [] (zPl E C) S 0 0) : ∀ (m567 : Nat) (a0 : Nat) (l3 : Int32) (a4 : Nat) (a5 : Nat) (a6 : Nat) (a7 : Nat) (a8 : Nat) (a10 : Nat) (a11 : Nat) (a12 : Nat) (a13 : Nat) (a14 : Nat) (l15 : Int32) (l16 : Int32) (S C : zS), p_L_rings_L567 E K618 Q X m567 a0 l3 a4 a5 a6 a7 a8 a10 a11 a12 a13 a14 l15 l16 S C → zJ E (RL, cL_rings, 27, (some .boolean), false, [], zTr) ({ frames := 10, cells := 25, slots := 150, locals := 224 } : Room) (zY E Q) (fun _ _ _ => False) 567 [(0, .ref a0), (3, .int l3), (4, .ref a4), (5, .ref a5), (6, .ref a6), (7, .ref a7), (8, .ref a8), (10, .ref a10), (11, .ref a11), (12, .ref a12), (13, .ref a13), (14, .ref a14), (15, .int l15), (16, .int l16)] [] (zPl E C) S 0 0 := by
  intro m567
  induction m567 with
  | zero => intro a0 l3 a4 a5 a6 a7 a8 a10 a11 a12 a13 a14 l15 l16 S C h; unfold p_L_rings_L567 at h; exact h.elim
  | succ m567 ih =>
    intro a0 l3 a4 a5 a6 a7 a8 a10 a11 a12 a13 a14 l15 l16 S C h
    unfold p_L_rings_L567 at h
    refine z_iload 13 dL_rings_567 rfl ?_
    refine z_bipush (v := 6) dL_rings_569 rfl ?_
    refine z_icmp_ge 618 dL_rings_571 (by decide) (fun c11 => ?_) (fun c11 => ?_)
    · have h := h.1 c11
      refine z_sub [0, 1, 2, 3, 4, 5, 6, 7, 8, 9, 10, 11, 12] rfl ?_
      exact hK618 a0 l3 a4 a5 a6 a7 a8 a10 a11 a12 a13 a14 l15 S C h
    · have h := h.2 c11
      refine z_iload_n 1 dL_rings_574 rfl rfl ?_
      refine z_bipush (v := 96) dL_rings_575 rfl ?_
      refine z_iand dL_rings_577 ?_
      refine z_if_le 618 dL_rings_578 (by decide) (fun c10 => ?_) (fun c10 => ?_)
      · have h := h.1 c10
        refine z_sub [0, 1, 2, 3, 4, 5, 6, 7, 8, 9, 10, 11, 12] rfl ?_
        exact hK618 a0 l3 a4 a5 a6 a7 a8 a10 a11 a12 a13 a14 l15 S C h
      · have h := h.2 c10
        refine z_aload 11 dL_rings_581 rfl ?_
        refine z_bipush (v := 6) dL_rings_583 rfl ?_
        obtain ⟨hf3, h⟩ := h
        obtain ⟨hj5, h⟩ := h
        refine z_iald (j := 6) hf3.1 hf3.2 rfl hj5.1 hj5.2 dL_rings_585 ?_
        refine z_iconst (v := 1) dL_rings_586 rfl ?_
        refine z_icmp_ne 618 dL_rings_587 (by decide) (fun c9 => ?_) (fun c9 => ?_)
        · have h := h.1 c9
          refine z_sub [0, 1, 2, 3, 4, 5, 6, 7, 8, 9, 10, 11, 12] rfl ?_
          exact hK618 a0 l3 a4 a5 a6 a7 a8 a10 a11 a12 a13 a14 l15 S C h
        · have h := h.2 c9
          refine z_aload 11 dL_rings_590 rfl ?_
          refine z_bipush (v := 8) dL_rings_592 rfl ?_
          obtain ⟨hj7, h⟩ := h
          refine z_iald (j := 8) hf3.1 hf3.2 rfl hj7.1 hj7.2 dL_rings_594 ?_
          refine z_iload 12 dL_rings_595 rfl ?_
          refine z_ishr dL_rings_597 ?_
          refine z_iconst (v := 1) dL_rings_598 rfl ?_
          refine z_iand dL_rings_599 ?_
          refine z_if_ne 618 dL_rings_600 (by decide) (fun c8 => ?_) (fun c8 => ?_)
          · have h := h.1 c8
            refine z_sub [0, 1, 2, 3, 4, 5, 6, 7, 8, 9, 10, 11, 12] rfl ?_
            exact hK618 a0 l3 a4 a5 a6 a7 a8 a10 a11 a12 a13 a14 l15 S C h
          · have h := h.2 c8
            refine z_iload 12 dL_rings_603 rfl ?_
            refine z_iconst (v := 1) dL_rings_605 rfl ?_
            refine z_iadd dL_rings_606 ?_
            refine z_bipush (v := 6) dL_rings_607 rfl ?_
            refine z_irem dL_rings_609 (by decide) ?_
            refine z_istore (lv' := [(15, .int ((l15 + 1) - (l15 + 1) / 6 * 6)), (0, .ref a0), (3, .int l3), (4, .ref a4), (5, .ref a5), (6, .ref a6), (7, .ref a7), (8, .ref a8), (10, .ref a10), (11, .ref a11), (12, .ref a12), (13, .ref a13), (14, .ref a14), (16, .int l16)]) dL_rings_610 (Nat.le_of_ble_eq_true rfl) rfl ?_
            refine z_iinc (v := (l16 + 1)) (lv' := [(16, .int (l16 + 1)), (15, .int ((l15 + 1) - (l15 + 1) / 6 * 6)), (0, .ref a0), (3, .int l3), (4, .ref a4), (5, .ref a5), (6, .ref a6), (7, .ref a7), (8, .ref a8), (10, .ref a10), (11, .ref a11), (12, .ref a12), (13, .ref a13), (14, .ref a14)]) 13 dL_rings_612 rfl rfl (Nat.le_of_ble_eq_true rfl) rfl ?_
            refine z_goto 567 dL_rings_615 (by decide) ?_
            refine z_sub [2, 3, 4, 5, 6, 7, 8, 9, 10, 11, 12, 13, 1, 0] rfl ?_
            exact ih a0 l3 a4 a5 a6 a7 a8 a10 a11 a12 a13 a14 ((l15 + 1) - (l15 + 1) / 6 * 6) (l16 + 1) S C h
set_option maxRecDepth 20000 in
set_option maxHeartbeats 4000000 in
theorem w_L_rings_J736 {E : zE}  {Q : Int32 → zS → zS → Prop} {X : String → zS → Prop}  (a0 : Nat) (l3 : Int32) (l15 : Int32) (S C : zS) (h : p_L_rings_J736 E  Q X a0 l3 l15 S C) : zJ E (RL, cL_rings, 27, (some .boolean), false, [], zTr) ({ frames := 10, cells := 25, slots := 150, locals := 224 } : Room) (zY E Q) (fun _ _ _ => False) 736 [(0, .ref a0), (3, .int l3), (15, .int l15)] [] (zPl E C) S 14 84 := by
  unfold p_L_rings_J736 at h
  refine z_aload_n 0 dL_rings_736 rfl rfl ?_
  refine z_iload 2 dL_rings_737 rfl ?_
  refine z_iload_n 1 dL_rings_739 rfl rfl ?_
  refine z_sipush (v := 1000) dL_rings_740 rfl ?_
  refine z_callSI (st := [.int l15, .ref a0]) (w_L_low h) zw_313 zw_311 zw_312 zw_29 zy_L_low rfl rfl ⟨Nat.le_of_ble_eq_true rfl, Nat.le_of_ble_eq_true rfl⟩ ⟨(Nat.le_of_ble_eq_true rfl), (Nat.le_of_ble_eq_true rfl)⟩ (Nat.le_of_ble_eq_true rfl) dL_rings_743 (fun _ _ hx => hx.elim) (fun r30 S29 h => ?_)
  refine z_widen (k' := 14) (n' := 84) (Nat.le_refl _) (Nat.le_refl _) ?_
  refine zz_fl ?_
  refine z_callW (st := []) (w_L_pull h) zw_1091 zw_1089 zw_1090 zw_29 zy_L_pull rfl rfl ⟨Nat.le_of_ble_eq_true rfl, Nat.le_of_ble_eq_true rfl⟩ ⟨(Nat.le_of_ble_eq_true rfl), (Nat.le_of_ble_eq_true rfl)⟩ (Nat.le_of_ble_eq_true rfl) dL_rings_746 (fun r32 C31 h => ?_)
  refine z_widen (k' := 18) (n' := 108) (Nat.le_refl _) (Nat.le_refl _) ?_
  refine zz_fl ?_
  refine z_sipush (v := (-7300)) dL_rings_749 rfl ?_
  refine z_icmp_ne 771 dL_rings_752 (by decide) (fun c39 => ?_) (fun c39 => ?_)
  · have h := h.1 c39
    refine z_iconst (v := 0) dL_rings_771 rfl ?_
    obtain ⟨hz33, h⟩ := h
    exact z_zreturn ⟨_, _, rfl, rfl, h⟩ rfl (zbn hz33) (Nat.le_of_ble_eq_true rfl) (Nat.le_of_ble_eq_true rfl) dL_rings_772
  · have h := h.2 c39
    refine z_aload_n 0 dL_rings_755 rfl rfl ?_
    refine z_iload 2 dL_rings_756 rfl ?_
    refine zz_fl ?_
    refine z_callW (st := []) (w_L_due h) zw_1143 zw_1141 zw_1142 zw_29 zy_L_due rfl rfl ⟨Nat.le_of_ble_eq_true rfl, Nat.le_of_ble_eq_true rfl⟩ ⟨(Nat.le_of_ble_eq_true rfl), (Nat.le_of_ble_eq_true rfl)⟩ (Nat.le_of_ble_eq_true rfl) dL_rings_758 (fun r35 C34 h => ?_)
    refine z_widen (k' := 20) (n' := 120) (Nat.le_refl _) (Nat.le_refl _) ?_
    refine zz_fl ?_
    refine z_sipush (v := (-7300)) dL_rings_761 rfl ?_
    refine z_icmp_ne 771 dL_rings_764 (by decide) (fun c38 => ?_) (fun c38 => ?_)
    · have h := h.1 c38
      refine z_iconst (v := 0) dL_rings_771 rfl ?_
      obtain ⟨hz36, h⟩ := h
      exact z_zreturn ⟨_, _, rfl, rfl, h⟩ rfl (zbn hz36) (Nat.le_of_ble_eq_true rfl) (Nat.le_of_ble_eq_true rfl) dL_rings_772
    · have h := h.2 c38
      refine z_iconst (v := 1) dL_rings_767 rfl ?_
      refine z_goto 772 dL_rings_768 (by decide) ?_
      obtain ⟨hz37, h⟩ := h
      exact z_zreturn ⟨_, _, rfl, rfl, h⟩ rfl (zbn hz37) (Nat.le_of_ble_eq_true rfl) (Nat.le_of_ble_eq_true rfl) dL_rings_772
set_option maxRecDepth 20000 in
set_option maxHeartbeats 4000000 in
theorem w_L_rings_J1075 {E : zE}  {Q : Int32 → zS → zS → Prop} {X : String → zS → Prop}  (a0 : Nat) (a4 : Nat) (a5 : Nat) (a6 : Nat) (a7 : Nat) (a8 : Nat) (a12 : Nat) (a13 : Nat) (a14 : Nat) (l15 : Int32) (l17 : Int32) (g19 : Int64) (l21 : Int32) (g22 : Int64) (l100 : Int32) (l101 : Int32) (l102 : Int32) (a103 : Nat) (S C : zS) (h : p_L_rings_J1075 E  Q X a0 a4 a5 a6 a7 a8 a12 a13 a14 l15 l17 g19 l21 g22 l100 l101 l102 a103 S C) : zJ E (RL, cL_rings, 27, (some .boolean), false, [], zTr) ({ frames := 10, cells := 25, slots := 150, locals := 224 } : Room) (zY E Q) (fun _ _ _ => False) 1075 [(0, .ref a0), (4, .ref a4), (5, .ref a5), (6, .ref a6), (7, .ref a7), (8, .ref a8), (12, .ref a12), (13, .ref a13), (14, .ref a14), (15, .int l15), (17, .int l17), (19, .long g19), (21, .int l21), (22, .long g22)] [.int l100, .int l101, .int l102, .ref a103] (zPl E C) S 16 96 := by
  unfold p_L_rings_J1075 at h
  refine z_iadd dL_rings_1075 ?_
  obtain ⟨hf109, h⟩ := h
  obtain ⟨j110, hj111, h⟩ := h
  have h := h _ rfl
  refine z_iast (j := j110) hf109.1 hf109.2 hj111.1 hj111.2.1 hj111.2.2 dL_rings_1076 ?_
  obtain ⟨S112, hS113⟩ : ∃ z, z = sA S a103 j110 (l101 + l100) := ⟨_, rfl⟩
  rw [← hS113] at h ⊢
  have hf109 : a103 ∈ gL S112 ∧ gK S112 a103 = 12 := by rw [hS113]; exact hf109
  refine z_aload 8 dL_rings_1077 rfl ?_
  refine z_bipush (v := 11) dL_rings_1079 rfl ?_
  refine z_lload 13 dL_rings_1081 rfl ?_
  refine z_l2i dL_rings_1083 rfl ?_
  obtain ⟨hf114, h⟩ := h
  obtain ⟨hj116, h⟩ := h
  have h := h _ rfl
  refine z_iast (j := 11) hf114.1 hf114.2 rfl hj116.1 hj116.2 dL_rings_1084 ?_
  obtain ⟨S117, hS118⟩ : ∃ z, z = sA S112 a14 11 (g22).toInt32 := ⟨_, rfl⟩
  rw [← hS118] at h ⊢
  have hf109 : a103 ∈ gL S117 ∧ gK S117 a103 = 12 := by rw [hS118]; exact hf109
  have hf114 : a14 ∈ gL S117 ∧ gK S117 a14 = 12 := by rw [hS118]; exact hf114
  refine z_bipush (v := 8) dL_rings_1085 rfl ?_
  refine z_iload 9 dL_rings_1087 rfl ?_
  refine z_imul dL_rings_1089 ?_
  refine z_iload 10 dL_rings_1090 rfl ?_
  refine z_iconst (v := 2) dL_rings_1092 rfl ?_
  refine z_idiv dL_rings_1093 (by decide) ?_
  refine z_iadd dL_rings_1094 ?_
  refine z_istore (lv' := [(26, .int ((8 * l15) + (l17 / 2))), (0, .ref a0), (4, .ref a4), (5, .ref a5), (6, .ref a6), (7, .ref a7), (8, .ref a8), (12, .ref a12), (13, .ref a13), (14, .ref a14), (15, .int l15), (17, .int l17), (19, .long g19), (21, .int l21), (22, .long g22)]) dL_rings_1095 (Nat.le_of_ble_eq_true rfl) rfl ?_
  refine z_aload 7 dL_rings_1097 rfl ?_
  refine z_iload 0 dL_rings_1099 rfl ?_
  refine z_aload 7 dL_rings_1101 rfl ?_
  refine z_iload 0 dL_rings_1103 rfl ?_
  obtain ⟨hf119, h⟩ := h
  obtain ⟨j120, hj121, h⟩ := h
  refine z_lald (j := j120) hf119.1 hf119.2 hj121.1 hj121.2.1 hj121.2.2 dL_rings_1105 ?_
  refine z_ldc2 zw_1078 dL_rings_1106 ?_
  refine z_bipush (v := 32) dL_rings_1109 rfl ?_
  refine z_iload 11 dL_rings_1111 rfl ?_
  refine z_iconst (v := 2) dL_rings_1113 rfl ?_
  refine z_irem dL_rings_1114 (by decide) ?_
  refine z_imul dL_rings_1115 ?_
  refine z_lshl dL_rings_1116 ?_
  refine z_ldc2 zw_794 dL_rings_1117 ?_
  refine z_lxor dL_rings_1120 ?_
  refine z_land dL_rings_1121 ?_
  refine z_lload 12 dL_rings_1122 rfl ?_
  refine z_bipush (v := 32) dL_rings_1124 rfl ?_
  refine z_iload 11 dL_rings_1126 rfl ?_
  refine z_iconst (v := 2) dL_rings_1128 rfl ?_
  refine z_irem dL_rings_1129 (by decide) ?_
  refine z_imul dL_rings_1130 ?_
  refine z_lshl dL_rings_1131 ?_
  refine z_lor dL_rings_1132 ?_
  obtain ⟨j122, hj123, h⟩ := h
  have h := h _ rfl
  refine z_last (j := j122) hf119.1 hf119.2 hj123.1 hj123.2.1 hj123.2.2 dL_rings_1133 ?_
  obtain ⟨S124, hS125⟩ : ∃ z, z = sJ S117 a12 j122 (((gJ S117 a12 j120) &&& ((4294967295 <<< (((32 * (l17 - l17 / 2 * 2)) : Int32).toInt64 &&& 63)) ^^^ (-1))) ||| (g19 <<< (((32 * (l17 - l17 / 2 * 2)) : Int32).toInt64 &&& 63))) := ⟨_, rfl⟩
  rw [← hS125] at h ⊢
  have hf109 : a103 ∈ gL S124 ∧ gK S124 a103 = 12 := by rw [hS125]; exact hf109
  have hf119 : a12 ∈ gL S124 ∧ gK S124 a12 = 17 := by rw [hS125]; exact hf119
  have hf114 : a14 ∈ gL S124 ∧ gK S124 a14 = 12 := by rw [hS125]; exact hf114
  refine z_aload 5 dL_rings_1134 rfl ?_
  refine z_iload 10 dL_rings_1136 rfl ?_
  refine z_dup2 dL_rings_1138 rfl rfl ?_
  obtain ⟨hf126, h⟩ := h
  obtain ⟨j127, hj128, h⟩ := h
  refine z_iald (j := j127) hf126.1 hf126.2 hj128.1 hj128.2.1 hj128.2.2 dL_rings_1139 ?_
  refine z_iconst (v := 1) dL_rings_1140 rfl ?_
  refine z_iload 11 dL_rings_1141 rfl ?_
  refine z_iconst (v := 2) dL_rings_1143 rfl ?_
  refine z_irem dL_rings_1144 (by decide) ?_
  refine z_iadd dL_rings_1145 ?_
  refine z_iadd dL_rings_1146 ?_
  obtain ⟨j129, hj130, h⟩ := h
  have h := h _ rfl
  refine z_iast (j := j129) hf126.1 hf126.2 hj130.1 hj130.2.1 hj130.2.2 dL_rings_1147 ?_
  obtain ⟨S131, hS132⟩ : ∃ z, z = sA S124 a7 j129 ((gA S124 a7 j127) + (1 + (l17 - l17 / 2 * 2))) := ⟨_, rfl⟩
  rw [← hS132] at h ⊢
  have hf109 : a103 ∈ gL S131 ∧ gK S131 a103 = 12 := by rw [hS132]; exact hf109
  have hf119 : a12 ∈ gL S131 ∧ gK S131 a12 = 17 := by rw [hS132]; exact hf119
  have hf114 : a14 ∈ gL S131 ∧ gK S131 a14 = 12 := by rw [hS132]; exact hf114
  have hf126 : a7 ∈ gL S131 ∧ gK S131 a7 = 12 := by rw [hS132]; exact hf126
  refine z_aload 5 dL_rings_1148 rfl ?_
  refine z_bipush (v := 6) dL_rings_1150 rfl ?_
  refine z_iload 10 dL_rings_1152 rfl ?_
  refine z_iadd dL_rings_1154 ?_
  refine z_dup2 dL_rings_1155 rfl rfl ?_
  obtain ⟨j133, hj134, h⟩ := h
  refine z_iald (j := j133) hf126.1 hf126.2 hj134.1 hj134.2.1 hj134.2.2 dL_rings_1156 ?_
  refine z_iconst (v := 1) dL_rings_1157 rfl ?_
  refine z_iadd dL_rings_1158 ?_
  obtain ⟨j135, hj136, h⟩ := h
  have h := h _ rfl
  refine z_iast (j := j135) hf126.1 hf126.2 hj136.1 hj136.2.1 hj136.2.2 dL_rings_1159 ?_
  obtain ⟨S137, hS138⟩ : ∃ z, z = sA S131 a7 j135 ((gA S131 a7 j133) + 1) := ⟨_, rfl⟩
  rw [← hS138] at h ⊢
  have hf109 : a103 ∈ gL S137 ∧ gK S137 a103 = 12 := by rw [hS138]; exact hf109
  have hf119 : a12 ∈ gL S137 ∧ gK S137 a12 = 17 := by rw [hS138]; exact hf119
  have hf114 : a14 ∈ gL S137 ∧ gK S137 a14 = 12 := by rw [hS138]; exact hf114
  have hf126 : a7 ∈ gL S137 ∧ gK S137 a7 = 12 := by rw [hS138]; exact hf126
  refine z_aload 9 dL_rings_1160 rfl ?_
  refine z_bipush (v := 16) dL_rings_1162 rfl ?_
  refine z_iload 10 dL_rings_1164 rfl ?_
  refine z_iadd dL_rings_1166 ?_
  refine z_dup2 dL_rings_1167 rfl rfl ?_
  obtain ⟨j139, hj140, h⟩ := h
  refine z_iald (j := j139) hf114.1 hf114.2 hj140.1 hj140.2.1 hj140.2.2 dL_rings_1168 ?_
  refine z_iconst (v := 1) dL_rings_1169 rfl ?_
  refine z_iadd dL_rings_1170 ?_
  obtain ⟨j141, hj142, h⟩ := h
  have h := h _ rfl
  refine z_iast (j := j141) hf114.1 hf114.2 hj142.1 hj142.2.1 hj142.2.2 dL_rings_1171 ?_
  obtain ⟨S143, hS144⟩ : ∃ z, z = sA S137 a14 j141 ((gA S137 a14 j139) + 1) := ⟨_, rfl⟩
  rw [← hS144] at h ⊢
  have hf109 : a103 ∈ gL S143 ∧ gK S143 a103 = 12 := by rw [hS144]; exact hf109
  have hf119 : a12 ∈ gL S143 ∧ gK S143 a12 = 17 := by rw [hS144]; exact hf119
  have hf114 : a14 ∈ gL S143 ∧ gK S143 a14 = 12 := by rw [hS144]; exact hf114
  have hf126 : a7 ∈ gL S143 ∧ gK S143 a7 = 12 := by rw [hS144]; exact hf126
  refine z_aload 2 dL_rings_1172 rfl ?_
  refine z_aload 3 dL_rings_1174 rfl ?_
  refine z_aload 4 dL_rings_1176 rfl ?_
  refine z_aload 5 dL_rings_1178 rfl ?_
  refine z_aload 6 dL_rings_1180 rfl ?_
  refine z_aload 7 dL_rings_1182 rfl ?_
  refine z_aload 8 dL_rings_1184 rfl ?_
  refine z_aload 9 dL_rings_1186 rfl ?_
  refine z_callSI (st := []) (w_L_goOn h) zw_1068 zw_1066 zw_1067 zw_29 zy_L_goOn rfl rfl ⟨Nat.le_of_ble_eq_true rfl, Nat.le_of_ble_eq_true rfl⟩ ⟨(Nat.le_of_ble_eq_true rfl), (Nat.le_of_ble_eq_true rfl)⟩ (Nat.le_of_ble_eq_true rfl) dL_rings_1188 (fun _ _ hx => hx.elim) (fun r146 S145 h => ?_)
  refine z_widen (k' := 16) (n' := 96) (Nat.le_refl _) (Nat.le_refl _) ?_
  refine z_pop dL_rings_1191 rfl ?_
  refine z_aload_n 1 dL_rings_1192 rfl rfl ?_
  refine z_iload 10 dL_rings_1193 rfl ?_
  refine z_lload 12 dL_rings_1195 rfl ?_
  refine z_l2i dL_rings_1197 rfl ?_
  refine zz_fl ?_
  refine z_callW (st := []) (w_L_pull h) zw_1091 zw_1089 zw_1090 zw_29 zy_L_pull rfl rfl ⟨Nat.le_of_ble_eq_true rfl, Nat.le_of_ble_eq_true rfl⟩ ⟨(Nat.le_of_ble_eq_true rfl), (Nat.le_of_ble_eq_true rfl)⟩ (Nat.le_of_ble_eq_true rfl) dL_rings_1198 (fun r148 C147 h => ?_)
  refine z_widen (k' := 20) (n' := 120) (Nat.le_refl _) (Nat.le_refl _) ?_
  refine zz_fl ?_
  refine z_iload 13 dL_rings_1201 rfl ?_
  refine z_icmp_ne 1210 dL_rings_1203 (by decide) (fun c151 => ?_) (fun c151 => ?_)
  · have h := h.1 c151
    refine z_iconst (v := 0) dL_rings_1210 rfl ?_
    obtain ⟨hz149, h⟩ := h
    exact z_zreturn ⟨_, _, rfl, rfl, h⟩ rfl (zbn hz149) (Nat.le_of_ble_eq_true rfl) (Nat.le_of_ble_eq_true rfl) dL_rings_1211
  · have h := h.2 c151
    refine z_iconst (v := 1) dL_rings_1206 rfl ?_
    refine z_goto 1211 dL_rings_1207 (by decide) ?_
    obtain ⟨hz150, h⟩ := h
    exact z_zreturn ⟨_, _, rfl, rfl, h⟩ rfl (zbn hz150) (Nat.le_of_ble_eq_true rfl) (Nat.le_of_ble_eq_true rfl) dL_rings_1211
set_option maxRecDepth 20000 in
set_option maxHeartbeats 4000000 in
theorem w_L_rings_J1046 {E : zE}  {Q : Int32 → zS → zS → Prop} {X : String → zS → Prop}  (a0 : Nat) (a4 : Nat) (a5 : Nat) (a6 : Nat) (a7 : Nat) (a8 : Nat) (a10 : Nat) (a12 : Nat) (a13 : Nat) (a14 : Nat) (l15 : Int32) (l17 : Int32) (g19 : Int64) (l21 : Int32) (g22 : Int64) (l100 : Int32) (l101 : Int32) (l102 : Int32) (a103 : Nat) (S C : zS) (h : p_L_rings_J1046 E  Q X a0 a4 a5 a6 a7 a8 a10 a12 a13 a14 l15 l17 g19 l21 g22 l100 l101 l102 a103 S C) : zJ E (RL, cL_rings, 27, (some .boolean), false, [], zTr) ({ frames := 10, cells := 25, slots := 150, locals := 224 } : Room) (zY E Q) (fun _ _ _ => False) 1046 [(0, .ref a0), (4, .ref a4), (5, .ref a5), (6, .ref a6), (7, .ref a7), (8, .ref a8), (10, .ref a10), (12, .ref a12), (13, .ref a13), (14, .ref a14), (15, .int l15), (17, .int l17), (19, .long g19), (21, .int l21), (22, .long g22)] [.int l100, .int l101, .int l102, .ref a103] (zPl E C) S 16 96 := by
  unfold p_L_rings_J1046 at h
  refine z_iadd dL_rings_1046 ?_
  obtain ⟨hf98, h⟩ := h
  obtain ⟨j99, hj100, h⟩ := h
  have h := h _ rfl
  refine z_iast (j := j99) hf98.1 hf98.2 hj100.1 hj100.2.1 hj100.2.2 dL_rings_1047 ?_
  obtain ⟨S101, hS102⟩ : ∃ z, z = sA S a103 j99 (l101 + l100) := ⟨_, rfl⟩
  rw [← hS102] at h ⊢
  have hf98 : a103 ∈ gL S101 ∧ gK S101 a103 = 12 := by rw [hS102]; exact hf98
  refine z_aload 6 dL_rings_1048 rfl ?_
  refine z_bipush (v := 6) dL_rings_1050 rfl ?_
  refine z_iload 10 dL_rings_1052 rfl ?_
  refine z_iadd dL_rings_1054 ?_
  refine z_dup2 dL_rings_1055 rfl rfl ?_
  obtain ⟨hf103, h⟩ := h
  obtain ⟨j104, hj105, h⟩ := h
  refine z_iald (j := j104) hf103.1 hf103.2 hj105.1 hj105.2.1 hj105.2.2 dL_rings_1056 ?_
  refine z_iload 13 dL_rings_1057 rfl ?_
  refine z_ineg dL_rings_1059 ?_
  refine z_aload 9 dL_rings_1060 rfl ?_
  refine z_bipush (v := 9) dL_rings_1062 rfl ?_
  obtain ⟨hf106, h⟩ := h
  obtain ⟨hj108, h⟩ := h
  refine z_iald (j := 9) hf106.1 hf106.2 rfl hj108.1 hj108.2 dL_rings_1064 ?_
  refine z_iconst (v := 4) dL_rings_1065 rfl ?_
  refine z_idiv dL_rings_1066 (by decide) ?_
  refine z_icmp_le 1074 dL_rings_1067 (by decide) (fun c158 => ?_) (fun c158 => ?_)
  · have h := h.1 c158
    refine z_iconst (v := 0) dL_rings_1074 rfl ?_
    refine z_sub [0, 1, 2, 3, 4, 5, 7, 8, 9, 10, 11, 12, 13, 14] rfl ?_
    refine w_L_rings_J1075 a0 a4 a5 a6 a7 a8 a12 a13 a14 l15 l17 g19 l21 g22 0 (gA S101 a10 j104) (6 + l15) a10 S101 C h
  · have h := h.2 c158
    refine z_iconst (v := 1) dL_rings_1070 rfl ?_
    refine z_goto 1075 dL_rings_1071 (by decide) ?_
    refine z_sub [0, 1, 2, 3, 4, 5, 7, 8, 9, 10, 11, 12, 13, 14] rfl ?_
    refine w_L_rings_J1075 a0 a4 a5 a6 a7 a8 a12 a13 a14 l15 l17 g19 l21 g22 1 (gA S101 a10 j104) (6 + l15) a10 S101 C h
set_option maxRecDepth 20000 in
set_option maxHeartbeats 4000000 in
theorem w_L_rings_J950 {E : zE}  {Q : Int32 → zS → zS → Prop} {X : String → zS → Prop}  (a0 : Nat) (a4 : Nat) (a5 : Nat) (a6 : Nat) (a7 : Nat) (a8 : Nat) (a10 : Nat) (a11 : Nat) (a12 : Nat) (a13 : Nat) (a14 : Nat) (l15 : Int32) (l17 : Int32) (g19 : Int64) (l21 : Int32) (g100 : Int64) (g101 : Int64) (S C : zS) (h : p_L_rings_J950 E  Q X a0 a4 a5 a6 a7 a8 a10 a11 a12 a13 a14 l15 l17 g19 l21 g100 g101 S C) : zJ E (RL, cL_rings, 27, (some .boolean), false, [], zTr) ({ frames := 10, cells := 25, slots := 150, locals := 224 } : Room) (zY E Q) (fun _ _ _ => False) 950 [(0, .ref a0), (4, .ref a4), (5, .ref a5), (6, .ref a6), (7, .ref a7), (8, .ref a8), (10, .ref a10), (11, .ref a11), (12, .ref a12), (13, .ref a13), (14, .ref a14), (15, .int l15), (17, .int l17), (19, .long g19), (21, .int l21)] [.long g100, .long g101] (zPl E C) S 16 96 := by
  unfold p_L_rings_J950 at h
  refine z_ladd dL_rings_950 ?_
  refine z_lstore (lv' := [(22, .long (g101 + g100)), (0, .ref a0), (4, .ref a4), (5, .ref a5), (6, .ref a6), (7, .ref a7), (8, .ref a8), (10, .ref a10), (11, .ref a11), (12, .ref a12), (13, .ref a13), (14, .ref a14), (15, .int l15), (17, .int l17), (19, .long g19), (21, .int l21)]) dL_rings_951 (Nat.le_of_ble_eq_true rfl) rfl ?_
  refine z_aload 8 dL_rings_953 rfl ?_
  refine z_iload 12 dL_rings_955 rfl ?_
  obtain ⟨hf71, h⟩ := h
  obtain ⟨j72, hj73, h⟩ := h
  refine z_iald (j := j72) hf71.1 hf71.2 hj73.1 hj73.2.1 hj73.2.2 dL_rings_957 ?_
  refine z_i2l dL_rings_958 rfl ?_
  refine z_iload 15 dL_rings_959 rfl ?_
  refine z_i2l dL_rings_961 rfl ?_
  refine z_ladd dL_rings_962 ?_
  refine z_topJ (fun x74 hx75 => ?_)
  have h := h x74 hx75
  refine z_lstore (lv' := [(24, .long x74), (22, .long (g101 + g100)), (0, .ref a0), (4, .ref a4), (5, .ref a5), (6, .ref a6), (7, .ref a7), (8, .ref a8), (10, .ref a10), (11, .ref a11), (12, .ref a12), (13, .ref a13), (14, .ref a14), (15, .int l15), (17, .int l17), (19, .long g19), (21, .int l21)]) dL_rings_963 (Nat.le_of_ble_eq_true rfl) rfl ?_
  refine z_lload 1 dL_rings_965 rfl ?_
  refine z_ldc2 zw_1151 dL_rings_967 ?_
  refine z_lcmp dL_rings_970 ?_
  refine z_if_gt 992 dL_rings_971 (by decide) (fun c169 => ?_) (fun c169 => ?_)
  · have h := h.1 c169
    refine z_aload_n 2 dL_rings_992 rfl rfl ?_
    refine z_iload 13 dL_rings_993 rfl ?_
    refine z_lload 15 dL_rings_995 rfl ?_
    refine z_l2i dL_rings_997 rfl ?_
    refine zz_fl ?_
    refine z_callW (st := []) (w_L_pull h) zw_1091 zw_1089 zw_1090 zw_29 zy_L_pull rfl rfl ⟨Nat.le_of_ble_eq_true rfl, Nat.le_of_ble_eq_true rfl⟩ ⟨(Nat.le_of_ble_eq_true rfl), (Nat.le_of_ble_eq_true rfl)⟩ (Nat.le_of_ble_eq_true rfl) dL_rings_998 (fun r77 C76 h => ?_)
    refine z_widen (k' := 20) (n' := 120) (Nat.le_refl _) (Nat.le_refl _) ?_
    refine zz_fl ?_
    refine z_sipush (v := (-7300)) dL_rings_1001 rfl ?_
    refine z_icmp_ne 1011 dL_rings_1004 (by decide) (fun c80 => ?_) (fun c80 => ?_)
    · have h := h.1 c80
      refine z_iconst (v := 0) dL_rings_1011 rfl ?_
      obtain ⟨hz78, h⟩ := h
      exact z_zreturn ⟨_, _, rfl, rfl, h⟩ rfl (zbn hz78) (Nat.le_of_ble_eq_true rfl) (Nat.le_of_ble_eq_true rfl) dL_rings_1012
    · have h := h.2 c80
      refine z_iconst (v := 1) dL_rings_1007 rfl ?_
      refine z_goto 1012 dL_rings_1008 (by decide) ?_
      obtain ⟨hz79, h⟩ := h
      exact z_zreturn ⟨_, _, rfl, rfl, h⟩ rfl (zbn hz79) (Nat.le_of_ble_eq_true rfl) (Nat.le_of_ble_eq_true rfl) dL_rings_1012
  · have h := h.2 c169
    refine z_lload 0 dL_rings_974 rfl ?_
    refine z_ldc2 zw_1152 dL_rings_976 ?_
    refine z_lcmp dL_rings_979 ?_
    refine z_if_gt 992 dL_rings_980 (by decide) (fun c168 => ?_) (fun c168 => ?_)
    · have h := h.1 c168
      refine z_aload_n 2 dL_rings_992 rfl rfl ?_
      refine z_iload 13 dL_rings_993 rfl ?_
      refine z_lload 15 dL_rings_995 rfl ?_
      refine z_l2i dL_rings_997 rfl ?_
      refine zz_fl ?_
      refine z_callW (st := []) (w_L_pull h) zw_1091 zw_1089 zw_1090 zw_29 zy_L_pull rfl rfl ⟨Nat.le_of_ble_eq_true rfl, Nat.le_of_ble_eq_true rfl⟩ ⟨(Nat.le_of_ble_eq_true rfl), (Nat.le_of_ble_eq_true rfl)⟩ (Nat.le_of_ble_eq_true rfl) dL_rings_998 (fun r82 C81 h => ?_)
      refine z_widen (k' := 20) (n' := 120) (Nat.le_refl _) (Nat.le_refl _) ?_
      refine zz_fl ?_
      refine z_sipush (v := (-7300)) dL_rings_1001 rfl ?_
      refine z_icmp_ne 1011 dL_rings_1004 (by decide) (fun c85 => ?_) (fun c85 => ?_)
      · have h := h.1 c85
        refine z_iconst (v := 0) dL_rings_1011 rfl ?_
        obtain ⟨hz83, h⟩ := h
        exact z_zreturn ⟨_, _, rfl, rfl, h⟩ rfl (zbn hz83) (Nat.le_of_ble_eq_true rfl) (Nat.le_of_ble_eq_true rfl) dL_rings_1012
      · have h := h.2 c85
        refine z_iconst (v := 1) dL_rings_1007 rfl ?_
        refine z_goto 1012 dL_rings_1008 (by decide) ?_
        obtain ⟨hz84, h⟩ := h
        exact z_zreturn ⟨_, _, rfl, rfl, h⟩ rfl (zbn hz84) (Nat.le_of_ble_eq_true rfl) (Nat.le_of_ble_eq_true rfl) dL_rings_1012
    · have h := h.2 c168
      refine z_lload 0 dL_rings_983 rfl ?_
      refine z_ldc2 zw_1153 dL_rings_985 ?_
      refine z_lcmp dL_rings_988 ?_
      refine z_if_ge 1013 dL_rings_989 (by decide) (fun c167 => ?_) (fun c167 => ?_)
      · have h := h.1 c167
        refine z_aload 9 dL_rings_1013 rfl ?_
        refine z_iload 13 dL_rings_1015 rfl ?_
        refine z_dup2 dL_rings_1017 rfl rfl ?_
        obtain ⟨j86, hj87, h⟩ := h
        refine z_iald (j := j86) hf71.1 hf71.2 hj87.1 hj87.2.1 hj87.2.2 dL_rings_1018 ?_
        refine z_iload 16 dL_rings_1019 rfl ?_
        refine z_iadd dL_rings_1021 ?_
        obtain ⟨j88, hj89, h⟩ := h
        have h := h _ rfl
        refine z_iast (j := j88) hf71.1 hf71.2 hj89.1 hj89.2.1 hj89.2.2 dL_rings_1022 ?_
        obtain ⟨S90, hS91⟩ : ∃ z, z = sA S a11 j88 ((gA S a11 j86) + l21) := ⟨_, rfl⟩
        rw [← hS91] at h ⊢
        have hf71 : a11 ∈ gL S90 ∧ gK S90 a11 = 12 := by rw [hS91]; exact hf71
        refine z_aload 8 dL_rings_1023 rfl ?_
        refine z_iload 13 dL_rings_1025 rfl ?_
        refine z_dup2 dL_rings_1027 rfl rfl ?_
        obtain ⟨hf92, h⟩ := h
        obtain ⟨j93, hj94, h⟩ := h
        refine z_iald (j := j93) hf92.1 hf92.2 hj94.1 hj94.2.1 hj94.2.2 dL_rings_1028 ?_
        refine z_iload 16 dL_rings_1029 rfl ?_
        refine z_aload 12 dL_rings_1031 rfl ?_
        refine z_bipush (v := 9) dL_rings_1033 rfl ?_
        obtain ⟨hf95, h⟩ := h
        obtain ⟨hj97, h⟩ := h
        refine z_iald (j := 9) hf95.1 hf95.2 rfl hj97.1 hj97.2 dL_rings_1035 ?_
        refine z_iconst (v := 4) dL_rings_1036 rfl ?_
        refine z_idiv dL_rings_1037 (by decide) ?_
        refine z_icmp_le 1045 dL_rings_1038 (by decide) (fun c160 => ?_) (fun c160 => ?_)
        · have h := h.1 c160
          refine z_iconst (v := 0) dL_rings_1045 rfl ?_
          refine z_sub [2, 3, 4, 5, 6, 7, 8, 10, 11, 12, 13, 14, 15, 16, 1] rfl ?_
          refine w_L_rings_J1046 a0 a4 a5 a6 a7 a8 a10 a12 a13 a14 l15 l17 g19 l21 (g101 + g100) 0 (gA S90 a10 j93) l15 a10 S90 C h
        · have h := h.2 c160
          refine z_iconst (v := 1) dL_rings_1041 rfl ?_
          refine z_goto 1046 dL_rings_1042 (by decide) ?_
          refine z_sub [2, 3, 4, 5, 6, 7, 8, 10, 11, 12, 13, 14, 15, 16, 1] rfl ?_
          refine w_L_rings_J1046 a0 a4 a5 a6 a7 a8 a10 a12 a13 a14 l15 l17 g19 l21 (g101 + g100) 1 (gA S90 a10 j93) l15 a10 S90 C h
      · have h := h.2 c167
        refine z_aload_n 2 dL_rings_992 rfl rfl ?_
        refine z_iload 13 dL_rings_993 rfl ?_
        refine z_lload 15 dL_rings_995 rfl ?_
        refine z_l2i dL_rings_997 rfl ?_
        refine zz_fl ?_
        refine z_callW (st := []) (w_L_pull h) zw_1091 zw_1089 zw_1090 zw_29 zy_L_pull rfl rfl ⟨Nat.le_of_ble_eq_true rfl, Nat.le_of_ble_eq_true rfl⟩ ⟨(Nat.le_of_ble_eq_true rfl), (Nat.le_of_ble_eq_true rfl)⟩ (Nat.le_of_ble_eq_true rfl) dL_rings_998 (fun r163 C162 h => ?_)
        refine z_widen (k' := 20) (n' := 120) (Nat.le_refl _) (Nat.le_refl _) ?_
        refine zz_fl ?_
        refine z_sipush (v := (-7300)) dL_rings_1001 rfl ?_
        refine z_icmp_ne 1011 dL_rings_1004 (by decide) (fun c166 => ?_) (fun c166 => ?_)
        · have h := h.1 c166
          refine z_iconst (v := 0) dL_rings_1011 rfl ?_
          obtain ⟨hz164, h⟩ := h
          exact z_zreturn ⟨_, _, rfl, rfl, h⟩ rfl (zbn hz164) (Nat.le_of_ble_eq_true rfl) (Nat.le_of_ble_eq_true rfl) dL_rings_1012
        · have h := h.2 c166
          refine z_iconst (v := 1) dL_rings_1007 rfl ?_
          refine z_goto 1012 dL_rings_1008 (by decide) ?_
          obtain ⟨hz165, h⟩ := h
          exact z_zreturn ⟨_, _, rfl, rfl, h⟩ rfl (zbn hz165) (Nat.le_of_ble_eq_true rfl) (Nat.le_of_ble_eq_true rfl) dL_rings_1012
set_option maxRecDepth 20000 in
set_option maxHeartbeats 4000000 in
theorem w_L_rings_J909 {E : zE}  {Q : Int32 → zS → zS → Prop} {X : String → zS → Prop}  (a0 : Nat) (a4 : Nat) (a5 : Nat) (a6 : Nat) (a7 : Nat) (a8 : Nat) (a10 : Nat) (a11 : Nat) (a12 : Nat) (a13 : Nat) (a14 : Nat) (l15 : Int32) (l17 : Int32) (l18 : Int32) (g100 : Int64) (S C : zS) (h : p_L_rings_J909 E  Q X a0 a4 a5 a6 a7 a8 a10 a11 a12 a13 a14 l15 l17 l18 g100 S C) : zJ E (RL, cL_rings, 27, (some .boolean), false, [], zTr) ({ frames := 10, cells := 25, slots := 150, locals := 224 } : Room) (zY E Q) (fun _ _ _ => False) 909 [(0, .ref a0), (4, .ref a4), (5, .ref a5), (6, .ref a6), (7, .ref a7), (8, .ref a8), (10, .ref a10), (11, .ref a11), (12, .ref a12), (13, .ref a13), (14, .ref a14), (15, .int l15), (17, .int l17), (18, .int l18)] [.long g100] (zPl E C) S 16 96 := by
  unfold p_L_rings_J909 at h
  refine z_lstore (lv' := [(19, .long g100), (0, .ref a0), (4, .ref a4), (5, .ref a5), (6, .ref a6), (7, .ref a7), (8, .ref a8), (10, .ref a10), (11, .ref a11), (12, .ref a12), (13, .ref a13), (14, .ref a14), (15, .int l15), (17, .int l17), (18, .int l18)]) dL_rings_909 (Nat.le_of_ble_eq_true rfl) rfl ?_
  refine z_lload 0 dL_rings_911 rfl ?_
  refine z_iload 14 dL_rings_913 rfl ?_
  refine z_i2l dL_rings_915 rfl ?_
  refine z_lsub dL_rings_916 ?_
  refine z_l2i dL_rings_917 rfl ?_
  refine z_istore (lv' := [(21, .int ((g100 - (l18 : Int32).toInt64)).toInt32), (19, .long g100), (0, .ref a0), (4, .ref a4), (5, .ref a5), (6, .ref a6), (7, .ref a7), (8, .ref a8), (10, .ref a10), (11, .ref a11), (12, .ref a12), (13, .ref a13), (14, .ref a14), (15, .int l15), (17, .int l17), (18, .int l18)]) dL_rings_918 (Nat.le_of_ble_eq_true rfl) rfl ?_
  refine z_aload 12 dL_rings_920 rfl ?_
  refine z_bipush (v := 11) dL_rings_922 rfl ?_
  obtain ⟨hf66, h⟩ := h
  obtain ⟨hj68, h⟩ := h
  refine z_iald (j := 11) hf66.1 hf66.2 rfl hj68.1 hj68.2 dL_rings_924 ?_
  refine z_i2l dL_rings_925 rfl ?_
  refine z_iload 0 dL_rings_926 rfl ?_
  refine z_aload 12 dL_rings_928 rfl ?_
  refine z_bipush (v := 12) dL_rings_930 rfl ?_
  obtain ⟨hj70, h⟩ := h
  refine z_iald (j := 12) hf66.1 hf66.2 rfl hj70.1 hj70.2 dL_rings_932 ?_
  refine z_icmp_le 949 dL_rings_933 (by decide) (fun c172 => ?_) (fun c172 => ?_)
  · have h := h.1 c172
    refine z_lconst (v := 0) dL_rings_949 rfl ?_
    refine z_sub [2, 3, 4, 5, 6, 7, 8, 9, 10, 11, 12, 13, 14, 1, 0] rfl ?_
    refine w_L_rings_J950 a0 a4 a5 a6 a7 a8 a10 a11 a12 a13 a14 l15 l17 g100 (((g100 - (l18 : Int32).toInt64)).toInt32) 0 ((gA S a14 11).toInt64) S C h
  · have h := h.2 c172
    refine z_iload 0 dL_rings_936 rfl ?_
    refine z_i2l dL_rings_938 rfl ?_
    refine z_aload 12 dL_rings_939 rfl ?_
    refine z_bipush (v := 12) dL_rings_941 rfl ?_
    obtain ⟨hj171, h⟩ := h
    refine z_iald (j := 12) hf66.1 hf66.2 rfl hj171.1 hj171.2 dL_rings_943 ?_
    refine z_i2l dL_rings_944 rfl ?_
    refine z_lsub dL_rings_945 ?_
    refine z_goto 950 dL_rings_946 (by decide) ?_
    refine z_sub [2, 3, 4, 5, 6, 7, 8, 9, 10, 11, 12, 13, 14, 1, 0] rfl ?_
    refine w_L_rings_J950 a0 a4 a5 a6 a7 a8 a10 a11 a12 a13 a14 l15 l17 g100 (((g100 - (l18 : Int32).toInt64)).toInt32) (((g100 - (l18 : Int32).toInt64)).toInt32.toInt64 - (gA S a14 12).toInt64) ((gA S a14 11).toInt64) S C h
set_option maxRecDepth 20000 in
set_option maxHeartbeats 4000000 in
theorem w_L_rings_J879 {E : zE}  {Q : Int32 → zS → zS → Prop} {X : String → zS → Prop}  (a0 : Nat) (a4 : Nat) (a5 : Nat) (a6 : Nat) (a7 : Nat) (a8 : Nat) (a10 : Nat) (a11 : Nat) (a12 : Nat) (a13 : Nat) (a14 : Nat) (l15 : Int32) (l17 : Int32) (l18 : Int32) (g100 : Int64) (S C : zS) (h : p_L_rings_J879 E  Q X a0 a4 a5 a6 a7 a8 a10 a11 a12 a13 a14 l15 l17 l18 g100 S C) : zJ E (RL, cL_rings, 27, (some .boolean), false, [], zTr) ({ frames := 10, cells := 25, slots := 150, locals := 224 } : Room) (zY E Q) (fun _ _ _ => False) 879 [(0, .ref a0), (4, .ref a4), (5, .ref a5), (6, .ref a6), (7, .ref a7), (8, .ref a8), (10, .ref a10), (11, .ref a11), (12, .ref a12), (13, .ref a13), (14, .ref a14), (15, .int l15), (17, .int l17), (18, .int l18)] [.long g100] (zPl E C) S 16 96 := by
  unfold p_L_rings_J879 at h
  refine z_lstore (lv' := [(19, .long g100), (0, .ref a0), (4, .ref a4), (5, .ref a5), (6, .ref a6), (7, .ref a7), (8, .ref a8), (10, .ref a10), (11, .ref a11), (12, .ref a12), (13, .ref a13), (14, .ref a14), (15, .int l15), (17, .int l17), (18, .int l18)]) dL_rings_879 (Nat.le_of_ble_eq_true rfl) rfl ?_
  refine z_lload 0 dL_rings_881 rfl ?_
  refine z_lconst (v := 0) dL_rings_883 rfl ?_
  refine z_lcmp dL_rings_884 ?_
  refine z_if_ge 892 dL_rings_885 (by decide) (fun c174 => ?_) (fun c174 => ?_)
  · have h := h.1 c174
    refine z_lload 0 dL_rings_892 rfl ?_
    refine z_ldc2 zw_1151 dL_rings_894 ?_
    refine z_lcmp dL_rings_897 ?_
    refine z_if_le 907 dL_rings_898 (by decide) (fun c173 => ?_) (fun c173 => ?_)
    · have h := h.1 c173
      refine z_lload 0 dL_rings_907 rfl ?_
      refine z_sub [1, 2, 3, 4, 5, 6, 7, 8, 9, 10, 11, 12, 13, 14] rfl ?_
      refine w_L_rings_J909 a0 a4 a5 a6 a7 a8 a10 a11 a12 a13 a14 l15 l17 l18 g100 S C h
    · have h := h.2 c173
      refine z_ldc2 zw_1151 dL_rings_901 ?_
      refine z_goto 909 dL_rings_904 (by decide) ?_
      refine z_sub [1, 2, 3, 4, 5, 6, 7, 8, 9, 10, 11, 12, 13, 14] rfl ?_
      refine w_L_rings_J909 a0 a4 a5 a6 a7 a8 a10 a11 a12 a13 a14 l15 l17 l18 2000000000 S C h
  · have h := h.2 c174
    refine z_lconst (v := 0) dL_rings_888 rfl ?_
    refine z_goto 909 dL_rings_889 (by decide) ?_
    refine z_sub [1, 2, 3, 4, 5, 6, 7, 8, 9, 10, 11, 12, 13, 14] rfl ?_
    refine w_L_rings_J909 a0 a4 a5 a6 a7 a8 a10 a11 a12 a13 a14 l15 l17 l18 0 S C h
set_option maxRecDepth 20000 in
set_option maxHeartbeats 4000000 in
theorem w_L_rings_J646 {E : zE}  {Q : Int32 → zS → zS → Prop} {X : String → zS → Prop}  (a0 : Nat) (l3 : Int32) (a4 : Nat) (a5 : Nat) (a6 : Nat) (a7 : Nat) (a8 : Nat) (a10 : Nat) (a11 : Nat) (a12 : Nat) (a13 : Nat) (a14 : Nat) (l15 : Int32) (l100 : Int32) (S C : zS) (h : p_L_rings_J646 E  Q X a0 l3 a4 a5 a6 a7 a8 a10 a11 a12 a13 a14 l15 l100 S C) : zJ E (RL, cL_rings, 27, (some .boolean), false, [], zTr) ({ frames := 10, cells := 25, slots := 150, locals := 224 } : Room) (zY E Q) (fun _ _ _ => False) 646 [(0, .ref a0), (3, .int l3), (4, .ref a4), (5, .ref a5), (6, .ref a6), (7, .ref a7), (8, .ref a8), (10, .ref a10), (11, .ref a11), (12, .ref a12), (13, .ref a13), (14, .ref a14), (15, .int l15)] [.int l100] (zPl E C) S 0 0 := by
  unfold p_L_rings_J646 at h
  refine z_istore (lv' := [(16, .int l100), (0, .ref a0), (3, .int l3), (4, .ref a4), (5, .ref a5), (6, .ref a6), (7, .ref a7), (8, .ref a8), (10, .ref a10), (11, .ref a11), (12, .ref a12), (13, .ref a13), (14, .ref a14), (15, .int l15)]) dL_rings_646 (Nat.le_of_ble_eq_true rfl) rfl ?_
  refine z_aload_n 1 dL_rings_648 rfl rfl ?_
  refine z_bipush (v := 6) dL_rings_649 rfl ?_
  refine z_iconst (v := (-1)) dL_rings_651 rfl ?_
  refine zz_fl ?_
  refine z_callW (st := []) (w_L_pull h) zw_1091 zw_1089 zw_1090 zw_29 zy_L_pull rfl rfl ⟨Nat.le_of_ble_eq_true rfl, Nat.le_of_ble_eq_true rfl⟩ ⟨(Nat.le_of_ble_eq_true rfl), (Nat.le_of_ble_eq_true rfl)⟩ (Nat.le_of_ble_eq_true rfl) dL_rings_652 (fun r16 C15 h => ?_)
  refine z_widen (k' := 4) (n' := 24) (Nat.le_refl _) (Nat.le_refl _) ?_
  refine zz_fl ?_
  refine z_sipush (v := (-7100)) dL_rings_655 rfl ?_
  refine z_icmp_ne 700 dL_rings_658 (by decide) (fun c187 => ?_) (fun c187 => ?_)
  · have h := h.1 c187
    refine z_iconst (v := 0) dL_rings_700 rfl ?_
    obtain ⟨hz17, h⟩ := h
    exact z_zreturn ⟨_, _, rfl, rfl, h⟩ rfl (zbn hz17) (Nat.le_of_ble_eq_true rfl) (Nat.le_of_ble_eq_true rfl) dL_rings_701
  · have h := h.2 c187
    refine z_aload_n 1 dL_rings_661 rfl rfl ?_
    refine z_iload 13 dL_rings_662 rfl ?_
    refine z_iconst (v := (-1)) dL_rings_664 rfl ?_
    refine zz_fl ?_
    refine z_callW (st := []) (w_L_pull h) zw_1091 zw_1089 zw_1090 zw_29 zy_L_pull rfl rfl ⟨Nat.le_of_ble_eq_true rfl, Nat.le_of_ble_eq_true rfl⟩ ⟨(Nat.le_of_ble_eq_true rfl), (Nat.le_of_ble_eq_true rfl)⟩ (Nat.le_of_ble_eq_true rfl) dL_rings_665 (fun r19 C18 h => ?_)
    refine z_widen (k' := 8) (n' := 48) (Nat.le_refl _) (Nat.le_refl _) ?_
    refine zz_fl ?_
    refine z_sipush (v := (-7200)) dL_rings_668 rfl ?_
    refine z_icmp_ne 700 dL_rings_671 (by decide) (fun c186 => ?_) (fun c186 => ?_)
    · have h := h.1 c186
      refine z_iconst (v := 0) dL_rings_700 rfl ?_
      obtain ⟨hz20, h⟩ := h
      exact z_zreturn ⟨_, _, rfl, rfl, h⟩ rfl (zbn hz20) (Nat.le_of_ble_eq_true rfl) (Nat.le_of_ble_eq_true rfl) dL_rings_701
    · have h := h.2 c186
      refine z_aload_n 1 dL_rings_674 rfl rfl ?_
      refine z_iload 13 dL_rings_675 rfl ?_
      refine z_ldcw zw_1140 dL_rings_677 ?_
      refine zz_fl ?_
      refine z_callW (st := []) (w_L_pull h) zw_1091 zw_1089 zw_1090 zw_29 zy_L_pull rfl rfl ⟨Nat.le_of_ble_eq_true rfl, Nat.le_of_ble_eq_true rfl⟩ ⟨(Nat.le_of_ble_eq_true rfl), (Nat.le_of_ble_eq_true rfl)⟩ (Nat.le_of_ble_eq_true rfl) dL_rings_680 (fun r22 C21 h => ?_)
      refine z_widen (k' := 12) (n' := 72) (Nat.le_refl _) (Nat.le_refl _) ?_
      refine zz_fl ?_
      refine z_sipush (v := (-7200)) dL_rings_683 rfl ?_
      refine z_icmp_ne 700 dL_rings_686 (by decide) (fun c185 => ?_) (fun c185 => ?_)
      · have h := h.1 c185
        refine z_iconst (v := 0) dL_rings_700 rfl ?_
        obtain ⟨hz23, h⟩ := h
        exact z_zreturn ⟨_, _, rfl, rfl, h⟩ rfl (zbn hz23) (Nat.le_of_ble_eq_true rfl) (Nat.le_of_ble_eq_true rfl) dL_rings_701
      · have h := h.2 c185
        refine z_aload_n 1 dL_rings_689 rfl rfl ?_
        refine z_iconst (v := (-1)) dL_rings_690 rfl ?_
        refine zz_fl ?_
        refine z_callW (st := []) (w_L_due h) zw_1143 zw_1141 zw_1142 zw_29 zy_L_due rfl rfl ⟨Nat.le_of_ble_eq_true rfl, Nat.le_of_ble_eq_true rfl⟩ ⟨(Nat.le_of_ble_eq_true rfl), (Nat.le_of_ble_eq_true rfl)⟩ (Nat.le_of_ble_eq_true rfl) dL_rings_691 (fun r25 C24 h => ?_)
        refine z_widen (k' := 14) (n' := 84) (Nat.le_refl _) (Nat.le_refl _) ?_
        refine zz_fl ?_
        refine z_sipush (v := (-7100)) dL_rings_694 rfl ?_
        refine z_icmp_eq 702 dL_rings_697 (by decide) (fun c184 => ?_) (fun c184 => ?_)
        · have h := h.1 c184
          refine z_aload 12 dL_rings_702 rfl ?_
          refine z_bipush (v := 6) dL_rings_704 rfl ?_
          obtain ⟨hf26, h⟩ := h
          obtain ⟨hj28, h⟩ := h
          refine z_iald (j := 6) hf26.1 hf26.2 rfl hj28.1 hj28.2 dL_rings_706 ?_
          refine z_if_eq 736 dL_rings_707 (by decide) (fun c182 => ?_) (fun c182 => ?_)
          · have h := h.1 c182
            refine z_sub [1, 2, 13] rfl ?_
            refine w_L_rings_J736 a0 l3 l15 S C24 h
          · have h := h.2 c182
            refine z_aload 12 dL_rings_710 rfl ?_
            refine z_bipush (v := 8) dL_rings_712 rfl ?_
            obtain ⟨hj41, h⟩ := h
            refine z_iald (j := 8) hf26.1 hf26.2 rfl hj41.1 hj41.2 dL_rings_714 ?_
            refine z_iload 13 dL_rings_715 rfl ?_
            refine z_ishr dL_rings_717 ?_
            refine z_iconst (v := 1) dL_rings_718 rfl ?_
            refine z_iand dL_rings_719 ?_
            refine z_if_eq 736 dL_rings_720 (by decide) (fun c181 => ?_) (fun c181 => ?_)
            · have h := h.1 c181
              refine z_sub [1, 2, 13] rfl ?_
              refine w_L_rings_J736 a0 l3 l15 S C24 h
            · have h := h.2 c181
              refine z_aload 12 dL_rings_723 rfl ?_
              refine z_bipush (v := 16) dL_rings_725 rfl ?_
              refine z_iload 13 dL_rings_727 rfl ?_
              refine z_iadd dL_rings_729 ?_
              obtain ⟨j42, hj43, h⟩ := h
              refine z_iald (j := j42) hf26.1 hf26.2 hj43.1 hj43.2.1 hj43.2.2 dL_rings_730 ?_
              refine z_iload 0 dL_rings_731 rfl ?_
              refine z_icmp_ne 773 dL_rings_733 (by decide) (fun c180 => ?_) (fun c180 => ?_)
              · have h := h.1 c180
                refine z_aload 12 dL_rings_773 rfl ?_
                refine z_bipush (v := 16) dL_rings_775 rfl ?_
                refine z_iload 13 dL_rings_777 rfl ?_
                refine z_iadd dL_rings_779 ?_
                obtain ⟨j44, hj45, h⟩ := h
                refine z_iald (j := j44) hf26.1 hf26.2 hj45.1 hj45.2.1 hj45.2.2 dL_rings_780 ?_
                refine z_istore (lv' := [(17, .int (gA S a14 j44)), (16, .int l100), (0, .ref a0), (3, .int l3), (4, .ref a4), (5, .ref a5), (6, .ref a6), (7, .ref a7), (8, .ref a8), (10, .ref a10), (11, .ref a11), (12, .ref a12), (13, .ref a13), (14, .ref a14), (15, .int l15)]) dL_rings_781 (Nat.le_of_ble_eq_true rfl) rfl ?_
                refine z_aload 13 dL_rings_783 rfl ?_
                refine z_bipush (v := 9) dL_rings_785 rfl ?_
                obtain ⟨hj47, h⟩ := h
                refine z_iald (j := 9) hf26.1 hf26.2 rfl hj47.1 hj47.2 dL_rings_787 ?_
                refine z_aload 4 dL_rings_788 rfl ?_
                refine z_aload 5 dL_rings_790 rfl ?_
                refine z_aload 13 dL_rings_792 rfl ?_
                refine z_bipush (v := 7) dL_rings_794 rfl ?_
                obtain ⟨hj49, h⟩ := h
                refine z_iald (j := 7) hf26.1 hf26.2 rfl hj49.1 hj49.2 dL_rings_796 ?_
                refine z_callSI (st := [.int (gA S a14 9)]) (w_L_stageIn h) zw_800 zw_798 zw_799 zw_29 zy_L_stageIn rfl rfl ⟨Nat.le_of_ble_eq_true rfl, Nat.le_of_ble_eq_true rfl⟩ ⟨(Nat.le_of_ble_eq_true rfl), (Nat.le_of_ble_eq_true rfl)⟩ (Nat.le_of_ble_eq_true rfl) dL_rings_797 (fun _ _ hx => hx.elim) (fun r51 S50 h => ?_)
                refine z_widen (k' := 14) (n' := 84) (Nat.le_refl _) (Nat.le_refl _) ?_
                refine z_iload 0 dL_rings_800 rfl ?_
                refine z_imul dL_rings_802 ?_
                refine z_aload 12 dL_rings_803 rfl ?_
                refine z_iload 0 dL_rings_805 rfl ?_
                obtain ⟨hf52, h⟩ := h
                obtain ⟨j53, hj54, h⟩ := h
                refine z_iald (j := j53) hf52.1 hf52.2 hj54.1 hj54.2.1 hj54.2.2 dL_rings_807 ?_
                refine z_iload 14 dL_rings_808 rfl ?_
                refine z_callSI (st := [.int (r51 * (gA S a14 j44)), .int (gA S a14 9)]) (w_L_place h) zw_1150 zw_1148 zw_1149 zw_29 zy_L_place rfl rfl ⟨Nat.le_of_ble_eq_true rfl, Nat.le_of_ble_eq_true rfl⟩ ⟨(Nat.le_of_ble_eq_true rfl), (Nat.le_of_ble_eq_true rfl)⟩ (Nat.le_of_ble_eq_true rfl) dL_rings_810 (fun _ _ hx => hx.elim) (fun r56 S55 h => ?_)
                refine z_widen (k' := 14) (n' := 84) (Nat.le_refl _) (Nat.le_refl _) ?_
                refine z_iadd dL_rings_813 ?_
                refine z_iload 0 dL_rings_814 rfl ?_
                refine z_iconst (v := 2) dL_rings_816 rfl ?_
                refine z_idiv dL_rings_817 (by decide) ?_
                refine z_iadd dL_rings_818 ?_
                refine z_imul dL_rings_819 ?_
                refine z_aload 13 dL_rings_820 rfl ?_
                refine z_bipush (v := 11) dL_rings_822 rfl ?_
                obtain ⟨hf57, h⟩ := h
                obtain ⟨hj59, h⟩ := h
                refine z_iald (j := 11) hf57.1 hf57.2 rfl hj59.1 hj59.2 dL_rings_824 ?_
                refine z_iadd dL_rings_825 ?_
                refine z_top (fun x60 hx61 => ?_)
                have h := h x60 hx61
                refine z_istore (lv' := [(18, .int x60), (17, .int (gA S a14 j44)), (16, .int l100), (0, .ref a0), (3, .int l3), (4, .ref a4), (5, .ref a5), (6, .ref a6), (7, .ref a7), (8, .ref a8), (10, .ref a10), (11, .ref a11), (12, .ref a12), (13, .ref a13), (14, .ref a14), (15, .int l15)]) dL_rings_826 (Nat.le_of_ble_eq_true rfl) rfl ?_
                refine z_aload_n 3 dL_rings_828 rfl rfl ?_
                refine z_iload 15 dL_rings_829 rfl ?_
                refine zz_fl ?_
                refine z_callW (st := []) (w_L_due h) zw_1143 zw_1141 zw_1142 zw_29 zy_L_due rfl rfl ⟨Nat.le_of_ble_eq_true rfl, Nat.le_of_ble_eq_true rfl⟩ ⟨(Nat.le_of_ble_eq_true rfl), (Nat.le_of_ble_eq_true rfl)⟩ (Nat.le_of_ble_eq_true rfl) dL_rings_831 (fun r63 C62 h => ?_)
                refine z_widen (k' := 16) (n' := 96) (Nat.le_refl _) (Nat.le_refl _) ?_
                refine zz_fl ?_
                refine z_iload 0 dL_rings_834 rfl ?_
                refine z_icmp_eq 841 dL_rings_836 (by decide) (fun c179 => ?_) (fun c179 => ?_)
                · have h := h.1 c179
                  refine z_iload_n 4 dL_rings_841 rfl rfl ?_
                  refine z_sipush (v := 14336) dL_rings_842 rfl ?_
                  refine z_iand dL_rings_845 ?_
                  refine z_if_ne 862 dL_rings_846 (by decide) (fun c177 => ?_) (fun c177 => ?_)
                  · have h := h.1 c177
                    refine z_iload 0 dL_rings_862 rfl ?_
                    refine z_iload_n 4 dL_rings_864 rfl rfl ?_
                    refine z_iconst (v := 3) dL_rings_865 rfl ?_
                    refine z_ishr dL_rings_866 ?_
                    refine z_sipush (v := 400) dL_rings_867 rfl ?_
                    refine z_callSI (st := [.int x60]) (w_L_low h) zw_313 zw_311 zw_312 zw_29 zy_L_low rfl rfl ⟨Nat.le_of_ble_eq_true rfl, Nat.le_of_ble_eq_true rfl⟩ ⟨(Nat.le_of_ble_eq_true rfl), (Nat.le_of_ble_eq_true rfl)⟩ (Nat.le_of_ble_eq_true rfl) dL_rings_870 (fun _ _ hx => hx.elim) (fun r65 S64 h => ?_)
                    refine z_widen (k' := 16) (n' := 96) (Nat.le_refl _) (Nat.le_refl _) ?_
                    refine z_iadd dL_rings_873 ?_
                    refine z_sipush (v := 150) dL_rings_874 rfl ?_
                    refine z_isub dL_rings_877 ?_
                    refine z_i2l dL_rings_878 rfl ?_
                    refine z_sub [3, 5, 6, 7, 8, 9, 10, 11, 12, 13, 14, 15, 1, 0] rfl ?_
                    refine w_L_rings_J879 a0 a4 a5 a6 a7 a8 a10 a11 a12 a13 a14 l15 (gA S a14 j44) x60 (((x60 + r65) - 150).toInt64) S64 C62 h
                  · have h := h.2 c177
                    refine z_iload_n 4 dL_rings_849 rfl rfl ?_
                    refine z_iconst (v := 3) dL_rings_850 rfl ?_
                    refine z_ishr dL_rings_851 ?_
                    refine z_ldcw zw_1140 dL_rings_852 ?_
                    refine z_callSI (st := []) (w_L_low h) zw_313 zw_311 zw_312 zw_29 zy_L_low rfl rfl ⟨Nat.le_of_ble_eq_true rfl, Nat.le_of_ble_eq_true rfl⟩ ⟨(Nat.le_of_ble_eq_true rfl), (Nat.le_of_ble_eq_true rfl)⟩ (Nat.le_of_ble_eq_true rfl) dL_rings_855 (fun _ _ hx => hx.elim) (fun r176 S175 h => ?_)
                    refine z_widen (k' := 16) (n' := 96) (Nat.le_refl _) (Nat.le_refl _) ?_
                    refine z_i2l dL_rings_858 rfl ?_
                    refine z_goto 879 dL_rings_859 (by decide) ?_
                    refine z_sub [3, 5, 6, 7, 8, 9, 10, 11, 12, 13, 14, 15, 1, 0] rfl ?_
                    refine w_L_rings_J879 a0 a4 a5 a6 a7 a8 a10 a11 a12 a13 a14 l15 (gA S a14 j44) x60 ((r176 : Int32).toInt64) S175 C62 h
                · have h := h.2 c179
                  refine z_iconst (v := 0) dL_rings_839 rfl ?_
                  obtain ⟨hz178, h⟩ := h
                  exact z_zreturn ⟨_, _, rfl, rfl, h⟩ rfl (zbn hz178) (Nat.le_of_ble_eq_true rfl) (Nat.le_of_ble_eq_true rfl) dL_rings_840
              · have h := h.2 c180
                refine z_sub [1, 2, 13] rfl ?_
                refine w_L_rings_J736 a0 l3 l15 S C24 h
        · have h := h.2 c184
          refine z_iconst (v := 0) dL_rings_700 rfl ?_
          obtain ⟨hz183, h⟩ := h
          exact z_zreturn ⟨_, _, rfl, rfl, h⟩ rfl (zbn hz183) (Nat.le_of_ble_eq_true rfl) (Nat.le_of_ble_eq_true rfl) dL_rings_701
set_option maxRecDepth 20000 in
set_option maxHeartbeats 4000000 in
theorem w_L_rings_J618 {E : zE}  {Q : Int32 → zS → zS → Prop} {X : String → zS → Prop}  (a0 : Nat) (l3 : Int32) (a4 : Nat) (a5 : Nat) (a6 : Nat) (a7 : Nat) (a8 : Nat) (a10 : Nat) (a11 : Nat) (a12 : Nat) (a13 : Nat) (a14 : Nat) (l15 : Int32) (S C : zS) (h : p_L_rings_J618 E  Q X a0 l3 a4 a5 a6 a7 a8 a10 a11 a12 a13 a14 l15 S C) : zJ E (RL, cL_rings, 27, (some .boolean), false, [], zTr) ({ frames := 10, cells := 25, slots := 150, locals := 224 } : Room) (zY E Q) (fun _ _ _ => False) 618 [(0, .ref a0), (3, .int l3), (4, .ref a4), (5, .ref a5), (6, .ref a6), (7, .ref a7), (8, .ref a8), (10, .ref a10), (11, .ref a11), (12, .ref a12), (13, .ref a13), (14, .ref a14), (15, .int l15)] [] (zPl E C) S 0 0 := by
  unfold p_L_rings_J618 at h
  refine z_aload 11 dL_rings_618 rfl ?_
  refine z_bipush (v := 6) dL_rings_620 rfl ?_
  obtain ⟨hf12, h⟩ := h
  obtain ⟨hj14, h⟩ := h
  refine z_iald (j := 6) hf12.1 hf12.2 rfl hj14.1 hj14.2 dL_rings_622 ?_
  refine z_iconst (v := 1) dL_rings_623 rfl ?_
  refine z_icmp_ne 645 dL_rings_624 (by decide) (fun c195 => ?_) (fun c195 => ?_)
  · have h := h.1 c195
    refine z_iconst (v := 0) dL_rings_645 rfl ?_
    refine w_L_rings_J646 a0 l3 a4 a5 a6 a7 a8 a10 a11 a12 a13 a14 l15 0 S C h
  · have h := h.2 c195
    refine z_aload 2 dL_rings_627 rfl ?_
    refine z_aload 3 dL_rings_629 rfl ?_
    refine z_aload 11 dL_rings_631 rfl ?_
    refine z_bipush (v := 7) dL_rings_633 rfl ?_
    obtain ⟨hj189, h⟩ := h
    refine z_iald (j := 7) hf12.1 hf12.2 rfl hj189.1 hj189.2 dL_rings_635 ?_
    obtain ⟨hf190, h⟩ := h
    obtain ⟨j191, hj192, h⟩ := h
    refine z_iald (j := j191) hf190.1 hf190.2 hj192.1 hj192.2.1 hj192.2.2 dL_rings_636 ?_
    refine z_aload 10 dL_rings_637 rfl ?_
    refine z_callSI (st := []) (w_L_lay h) zw_809 zw_807 zw_808 zw_29 zy_L_lay rfl rfl ⟨Nat.le_of_ble_eq_true rfl, Nat.le_of_ble_eq_true rfl⟩ ⟨(Nat.le_of_ble_eq_true rfl), (Nat.le_of_ble_eq_true rfl)⟩ (Nat.le_of_ble_eq_true rfl) dL_rings_639 (fun _ _ hx => hx.elim) (fun r194 S193 h => ?_)
    refine z_widen (k' := 0) (n' := 0) (Nat.le_refl _) (Nat.le_refl _) ?_
    refine z_goto 646 dL_rings_642 (by decide) ?_
    refine w_L_rings_J646 a0 l3 a4 a5 a6 a7 a8 a10 a11 a12 a13 a14 l15 r194 S193 C h
set_option maxRecDepth 20000 in
set_option maxHeartbeats 4000000 in
theorem w_L_rings_J556 {E : zE}  {Q : Int32 → zS → zS → Prop} {X : String → zS → Prop}  (a0 : Nat) (l2 : Int32) (l3 : Int32) (a4 : Nat) (a5 : Nat) (a6 : Nat) (a7 : Nat) (a8 : Nat) (a10 : Nat) (a11 : Nat) (a12 : Nat) (a13 : Nat) (a14 : Nat) (S C : zS) (h : p_L_rings_J556 E  Q X a0 l2 l3 a4 a5 a6 a7 a8 a10 a11 a12 a13 a14 S C) : zJ E (RL, cL_rings, 27, (some .boolean), false, [], zTr) ({ frames := 10, cells := 25, slots := 150, locals := 224 } : Room) (zY E Q) (fun _ _ _ => False) 556 [(0, .ref a0), (2, .int l2), (3, .int l3), (4, .ref a4), (5, .ref a5), (6, .ref a6), (7, .ref a7), (8, .ref a8), (10, .ref a10), (11, .ref a11), (12, .ref a12), (13, .ref a13), (14, .ref a14)] [] (zPl E C) S 0 0 := by
  unfold p_L_rings_J556 at h
  refine z_iload_n 1 dL_rings_556 rfl rfl ?_
  refine z_bipush (v := 6) dL_rings_557 rfl ?_
  refine z_callSI (st := []) (w_L_low h) zw_313 zw_311 zw_312 zw_29 zy_L_low rfl rfl ⟨Nat.le_of_ble_eq_true rfl, Nat.le_of_ble_eq_true rfl⟩ ⟨(Nat.le_of_ble_eq_true rfl), (Nat.le_of_ble_eq_true rfl)⟩ (Nat.le_of_ble_eq_true rfl) dL_rings_559 (fun _ _ hx => hx.elim) (fun r2 S1 h => ?_)
  refine z_widen (k' := 0) (n' := 0) (Nat.le_refl _) (Nat.le_refl _) ?_
  refine z_istore (lv' := [(15, .int r2), (0, .ref a0), (2, .int l2), (3, .int l3), (4, .ref a4), (5, .ref a5), (6, .ref a6), (7, .ref a7), (8, .ref a8), (10, .ref a10), (11, .ref a11), (12, .ref a12), (13, .ref a13), (14, .ref a14)]) dL_rings_562 (Nat.le_of_ble_eq_true rfl) rfl ?_
  refine z_iconst (v := 0) dL_rings_564 rfl ?_
  refine z_istore (lv' := [(16, .int 0), (15, .int r2), (0, .ref a0), (2, .int l2), (3, .int l3), (4, .ref a4), (5, .ref a5), (6, .ref a6), (7, .ref a7), (8, .ref a8), (10, .ref a10), (11, .ref a11), (12, .ref a12), (13, .ref a13), (14, .ref a14)]) dL_rings_565 (Nat.le_of_ble_eq_true rfl) rfl ?_
  obtain ⟨m567, h⟩ := h
  refine z_sub [2, 4, 5, 6, 7, 8, 9, 10, 11, 12, 13, 14, 1, 0] rfl ?_
  refine w_L_rings_L567 (fun a0 l3 a4 a5 a6 a7 a8 a10 a11 a12 a13 a14 l15 S C h => ?_) m567 a0 l3 a4 a5 a6 a7 a8 a10 a11 a12 a13 a14 r2 0 S1 C h
  refine w_L_rings_J618 a0 l3 a4 a5 a6 a7 a8 a10 a11 a12 a13 a14 l15 S C h
set_option maxRecDepth 20000 in
set_option maxHeartbeats 4000000 in
theorem w_L_rings_J430 {E : zE}  {Q : Int32 → zS → zS → Prop} {X : String → zS → Prop}  (a0 : Nat) (a14 : Nat) (l15 : Int32) (l100 : Int32) (l101 : Int32) (l102 : Int32) (a103 : Nat) (S C : zS) (h : p_L_rings_J430 E  Q X a0 a14 l15 l100 l101 l102 a103 S C) : zJ E (RL, cL_rings, 27, (some .boolean), false, [], zTr) ({ frames := 10, cells := 25, slots := 150, locals := 224 } : Room) (zY E Q) (fun _ _ _ => False) 430 [(0, .ref a0), (14, .ref a14), (15, .int l15)] [.int l100, .int l101, .int l102, .ref a103] (zPl E C) S 0 0 := by
  unfold p_L_rings_J430 at h
  refine z_callSI (st := [.int l102, .ref a103]) (w_L_low h) zw_313 zw_311 zw_312 zw_29 zy_L_low rfl rfl ⟨Nat.le_of_ble_eq_true rfl, Nat.le_of_ble_eq_true rfl⟩ ⟨(Nat.le_of_ble_eq_true rfl), (Nat.le_of_ble_eq_true rfl)⟩ (Nat.le_of_ble_eq_true rfl) dL_rings_430 (fun _ _ hx => hx.elim) (fun r226 S225 h => ?_)
  refine z_widen (k' := 0) (n' := 0) (Nat.le_refl _) (Nat.le_refl _) ?_
  obtain ⟨hf227, h⟩ := h
  obtain ⟨j228, hj229, h⟩ := h
  have h := h _ rfl
  refine z_iast (j := j228) hf227.1 hf227.2 hj229.1 hj229.2.1 hj229.2.2 dL_rings_433 ?_
  obtain ⟨S230, hS231⟩ : ∃ z, z = sA S225 a103 j228 r226 := ⟨_, rfl⟩
  rw [← hS231] at h ⊢
  have hf227 : a103 ∈ gL S230 ∧ gK S230 a103 = 12 := by rw [hS231]; exact hf227
  refine z_aload_n 0 dL_rings_434 rfl rfl ?_
  refine z_iconst (v := (-1)) dL_rings_435 rfl ?_
  refine zz_fl ?_
  refine z_callW (st := []) (w_L_setPatience h) zw_1084 zw_1082 zw_1083 zw_29 zy_L_setPatience rfl rfl ⟨Nat.le_of_ble_eq_true rfl, Nat.le_of_ble_eq_true rfl⟩ ⟨(Nat.le_of_ble_eq_true rfl), (Nat.le_of_ble_eq_true rfl)⟩ (Nat.le_of_ble_eq_true rfl) dL_rings_436 (fun r233 C232 h => ?_)
  refine z_widen (k' := 1) (n' := 6) (Nat.le_refl _) (Nat.le_refl _) ?_
  refine zz_fl ?_
  refine z_sipush (v := (-7200)) dL_rings_439 rfl ?_
  refine z_icmp_ne 476 dL_rings_442 (by decide) (fun c247 => ?_) (fun c247 => ?_)
  · have h := h.1 c247
    refine z_iconst (v := 0) dL_rings_476 rfl ?_
    obtain ⟨hz234, h⟩ := h
    exact z_zreturn ⟨_, _, rfl, rfl, h⟩ rfl (zbn hz234) (Nat.le_of_ble_eq_true rfl) (Nat.le_of_ble_eq_true rfl) dL_rings_477
  · have h := h.2 c247
    refine z_aload_n 0 dL_rings_445 rfl rfl ?_
    refine z_sipush (v := 1001) dL_rings_446 rfl ?_
    refine zz_fl ?_
    refine z_callW (st := []) (w_L_setPatience h) zw_1084 zw_1082 zw_1083 zw_29 zy_L_setPatience rfl rfl ⟨Nat.le_of_ble_eq_true rfl, Nat.le_of_ble_eq_true rfl⟩ ⟨(Nat.le_of_ble_eq_true rfl), (Nat.le_of_ble_eq_true rfl)⟩ (Nat.le_of_ble_eq_true rfl) dL_rings_449 (fun r236 C235 h => ?_)
    refine z_widen (k' := 2) (n' := 12) (Nat.le_refl _) (Nat.le_refl _) ?_
    refine zz_fl ?_
    refine z_sipush (v := (-7200)) dL_rings_452 rfl ?_
    refine z_icmp_ne 476 dL_rings_455 (by decide) (fun c246 => ?_) (fun c246 => ?_)
    · have h := h.1 c246
      refine z_iconst (v := 0) dL_rings_476 rfl ?_
      obtain ⟨hz237, h⟩ := h
      exact z_zreturn ⟨_, _, rfl, rfl, h⟩ rfl (zbn hz237) (Nat.le_of_ble_eq_true rfl) (Nat.le_of_ble_eq_true rfl) dL_rings_477
    · have h := h.2 c246
      refine z_aload_n 0 dL_rings_458 rfl rfl ?_
      refine z_aload 1 dL_rings_459 rfl ?_
      refine z_bipush (v := 12) dL_rings_461 rfl ?_
      obtain ⟨hf238, h⟩ := h
      obtain ⟨hj240, h⟩ := h
      refine z_iald (j := 12) hf238.1 hf238.2 rfl hj240.1 hj240.2 dL_rings_463 ?_
      refine zz_fl ?_
      refine z_callW (st := []) (w_L_setPatience h) zw_1084 zw_1082 zw_1083 zw_29 zy_L_setPatience rfl rfl ⟨Nat.le_of_ble_eq_true rfl, Nat.le_of_ble_eq_true rfl⟩ ⟨(Nat.le_of_ble_eq_true rfl), (Nat.le_of_ble_eq_true rfl)⟩ (Nat.le_of_ble_eq_true rfl) dL_rings_464 (fun r242 C241 h => ?_)
      refine z_widen (k' := 3) (n' := 18) (Nat.le_refl _) (Nat.le_refl _) ?_
      refine zz_fl ?_
      refine z_iload 2 dL_rings_467 rfl ?_
      refine z_icmp_ne 476 dL_rings_469 (by decide) (fun c245 => ?_) (fun c245 => ?_)
      · have h := h.1 c245
        refine z_iconst (v := 0) dL_rings_476 rfl ?_
        obtain ⟨hz243, h⟩ := h
        exact z_zreturn ⟨_, _, rfl, rfl, h⟩ rfl (zbn hz243) (Nat.le_of_ble_eq_true rfl) (Nat.le_of_ble_eq_true rfl) dL_rings_477
      · have h := h.2 c245
        refine z_iconst (v := 1) dL_rings_472 rfl ?_
        refine z_goto 477 dL_rings_473 (by decide) ?_
        obtain ⟨hz244, h⟩ := h
        exact z_zreturn ⟨_, _, rfl, rfl, h⟩ rfl (zbn hz244) (Nat.le_of_ble_eq_true rfl) (Nat.le_of_ble_eq_true rfl) dL_rings_477
set_option maxRecDepth 20000 in
set_option maxHeartbeats 4000000 in
theorem w_L_rings_J398 {E : zE}  {Q : Int32 → zS → zS → Prop} {X : String → zS → Prop}  (a0 : Nat) (l1 : Int32) (l2 : Int32) (l3 : Int32) (a4 : Nat) (a5 : Nat) (a6 : Nat) (a7 : Nat) (a8 : Nat) (a10 : Nat) (a11 : Nat) (a12 : Nat) (a13 : Nat) (a14 : Nat) (S C : zS) (h : p_L_rings_J398 E  Q X a0 l1 l2 l3 a4 a5 a6 a7 a8 a10 a11 a12 a13 a14 S C) : zJ E (RL, cL_rings, 27, (some .boolean), false, [], zTr) ({ frames := 10, cells := 25, slots := 150, locals := 224 } : Room) (zY E Q) (fun _ _ _ => False) 398 [(0, .ref a0), (1, .int l1), (2, .int l2), (3, .int l3), (4, .ref a4), (5, .ref a5), (6, .ref a6), (7, .ref a7), (8, .ref a8), (10, .ref a10), (11, .ref a11), (12, .ref a12), (13, .ref a13), (14, .ref a14)] [] (zPl E C) S 0 0 := by
  unfold p_L_rings_J398 at h
  refine z_iload_n 1 dL_rings_398 rfl rfl ?_
  refine z_iconst (v := 4) dL_rings_399 rfl ?_
  refine z_icmp_ne 478 dL_rings_400 (by decide) (fun c250 => ?_) (fun c250 => ?_)
  · have h := h.1 c250
    refine z_iload_n 1 dL_rings_478 rfl rfl ?_
    refine z_iconst (v := 5) dL_rings_479 rfl ?_
    refine z_icmp_ne 556 dL_rings_480 (by decide) (fun c221 => ?_) (fun c221 => ?_)
    · have h := h.1 c221
      refine z_sub [0, 2, 3, 4, 5, 6, 7, 8, 9, 10, 11, 12, 13] rfl ?_
      refine w_L_rings_J556 a0 l2 l3 a4 a5 a6 a7 a8 a10 a11 a12 a13 a14 S C h
    · have h := h.2 c221
      refine z_iload_n 3 dL_rings_483 rfl rfl ?_
      refine z_sipush (v := 768) dL_rings_484 rfl ?_
      refine z_iand dL_rings_487 ?_
      refine z_if_ne 556 dL_rings_488 (by decide) (fun c220 => ?_) (fun c220 => ?_)
      · have h := h.1 c220
        refine z_sub [0, 2, 3, 4, 5, 6, 7, 8, 9, 10, 11, 12, 13] rfl ?_
        refine w_L_rings_J556 a0 l2 l3 a4 a5 a6 a7 a8 a10 a11 a12 a13 a14 S C h
      · have h := h.2 c220
        refine z_aload 13 dL_rings_491 rfl ?_
        refine z_bipush (v := 6) dL_rings_493 rfl ?_
        obtain ⟨hf196, h⟩ := h
        obtain ⟨hj198, h⟩ := h
        refine z_iald (j := 6) hf196.1 hf196.2 rfl hj198.1 hj198.2 dL_rings_495 ?_
        refine z_if_ne 515 dL_rings_496 (by decide) (fun c219 => ?_) (fun c219 => ?_)
        · have h := h.1 c219
          refine z_aload 13 dL_rings_515 rfl ?_
          refine z_bipush (v := 6) dL_rings_517 rfl ?_
          refine z_iconst (v := 0) dL_rings_519 rfl ?_
          obtain ⟨hj200, h⟩ := h
          have h := h _ rfl
          refine z_iast (j := 6) hf196.1 hf196.2 rfl hj200.1 hj200.2 dL_rings_520 ?_
          obtain ⟨S201, hS202⟩ : ∃ z, z = sA S a14 6 0 := ⟨_, rfl⟩
          rw [← hS202] at h ⊢
          have hf196 : a14 ∈ gL S201 ∧ gK S201 a14 = 12 := by rw [hS202]; exact hf196
          refine z_aload 4 dL_rings_521 rfl ?_
          refine z_aload 5 dL_rings_523 rfl ?_
          refine z_aload 6 dL_rings_525 rfl ?_
          refine z_aload 7 dL_rings_527 rfl ?_
          refine z_aload 8 dL_rings_529 rfl ?_
          refine z_aload 12 dL_rings_531 rfl ?_
          refine z_aload 13 dL_rings_533 rfl ?_
          refine z_callSV (st := []) (w_L_look h) zw_1081 zw_1079 zw_1080 zw_29 zy_L_look rfl rfl ⟨Nat.le_of_ble_eq_true rfl, Nat.le_of_ble_eq_true rfl⟩ ⟨(Nat.le_of_ble_eq_true rfl), (Nat.le_of_ble_eq_true rfl)⟩ (Nat.le_of_ble_eq_true rfl) dL_rings_535 (fun _ _ hx => hx.elim) (fun S203 h => ?_)
          refine z_widen (k' := 0) (n' := 0) (Nat.le_refl _) (Nat.le_refl _) ?_
          refine z_aload_n 0 dL_rings_538 rfl rfl ?_
          refine zz_fl ?_
          refine z_callW (st := []) (w_L_stand h) zw_1060 zw_1058 zw_1059 zw_29 zy_L_stand rfl rfl ⟨Nat.le_of_ble_eq_true rfl, Nat.le_of_ble_eq_true rfl⟩ ⟨(Nat.le_of_ble_eq_true rfl), (Nat.le_of_ble_eq_true rfl)⟩ (Nat.le_of_ble_eq_true rfl) dL_rings_539 (fun r206 C205 h => ?_)
          refine z_widen (k' := 1) (n' := 6) (Nat.le_refl _) (Nat.le_refl _) ?_
          refine zz_fl ?_
          refine z_aload 13 dL_rings_542 rfl ?_
          refine z_bipush (v := 10) dL_rings_544 rfl ?_
          obtain ⟨hf207, h⟩ := h
          obtain ⟨hj209, h⟩ := h
          refine z_iald (j := 10) hf207.1 hf207.2 rfl hj209.1 hj209.2 dL_rings_546 ?_
          refine z_icmp_ne 554 dL_rings_547 (by decide) (fun c212 => ?_) (fun c212 => ?_)
          · have h := h.1 c212
            refine z_iconst (v := 0) dL_rings_554 rfl ?_
            obtain ⟨hz210, h⟩ := h
            exact z_zreturn ⟨_, _, rfl, rfl, h⟩ rfl (zbn hz210) (Nat.le_of_ble_eq_true rfl) (Nat.le_of_ble_eq_true rfl) dL_rings_555
          · have h := h.2 c212
            refine z_iconst (v := 1) dL_rings_550 rfl ?_
            refine z_goto 555 dL_rings_551 (by decide) ?_
            obtain ⟨hz211, h⟩ := h
            exact z_zreturn ⟨_, _, rfl, rfl, h⟩ rfl (zbn hz211) (Nat.le_of_ble_eq_true rfl) (Nat.le_of_ble_eq_true rfl) dL_rings_555
        · have h := h.2 c219
          refine z_aload_n 0 dL_rings_499 rfl rfl ?_
          refine zz_fl ?_
          refine z_callW (st := []) (w_L_stand h) zw_1060 zw_1058 zw_1059 zw_29 zy_L_stand rfl rfl ⟨Nat.le_of_ble_eq_true rfl, Nat.le_of_ble_eq_true rfl⟩ ⟨(Nat.le_of_ble_eq_true rfl), (Nat.le_of_ble_eq_true rfl)⟩ (Nat.le_of_ble_eq_true rfl) dL_rings_500 (fun r215 C214 h => ?_)
          refine z_widen (k' := 1) (n' := 6) (Nat.le_refl _) (Nat.le_refl _) ?_
          refine zz_fl ?_
          refine z_sipush (v := (-7300)) dL_rings_503 rfl ?_
          refine z_icmp_ne 513 dL_rings_506 (by decide) (fun c218 => ?_) (fun c218 => ?_)
          · have h := h.1 c218
            refine z_iconst (v := 0) dL_rings_513 rfl ?_
            obtain ⟨hz216, h⟩ := h
            exact z_zreturn ⟨_, _, rfl, rfl, h⟩ rfl (zbn hz216) (Nat.le_of_ble_eq_true rfl) (Nat.le_of_ble_eq_true rfl) dL_rings_514
          · have h := h.2 c218
            refine z_iconst (v := 1) dL_rings_509 rfl ?_
            refine z_goto 514 dL_rings_510 (by decide) ?_
            obtain ⟨hz217, h⟩ := h
            exact z_zreturn ⟨_, _, rfl, rfl, h⟩ rfl (zbn hz217) (Nat.le_of_ble_eq_true rfl) (Nat.le_of_ble_eq_true rfl) dL_rings_514
  · have h := h.2 c250
    refine z_aload 13 dL_rings_403 rfl ?_
    refine z_bipush (v := 12) dL_rings_405 rfl ?_
    obtain ⟨hf222, h⟩ := h
    obtain ⟨hj224, h⟩ := h
    refine z_iald (j := 12) hf222.1 hf222.2 rfl hj224.1 hj224.2 dL_rings_407 ?_
    refine z_istore (lv' := [(15, .int (gA S a14 12)), (0, .ref a0), (1, .int l1), (2, .int l2), (3, .int l3), (4, .ref a4), (5, .ref a5), (6, .ref a6), (7, .ref a7), (8, .ref a8), (10, .ref a10), (11, .ref a11), (12, .ref a12), (13, .ref a13), (14, .ref a14)]) dL_rings_408 (Nat.le_of_ble_eq_true rfl) rfl ?_
    refine z_aload 14 dL_rings_410 rfl ?_
    refine z_bipush (v := 12) dL_rings_412 rfl ?_
    refine z_iload_n 4 dL_rings_414 rfl rfl ?_
    refine z_iload_n 4 dL_rings_415 rfl rfl ?_
    refine z_bipush (v := 96) dL_rings_416 rfl ?_
    refine z_iand dL_rings_418 ?_
    refine z_if_ne 428 dL_rings_419 (by decide) (fun c249 => ?_) (fun c249 => ?_)
    · have h := h.1 c249
      refine z_bipush (v := 100) dL_rings_428 rfl ?_
      refine z_sub [1, 14, 0] rfl ?_
      refine w_L_rings_J430 a0 a14 (gA S a14 12) 100 l3 12 a14 S C h
    · have h := h.2 c249
      refine z_sipush (v := 1001) dL_rings_422 rfl ?_
      refine z_goto 430 dL_rings_425 (by decide) ?_
      refine z_sub [1, 14, 0] rfl ?_
      refine w_L_rings_J430 a0 a14 (gA S a14 12) 1001 l3 12 a14 S C h
set_option maxRecDepth 20000 in
set_option maxHeartbeats 4000000 in
theorem w_L_rings_L338 {E : zE} {K360 : Nat → Nat → Nat → Nat → Nat → Nat → Nat → Nat → Nat → Int32 → Int32 → Int32 → zS → zS → Prop} {Q : Int32 → zS → zS → Prop} {X : String → zS → Prop} (hK360 : ∀ (a0 : Nat) (a4 : Nat) (a5 : Nat) (a6 : Nat) (a7 : Nat) (a8 : Nat) (a12 : Nat) (a13 : Nat) (a14 : Nat) (l15 : Int32) (l17 : Int32) (l18 : Int32) (S C : zS), K360 a0 a4 a5 a6 a7 a8 a12 a13 a14 l15 l17 l18 S C → zJ E (RL, cL_rings, 27, (some .boolean), false, [], zTr) ({ frames := 10, cells := 25, slots := 150, locals := 224 } : Room) (zY E Q) (fun _ _ _ => False) 360 [(0, .ref a0), (4, .ref a4), (5, .ref a5), (6, .ref a6), (7, .ref a7), (8, .ref a8), (12, .ref a12), (13, .ref a13), (14, .ref a14), (15, .int l15), (17, .int l17), (18, .int l18)] [] (zPl E C) S 20 120) : ∀ (m338 : Nat) (a0 : Nat) (a4 : Nat) (a5 : Nat) (a6 : Nat) (a7 : Nat) (a8 : Nat) (a12 : Nat) (a13 : Nat) (a14 : Nat) (l15 : Int32) (l17 : Int32) (l18 : Int32) (l20 : Int32) (S C : zS), p_L_rings_L338 E K360 Q X m338 a0 a4 a5 a6 a7 a8 a12 a13 a14 l15 l17 l18 l20 S C → zJ E (RL, cL_rings, 27, (some .boolean), false, [], zTr) ({ frames := 10, cells := 25, slots := 150, locals := 224 } : Room) (zY E Q) (fun _ _ _ => False) 338 [(0, .ref a0), (4, .ref a4), (5, .ref a5), (6, .ref a6), (7, .ref a7), (8, .ref a8), (12, .ref a12), (13, .ref a13), (14, .ref a14), (15, .int l15), (17, .int l17), (18, .int l18), (20, .int l20)] [] (zPl E C) S 20 120 := by
  intro m338
  induction m338 with
  | zero => intro a0 a4 a5 a6 a7 a8 a12 a13 a14 l15 l17 l18 l20 S C h; unfold p_L_rings_L338 at h; exact h.elim
  | succ m338 ih =>
    intro a0 a4 a5 a6 a7 a8 a12 a13 a14 l15 l17 l18 l20 S C h
    unfold p_L_rings_L338 at h
    refine z_iload 12 dL_rings_338 rfl ?_
    refine z_bipush (v := 6) dL_rings_340 rfl ?_
    refine z_icmp_ge 360 dL_rings_342 (by decide) (fun c339 => ?_) (fun c339 => ?_)
    · have h := h.1 c339
      refine z_sub [0, 1, 2, 3, 4, 5, 6, 7, 8, 9, 10, 11] rfl ?_
      exact hK360 a0 a4 a5 a6 a7 a8 a12 a13 a14 l15 l17 l18 S C h
    · have h := h.2 c339
      refine z_aload 8 dL_rings_345 rfl ?_
      refine z_bipush (v := 16) dL_rings_347 rfl ?_
      refine z_iload 12 dL_rings_349 rfl ?_
      refine z_iadd dL_rings_351 ?_
      refine z_iconst (v := 0) dL_rings_352 rfl ?_
      obtain ⟨hf333, h⟩ := h
      obtain ⟨j334, hj335, h⟩ := h
      have h := h _ rfl
      refine z_iast (j := j334) hf333.1 hf333.2 hj335.1 hj335.2.1 hj335.2.2 dL_rings_353 ?_
      obtain ⟨S336, hS337⟩ : ∃ z, z = sA S a14 j334 0 := ⟨_, rfl⟩
      rw [← hS337] at h ⊢
      have hf333 : a14 ∈ gL S336 ∧ gK S336 a14 = 12 := by rw [hS337]; exact hf333
      refine z_iinc (v := (l20 + 1)) (lv' := [(20, .int (l20 + 1)), (0, .ref a0), (4, .ref a4), (5, .ref a5), (6, .ref a6), (7, .ref a7), (8, .ref a8), (12, .ref a12), (13, .ref a13), (14, .ref a14), (15, .int l15), (17, .int l17), (18, .int l18)]) 12 dL_rings_354 rfl rfl (Nat.le_of_ble_eq_true rfl) rfl ?_
      refine z_goto 338 dL_rings_357 (by decide) ?_
      refine z_sub [1, 2, 3, 4, 5, 6, 7, 8, 9, 10, 11, 12, 0] rfl ?_
      exact ih a0 a4 a5 a6 a7 a8 a12 a13 a14 l15 l17 l18 (l20 + 1) S336 C h
set_option maxRecDepth 20000 in
set_option maxHeartbeats 4000000 in
theorem w_L_rings_J138 {E : zE}  {Q : Int32 → zS → zS → Prop} {X : String → zS → Prop}  (a0 : Nat) (a4 : Nat) (a5 : Nat) (a6 : Nat) (a7 : Nat) (a8 : Nat) (a9 : Nat) (a12 : Nat) (a13 : Nat) (a14 : Nat) (l15 : Int32) (l16 : Int32) (l17 : Int32) (l100 : Int32) (S C : zS) (h : p_L_rings_J138 E  Q X a0 a4 a5 a6 a7 a8 a9 a12 a13 a14 l15 l16 l17 l100 S C) : zJ E (RL, cL_rings, 27, (some .boolean), false, [], zTr) ({ frames := 10, cells := 25, slots := 150, locals := 224 } : Room) (zY E Q) (fun _ _ _ => False) 138 [(0, .ref a0), (4, .ref a4), (5, .ref a5), (6, .ref a6), (7, .ref a7), (8, .ref a8), (9, .ref a9), (12, .ref a12), (13, .ref a13), (14, .ref a14), (15, .int l15), (16, .int l16), (17, .int l17)] [.int l100] (zPl E C) S 0 0 := by
  unfold p_L_rings_J138 at h
  refine z_istore (lv' := [(18, .int l100), (0, .ref a0), (4, .ref a4), (5, .ref a5), (6, .ref a6), (7, .ref a7), (8, .ref a8), (9, .ref a9), (12, .ref a12), (13, .ref a13), (14, .ref a14), (15, .int l15), (16, .int l16), (17, .int l17)]) dL_rings_138 (Nat.le_of_ble_eq_true rfl) rfl ?_
  refine z_aload_n 1 dL_rings_140 rfl rfl ?_
  refine z_iload 11 dL_rings_141 rfl ?_
  refine z_iconst (v := 1) dL_rings_143 rfl ?_
  refine z_iload 12 dL_rings_144 rfl ?_
  refine z_ishl dL_rings_146 ?_
  refine z_iload 0 dL_rings_147 rfl ?_
  refine zz_fl ?_
  refine z_callW (st := []) (w_L_ring h) zw_949 zw_947 zw_948 zw_29 zy_L_ring rfl rfl ⟨Nat.le_of_ble_eq_true rfl, Nat.le_of_ble_eq_true rfl⟩ ⟨(Nat.le_of_ble_eq_true rfl), (Nat.le_of_ble_eq_true rfl)⟩ (Nat.le_of_ble_eq_true rfl) dL_rings_149 (fun r264 C263 h => ?_)
  refine z_widen (k' := 5) (n' := 30) (Nat.le_refl _) (Nat.le_refl _) ?_
  refine zz_fl ?_
  refine z_sipush (v := (-7200)) dL_rings_152 rfl ?_
  refine z_icmp_ne 204 dL_rings_155 (by decide) (fun c367 => ?_) (fun c367 => ?_)
  · have h := h.1 c367
    refine z_iconst (v := 0) dL_rings_204 rfl ?_
    obtain ⟨hz265, h⟩ := h
    exact z_zreturn ⟨_, _, rfl, rfl, h⟩ rfl (zbn hz265) (Nat.le_of_ble_eq_true rfl) (Nat.le_of_ble_eq_true rfl) dL_rings_205
  · have h := h.2 c367
    refine z_aload_n 1 dL_rings_158 rfl rfl ?_
    refine z_iload 11 dL_rings_159 rfl ?_
    refine z_iconst (v := (-1)) dL_rings_161 rfl ?_
    refine z_iload 0 dL_rings_162 rfl ?_
    refine zz_fl ?_
    refine z_callW (st := []) (w_L_ring h) zw_949 zw_947 zw_948 zw_29 zy_L_ring rfl rfl ⟨Nat.le_of_ble_eq_true rfl, Nat.le_of_ble_eq_true rfl⟩ ⟨(Nat.le_of_ble_eq_true rfl), (Nat.le_of_ble_eq_true rfl)⟩ (Nat.le_of_ble_eq_true rfl) dL_rings_164 (fun r267 C266 h => ?_)
    refine z_widen (k' := 10) (n' := 60) (Nat.le_refl _) (Nat.le_refl _) ?_
    refine zz_fl ?_
    refine z_sipush (v := (-7200)) dL_rings_167 rfl ?_
    refine z_icmp_ne 204 dL_rings_170 (by decide) (fun c366 => ?_) (fun c366 => ?_)
    · have h := h.1 c366
      refine z_iconst (v := 0) dL_rings_204 rfl ?_
      obtain ⟨hz268, h⟩ := h
      exact z_zreturn ⟨_, _, rfl, rfl, h⟩ rfl (zbn hz268) (Nat.le_of_ble_eq_true rfl) (Nat.le_of_ble_eq_true rfl) dL_rings_205
    · have h := h.2 c366
      refine z_aload_n 1 dL_rings_173 rfl rfl ?_
      refine z_iload 11 dL_rings_174 rfl ?_
      refine z_iconst (v := 0) dL_rings_176 rfl ?_
      refine z_bipush (v := 99) dL_rings_177 rfl ?_
      refine zz_fl ?_
      refine z_callW (st := []) (w_L_ring h) zw_949 zw_947 zw_948 zw_29 zy_L_ring rfl rfl ⟨Nat.le_of_ble_eq_true rfl, Nat.le_of_ble_eq_true rfl⟩ ⟨(Nat.le_of_ble_eq_true rfl), (Nat.le_of_ble_eq_true rfl)⟩ (Nat.le_of_ble_eq_true rfl) dL_rings_179 (fun r270 C269 h => ?_)
      refine z_widen (k' := 15) (n' := 90) (Nat.le_refl _) (Nat.le_refl _) ?_
      refine zz_fl ?_
      refine z_sipush (v := (-7200)) dL_rings_182 rfl ?_
      refine z_icmp_ne 204 dL_rings_185 (by decide) (fun c365 => ?_) (fun c365 => ?_)
      · have h := h.1 c365
        refine z_iconst (v := 0) dL_rings_204 rfl ?_
        obtain ⟨hz271, h⟩ := h
        exact z_zreturn ⟨_, _, rfl, rfl, h⟩ rfl (zbn hz271) (Nat.le_of_ble_eq_true rfl) (Nat.le_of_ble_eq_true rfl) dL_rings_205
      · have h := h.2 c365
        refine z_aload_n 1 dL_rings_188 rfl rfl ?_
        refine z_iload 11 dL_rings_189 rfl ?_
        refine z_iconst (v := 0) dL_rings_191 rfl ?_
        refine z_sipush (v := 1001) dL_rings_192 rfl ?_
        refine zz_fl ?_
        refine z_callW (st := []) (w_L_ring h) zw_949 zw_947 zw_948 zw_29 zy_L_ring rfl rfl ⟨Nat.le_of_ble_eq_true rfl, Nat.le_of_ble_eq_true rfl⟩ ⟨(Nat.le_of_ble_eq_true rfl), (Nat.le_of_ble_eq_true rfl)⟩ (Nat.le_of_ble_eq_true rfl) dL_rings_195 (fun r273 C272 h => ?_)
        refine z_widen (k' := 20) (n' := 120) (Nat.le_refl _) (Nat.le_refl _) ?_
        refine zz_fl ?_
        refine z_sipush (v := (-7200)) dL_rings_198 rfl ?_
        refine z_icmp_eq 206 dL_rings_201 (by decide) (fun c364 => ?_) (fun c364 => ?_)
        · have h := h.1 c364
          refine z_aload 2 dL_rings_206 rfl ?_
          refine z_aload 3 dL_rings_208 rfl ?_
          refine z_aload 4 dL_rings_210 rfl ?_
          refine z_aload 7 dL_rings_212 rfl ?_
          refine z_aload 10 dL_rings_214 rfl ?_
          refine z_aload 10 dL_rings_216 rfl ?_
          refine z_iconst (v := 2) dL_rings_218 rfl ?_
          obtain ⟨hf274, h⟩ := h
          obtain ⟨hj276, h⟩ := h
          refine z_iald (j := 2) hf274.1 hf274.2 rfl hj276.1 hj276.2 dL_rings_219 ?_
          refine z_callSI (st := []) (w_L_band h) zw_943 zw_941 zw_942 zw_29 zy_L_band rfl rfl ⟨Nat.le_of_ble_eq_true rfl, Nat.le_of_ble_eq_true rfl⟩ ⟨(Nat.le_of_ble_eq_true rfl), (Nat.le_of_ble_eq_true rfl)⟩ (Nat.le_of_ble_eq_true rfl) dL_rings_220 (fun _ _ hx => hx.elim) (fun r278 S277 h => ?_)
          refine z_widen (k' := 20) (n' := 120) (Nat.le_refl _) (Nat.le_refl _) ?_
          refine z_istore (lv' := [(19, .int r278), (18, .int l100), (0, .ref a0), (4, .ref a4), (5, .ref a5), (6, .ref a6), (7, .ref a7), (8, .ref a8), (9, .ref a9), (12, .ref a12), (13, .ref a13), (14, .ref a14), (15, .int l15), (16, .int l16), (17, .int l17)]) dL_rings_223 (Nat.le_of_ble_eq_true rfl) rfl ?_
          refine z_aload 5 dL_rings_225 rfl ?_
          refine z_aload 11 dL_rings_227 rfl ?_
          refine z_iconst (v := 2) dL_rings_229 rfl ?_
          obtain ⟨hf279, h⟩ := h
          obtain ⟨hj281, h⟩ := h
          refine z_iald (j := 2) hf279.1 hf279.2 rfl hj281.1 hj281.2 dL_rings_230 ?_
          refine z_iload 12 dL_rings_231 rfl ?_
          refine z_callSI (st := []) (w_L_planAt h) zw_911 zw_909 zw_910 zw_29 zy_L_planAt rfl rfl ⟨Nat.le_of_ble_eq_true rfl, Nat.le_of_ble_eq_true rfl⟩ ⟨(Nat.le_of_ble_eq_true rfl), (Nat.le_of_ble_eq_true rfl)⟩ (Nat.le_of_ble_eq_true rfl) dL_rings_233 (fun _ _ hx => hx.elim) (fun r283 S282 h => ?_)
          refine z_widen (k' := 20) (n' := 120) (Nat.le_refl _) (Nat.le_refl _) ?_
          refine z_if_lt 266 dL_rings_236 (by decide) (fun c362 => ?_) (fun c362 => ?_)
          · have h := h.1 c362
            refine z_aload_n 2 dL_rings_266 rfl rfl ?_
            refine z_iload 12 dL_rings_267 rfl ?_
            refine z_iload 14 dL_rings_269 rfl ?_
            refine z_iload 1 dL_rings_271 rfl ?_
            refine zz_fl ?_
            refine z_callW (st := []) (w_L_ring h) zw_949 zw_947 zw_948 zw_29 zy_L_ring rfl rfl ⟨Nat.le_of_ble_eq_true rfl, Nat.le_of_ble_eq_true rfl⟩ ⟨(Nat.le_of_ble_eq_true rfl), (Nat.le_of_ble_eq_true rfl)⟩ (Nat.le_of_ble_eq_true rfl) dL_rings_273 (fun r285 C284 h => ?_)
            refine z_widen (k' := 25) (n' := 150) (Nat.le_refl _) (Nat.le_refl _) ?_
            refine zz_fl ?_
            refine z_sipush (v := (-7300)) dL_rings_276 rfl ?_
            refine z_icmp_ne 286 dL_rings_279 (by decide) (fun c288 => ?_) (fun c288 => ?_)
            · have h := h.1 c288
              refine z_iconst (v := 0) dL_rings_286 rfl ?_
              obtain ⟨hz286, h⟩ := h
              exact z_zreturn ⟨_, _, rfl, rfl, h⟩ rfl (zbn hz286) (Nat.le_of_ble_eq_true rfl) (Nat.le_of_ble_eq_true rfl) dL_rings_287
            · have h := h.2 c288
              refine z_iconst (v := 1) dL_rings_282 rfl ?_
              refine z_goto 287 dL_rings_283 (by decide) ?_
              obtain ⟨hz287, h⟩ := h
              exact z_zreturn ⟨_, _, rfl, rfl, h⟩ rfl (zbn hz287) (Nat.le_of_ble_eq_true rfl) (Nat.le_of_ble_eq_true rfl) dL_rings_287
          · have h := h.2 c362
            refine z_aload 11 dL_rings_239 rfl ?_
            refine z_bipush (v := 15) dL_rings_241 rfl ?_
            obtain ⟨hf289, h⟩ := h
            obtain ⟨hj291, h⟩ := h
            refine z_iald (j := 15) hf289.1 hf289.2 rfl hj291.1 hj291.2 dL_rings_243 ?_
            refine z_iload 12 dL_rings_244 rfl ?_
            refine z_iconst (v := 1) dL_rings_246 rfl ?_
            refine z_iadd dL_rings_247 ?_
            refine z_icmp_eq 266 dL_rings_248 (by decide) (fun c361 => ?_) (fun c361 => ?_)
            · have h := h.1 c361
              refine z_aload_n 2 dL_rings_266 rfl rfl ?_
              refine z_iload 12 dL_rings_267 rfl ?_
              refine z_iload 14 dL_rings_269 rfl ?_
              refine z_iload 1 dL_rings_271 rfl ?_
              refine zz_fl ?_
              refine z_callW (st := []) (w_L_ring h) zw_949 zw_947 zw_948 zw_29 zy_L_ring rfl rfl ⟨Nat.le_of_ble_eq_true rfl, Nat.le_of_ble_eq_true rfl⟩ ⟨(Nat.le_of_ble_eq_true rfl), (Nat.le_of_ble_eq_true rfl)⟩ (Nat.le_of_ble_eq_true rfl) dL_rings_273 (fun r293 C292 h => ?_)
              refine z_widen (k' := 25) (n' := 150) (Nat.le_refl _) (Nat.le_refl _) ?_
              refine zz_fl ?_
              refine z_sipush (v := (-7300)) dL_rings_276 rfl ?_
              refine z_icmp_ne 286 dL_rings_279 (by decide) (fun c296 => ?_) (fun c296 => ?_)
              · have h := h.1 c296
                refine z_iconst (v := 0) dL_rings_286 rfl ?_
                obtain ⟨hz294, h⟩ := h
                exact z_zreturn ⟨_, _, rfl, rfl, h⟩ rfl (zbn hz294) (Nat.le_of_ble_eq_true rfl) (Nat.le_of_ble_eq_true rfl) dL_rings_287
              · have h := h.2 c296
                refine z_iconst (v := 1) dL_rings_282 rfl ?_
                refine z_goto 287 dL_rings_283 (by decide) ?_
                obtain ⟨hz295, h⟩ := h
                exact z_zreturn ⟨_, _, rfl, rfl, h⟩ rfl (zbn hz295) (Nat.le_of_ble_eq_true rfl) (Nat.le_of_ble_eq_true rfl) dL_rings_287
            · have h := h.2 c361
              refine z_iload 0 dL_rings_251 rfl ?_
              refine z_if_lt 266 dL_rings_253 (by decide) (fun c360 => ?_) (fun c360 => ?_)
              · have h := h.1 c360
                refine z_aload_n 2 dL_rings_266 rfl rfl ?_
                refine z_iload 12 dL_rings_267 rfl ?_
                refine z_iload 14 dL_rings_269 rfl ?_
                refine z_iload 1 dL_rings_271 rfl ?_
                refine zz_fl ?_
                refine z_callW (st := []) (w_L_ring h) zw_949 zw_947 zw_948 zw_29 zy_L_ring rfl rfl ⟨Nat.le_of_ble_eq_true rfl, Nat.le_of_ble_eq_true rfl⟩ ⟨(Nat.le_of_ble_eq_true rfl), (Nat.le_of_ble_eq_true rfl)⟩ (Nat.le_of_ble_eq_true rfl) dL_rings_273 (fun r298 C297 h => ?_)
                refine z_widen (k' := 25) (n' := 150) (Nat.le_refl _) (Nat.le_refl _) ?_
                refine zz_fl ?_
                refine z_sipush (v := (-7300)) dL_rings_276 rfl ?_
                refine z_icmp_ne 286 dL_rings_279 (by decide) (fun c301 => ?_) (fun c301 => ?_)
                · have h := h.1 c301
                  refine z_iconst (v := 0) dL_rings_286 rfl ?_
                  obtain ⟨hz299, h⟩ := h
                  exact z_zreturn ⟨_, _, rfl, rfl, h⟩ rfl (zbn hz299) (Nat.le_of_ble_eq_true rfl) (Nat.le_of_ble_eq_true rfl) dL_rings_287
                · have h := h.2 c301
                  refine z_iconst (v := 1) dL_rings_282 rfl ?_
                  refine z_goto 287 dL_rings_283 (by decide) ?_
                  obtain ⟨hz300, h⟩ := h
                  exact z_zreturn ⟨_, _, rfl, rfl, h⟩ rfl (zbn hz300) (Nat.le_of_ble_eq_true rfl) (Nat.le_of_ble_eq_true rfl) dL_rings_287
              · have h := h.2 c360
                refine z_aload 8 dL_rings_256 rfl ?_
                refine z_iload 0 dL_rings_258 rfl ?_
                obtain ⟨hf302, h⟩ := h
                obtain ⟨j303, hj304, h⟩ := h
                refine z_iald (j := j303) hf302.1 hf302.2 hj304.1 hj304.2.1 hj304.2.2 dL_rings_260 ?_
                refine z_iload 13 dL_rings_261 rfl ?_
                refine z_icmp_ge 288 dL_rings_263 (by decide) (fun c359 => ?_) (fun c359 => ?_)
                · have h := h.1 c359
                  refine z_aload 11 dL_rings_288 rfl ?_
                  refine z_iconst (v := 5) dL_rings_290 rfl ?_
                  refine z_iload 0 dL_rings_291 rfl ?_
                  refine z_iconst (v := 1) dL_rings_293 rfl ?_
                  refine z_iadd dL_rings_294 ?_
                  obtain ⟨hj306, h⟩ := h
                  have h := h _ rfl
                  refine z_iast (j := 5) hf289.1 hf289.2 rfl hj306.1 hj306.2 dL_rings_295 ?_
                  obtain ⟨S307, hS308⟩ : ∃ z, z = sA S282 a14 5 (r278 + 1) := ⟨_, rfl⟩
                  rw [← hS308] at h ⊢
                  have hf289 : a14 ∈ gL S307 ∧ gK S307 a14 = 12 := by rw [hS308]; exact hf289
                  have hf302 : a9 ∈ gL S307 ∧ gK S307 a9 = 12 := by rw [hS308]; exact hf302
                  refine z_aload 11 dL_rings_296 rfl ?_
                  refine z_bipush (v := 6) dL_rings_298 rfl ?_
                  refine z_iconst (v := 1) dL_rings_300 rfl ?_
                  obtain ⟨hj310, h⟩ := h
                  have h := h _ rfl
                  refine z_iast (j := 6) hf289.1 hf289.2 rfl hj310.1 hj310.2 dL_rings_301 ?_
                  obtain ⟨S311, hS312⟩ : ∃ z, z = sA S307 a14 6 1 := ⟨_, rfl⟩
                  rw [← hS312] at h ⊢
                  have hf289 : a14 ∈ gL S311 ∧ gK S311 a14 = 12 := by rw [hS312]; exact hf289
                  have hf302 : a9 ∈ gL S311 ∧ gK S311 a9 = 12 := by rw [hS312]; exact hf302
                  refine z_aload 11 dL_rings_302 rfl ?_
                  refine z_bipush (v := 7) dL_rings_304 rfl ?_
                  refine z_iload 12 dL_rings_306 rfl ?_
                  obtain ⟨hj314, h⟩ := h
                  have h := h _ rfl
                  refine z_iast (j := 7) hf289.1 hf289.2 rfl hj314.1 hj314.2 dL_rings_308 ?_
                  obtain ⟨S315, hS316⟩ : ∃ z, z = sA S311 a14 7 l15 := ⟨_, rfl⟩
                  rw [← hS316] at h ⊢
                  have hf289 : a14 ∈ gL S315 ∧ gK S315 a14 = 12 := by rw [hS316]; exact hf289
                  have hf302 : a9 ∈ gL S315 ∧ gK S315 a9 = 12 := by rw [hS316]; exact hf302
                  refine z_aload 11 dL_rings_309 rfl ?_
                  refine z_bipush (v := 8) dL_rings_311 rfl ?_
                  refine z_iload 14 dL_rings_313 rfl ?_
                  obtain ⟨hj318, h⟩ := h
                  have h := h _ rfl
                  refine z_iast (j := 8) hf289.1 hf289.2 rfl hj318.1 hj318.2 dL_rings_315 ?_
                  obtain ⟨S319, hS320⟩ : ∃ z, z = sA S315 a14 8 l17 := ⟨_, rfl⟩
                  rw [← hS320] at h ⊢
                  have hf289 : a14 ∈ gL S319 ∧ gK S319 a14 = 12 := by rw [hS320]; exact hf289
                  have hf302 : a9 ∈ gL S319 ∧ gK S319 a9 = 12 := by rw [hS320]; exact hf302
                  refine z_aload 11 dL_rings_316 rfl ?_
                  refine z_bipush (v := 9) dL_rings_318 rfl ?_
                  refine z_iload 1 dL_rings_320 rfl ?_
                  obtain ⟨hj322, h⟩ := h
                  have h := h _ rfl
                  refine z_iast (j := 9) hf289.1 hf289.2 rfl hj322.1 hj322.2 dL_rings_322 ?_
                  obtain ⟨S323, hS324⟩ : ∃ z, z = sA S319 a14 9 l100 := ⟨_, rfl⟩
                  rw [← hS324] at h ⊢
                  have hf289 : a14 ∈ gL S323 ∧ gK S323 a14 = 12 := by rw [hS324]; exact hf289
                  have hf302 : a9 ∈ gL S323 ∧ gK S323 a9 = 12 := by rw [hS324]; exact hf302
                  refine z_aload 11 dL_rings_323 rfl ?_
                  refine z_bipush (v := 10) dL_rings_325 rfl ?_
                  refine z_iconst (v := 0) dL_rings_327 rfl ?_
                  obtain ⟨hj326, h⟩ := h
                  have h := h _ rfl
                  refine z_iast (j := 10) hf289.1 hf289.2 rfl hj326.1 hj326.2 dL_rings_328 ?_
                  obtain ⟨S327, hS328⟩ : ∃ z, z = sA S323 a14 10 0 := ⟨_, rfl⟩
                  rw [← hS328] at h ⊢
                  have hf289 : a14 ∈ gL S327 ∧ gK S327 a14 = 12 := by rw [hS328]; exact hf289
                  have hf302 : a9 ∈ gL S327 ∧ gK S327 a9 = 12 := by rw [hS328]; exact hf302
                  refine z_aload 11 dL_rings_329 rfl ?_
                  refine z_bipush (v := 11) dL_rings_331 rfl ?_
                  refine z_iconst (v := 0) dL_rings_333 rfl ?_
                  obtain ⟨hj330, h⟩ := h
                  have h := h _ rfl
                  refine z_iast (j := 11) hf289.1 hf289.2 rfl hj330.1 hj330.2 dL_rings_334 ?_
                  obtain ⟨S331, hS332⟩ : ∃ z, z = sA S327 a14 11 0 := ⟨_, rfl⟩
                  rw [← hS332] at h ⊢
                  have hf289 : a14 ∈ gL S331 ∧ gK S331 a14 = 12 := by rw [hS332]; exact hf289
                  have hf302 : a9 ∈ gL S331 ∧ gK S331 a9 = 12 := by rw [hS332]; exact hf302
                  refine z_iconst (v := 0) dL_rings_335 rfl ?_
                  refine z_istore (lv' := [(20, .int 0), (19, .int r278), (18, .int l100), (0, .ref a0), (4, .ref a4), (5, .ref a5), (6, .ref a6), (7, .ref a7), (8, .ref a8), (9, .ref a9), (12, .ref a12), (13, .ref a13), (14, .ref a14), (15, .int l15), (16, .int l16), (17, .int l17)]) dL_rings_336 (Nat.le_of_ble_eq_true rfl) rfl ?_
                  obtain ⟨m338, h⟩ := h
                  refine z_sub [3, 4, 5, 6, 7, 8, 10, 11, 12, 13, 15, 2, 0] rfl ?_
                  refine w_L_rings_L338 (fun a0 a4 a5 a6 a7 a8 a12 a13 a14 l15 l17 l18 S C h => ?_) m338 a0 a4 a5 a6 a7 a8 a12 a13 a14 l15 l17 l100 0 S331 C272 h
                  refine z_aload_n 0 dL_rings_360 rfl rfl ?_
                  refine z_iload 9 dL_rings_361 rfl ?_
                  refine z_iload 10 dL_rings_363 rfl ?_
                  refine z_iload 11 dL_rings_365 rfl ?_
                  refine zz_fl ?_
                  refine z_callW (st := []) (w_L_ring h) zw_949 zw_947 zw_948 zw_29 zy_L_ring rfl rfl ⟨Nat.le_of_ble_eq_true rfl, Nat.le_of_ble_eq_true rfl⟩ ⟨(Nat.le_of_ble_eq_true rfl), (Nat.le_of_ble_eq_true rfl)⟩ (Nat.le_of_ble_eq_true rfl) dL_rings_367 (fun r341 C340 h => ?_)
                  refine z_widen (k' := 25) (n' := 150) (Nat.le_refl _) (Nat.le_refl _) ?_
                  refine zz_fl ?_
                  refine z_aload 1 dL_rings_370 rfl ?_
                  refine z_aload 2 dL_rings_372 rfl ?_
                  refine z_aload 3 dL_rings_374 rfl ?_
                  refine z_aload 4 dL_rings_376 rfl ?_
                  refine z_aload 5 dL_rings_378 rfl ?_
                  refine z_aload 6 dL_rings_380 rfl ?_
                  refine z_aload 7 dL_rings_382 rfl ?_
                  refine z_aload 8 dL_rings_384 rfl ?_
                  refine z_callSI (st := [.int r341]) (w_L_goOn h) zw_1068 zw_1066 zw_1067 zw_29 zy_L_goOn rfl rfl ⟨Nat.le_of_ble_eq_true rfl, Nat.le_of_ble_eq_true rfl⟩ ⟨(Nat.le_of_ble_eq_true rfl), (Nat.le_of_ble_eq_true rfl)⟩ (Nat.le_of_ble_eq_true rfl) dL_rings_386 (fun _ _ hx => hx.elim) (fun r343 S342 h => ?_)
                  refine z_widen (k' := 25) (n' := 150) (Nat.le_refl _) (Nat.le_refl _) ?_
                  refine z_icmp_ne 396 dL_rings_389 (by decide) (fun c346 => ?_) (fun c346 => ?_)
                  · have h := h.1 c346
                    refine z_iconst (v := 0) dL_rings_396 rfl ?_
                    obtain ⟨hz344, h⟩ := h
                    exact z_zreturn ⟨_, _, rfl, rfl, h⟩ rfl (zbn hz344) (Nat.le_of_ble_eq_true rfl) (Nat.le_of_ble_eq_true rfl) dL_rings_397
                  · have h := h.2 c346
                    refine z_iconst (v := 1) dL_rings_392 rfl ?_
                    refine z_goto 397 dL_rings_393 (by decide) ?_
                    obtain ⟨hz345, h⟩ := h
                    exact z_zreturn ⟨_, _, rfl, rfl, h⟩ rfl (zbn hz345) (Nat.le_of_ble_eq_true rfl) (Nat.le_of_ble_eq_true rfl) dL_rings_397
                · have h := h.2 c359
                  refine z_aload_n 2 dL_rings_266 rfl rfl ?_
                  refine z_iload 12 dL_rings_267 rfl ?_
                  refine z_iload 14 dL_rings_269 rfl ?_
                  refine z_iload 1 dL_rings_271 rfl ?_
                  refine zz_fl ?_
                  refine z_callW (st := []) (w_L_ring h) zw_949 zw_947 zw_948 zw_29 zy_L_ring rfl rfl ⟨Nat.le_of_ble_eq_true rfl, Nat.le_of_ble_eq_true rfl⟩ ⟨(Nat.le_of_ble_eq_true rfl), (Nat.le_of_ble_eq_true rfl)⟩ (Nat.le_of_ble_eq_true rfl) dL_rings_273 (fun r355 C354 h => ?_)
                  refine z_widen (k' := 25) (n' := 150) (Nat.le_refl _) (Nat.le_refl _) ?_
                  refine zz_fl ?_
                  refine z_sipush (v := (-7300)) dL_rings_276 rfl ?_
                  refine z_icmp_ne 286 dL_rings_279 (by decide) (fun c358 => ?_) (fun c358 => ?_)
                  · have h := h.1 c358
                    refine z_iconst (v := 0) dL_rings_286 rfl ?_
                    obtain ⟨hz356, h⟩ := h
                    exact z_zreturn ⟨_, _, rfl, rfl, h⟩ rfl (zbn hz356) (Nat.le_of_ble_eq_true rfl) (Nat.le_of_ble_eq_true rfl) dL_rings_287
                  · have h := h.2 c358
                    refine z_iconst (v := 1) dL_rings_282 rfl ?_
                    refine z_goto 287 dL_rings_283 (by decide) ?_
                    obtain ⟨hz357, h⟩ := h
                    exact z_zreturn ⟨_, _, rfl, rfl, h⟩ rfl (zbn hz357) (Nat.le_of_ble_eq_true rfl) (Nat.le_of_ble_eq_true rfl) dL_rings_287
        · have h := h.2 c364
          refine z_iconst (v := 0) dL_rings_204 rfl ?_
          obtain ⟨hz363, h⟩ := h
          exact z_zreturn ⟨_, _, rfl, rfl, h⟩ rfl (zbn hz363) (Nat.le_of_ble_eq_true rfl) (Nat.le_of_ble_eq_true rfl) dL_rings_205
set_option maxRecDepth 20000 in
set_option maxHeartbeats 4000000 in
theorem w_L_rings_J110 {E : zE}  {Q : Int32 → zS → zS → Prop} {X : String → zS → Prop}  (a0 : Nat) (l2 : Int32) (a4 : Nat) (a5 : Nat) (a6 : Nat) (a7 : Nat) (a8 : Nat) (a9 : Nat) (a12 : Nat) (a13 : Nat) (a14 : Nat) (l15 : Int32) (l16 : Int32) (l100 : Int32) (S C : zS) (h : p_L_rings_J110 E  Q X a0 l2 a4 a5 a6 a7 a8 a9 a12 a13 a14 l15 l16 l100 S C) : zJ E (RL, cL_rings, 27, (some .boolean), false, [], zTr) ({ frames := 10, cells := 25, slots := 150, locals := 224 } : Room) (zY E Q) (fun _ _ _ => False) 110 [(0, .ref a0), (2, .int l2), (4, .ref a4), (5, .ref a5), (6, .ref a6), (7, .ref a7), (8, .ref a8), (9, .ref a9), (12, .ref a12), (13, .ref a13), (14, .ref a14), (15, .int l15), (16, .int l16)] [.int l100] (zPl E C) S 0 0 := by
  unfold p_L_rings_J110 at h
  refine z_istore (lv' := [(17, .int l100), (0, .ref a0), (2, .int l2), (4, .ref a4), (5, .ref a5), (6, .ref a6), (7, .ref a7), (8, .ref a8), (9, .ref a9), (12, .ref a12), (13, .ref a13), (14, .ref a14), (15, .int l15), (16, .int l16)]) dL_rings_110 (Nat.le_of_ble_eq_true rfl) rfl ?_
  refine z_iload_n 2 dL_rings_112 rfl rfl ?_
  refine z_bipush (v := 96) dL_rings_113 rfl ?_
  refine z_iand dL_rings_115 ?_
  refine z_if_ne 135 dL_rings_116 (by decide) (fun c370 => ?_) (fun c370 => ?_)
  · have h := h.1 c370
    refine z_sipush (v := 200) dL_rings_135 rfl ?_
    refine z_sub [1, 3, 4, 5, 6, 7, 8, 9, 10, 11, 12, 13, 0] rfl ?_
    refine w_L_rings_J138 a0 a4 a5 a6 a7 a8 a9 a12 a13 a14 l15 l16 l100 200 S C h
  · have h := h.2 c370
    refine z_bipush (v := 100) dL_rings_119 rfl ?_
    refine z_iload_n 2 dL_rings_121 rfl rfl ?_
    refine z_bipush (v := 7) dL_rings_122 rfl ?_
    refine z_ishr dL_rings_124 ?_
    refine z_sipush (v := 901) dL_rings_125 rfl ?_
    refine z_callSI (st := [.int 100]) (w_L_low h) zw_313 zw_311 zw_312 zw_29 zy_L_low rfl rfl ⟨Nat.le_of_ble_eq_true rfl, Nat.le_of_ble_eq_true rfl⟩ ⟨(Nat.le_of_ble_eq_true rfl), (Nat.le_of_ble_eq_true rfl)⟩ (Nat.le_of_ble_eq_true rfl) dL_rings_128 (fun _ _ hx => hx.elim) (fun r369 S368 h => ?_)
    refine z_widen (k' := 0) (n' := 0) (Nat.le_refl _) (Nat.le_refl _) ?_
    refine z_iadd dL_rings_131 ?_
    refine z_goto 138 dL_rings_132 (by decide) ?_
    refine z_sub [1, 3, 4, 5, 6, 7, 8, 9, 10, 11, 12, 13, 0] rfl ?_
    refine w_L_rings_J138 a0 a4 a5 a6 a7 a8 a9 a12 a13 a14 l15 l16 l100 (100 + r369) S368 C h
set_option maxRecDepth 20000 in
set_option maxHeartbeats 4000000 in
theorem w_L_rings {E : zE} {a0 : Nat} {l1 : Int32} {l2 : Int32} {l3 : Int32} {a4 : Nat} {a5 : Nat} {a6 : Nat} {a7 : Nat} {a8 : Nat} {a9 : Nat} {a10 : Nat} {a11 : Nat} {a12 : Nat} {a13 : Nat} {a14 : Nat} {S C : zS} {Q : Int32 → zS → zS → Prop} {X : String → zS → Prop} (h : p_L_rings E a0 l1 l2 l3 a4 a5 a6 a7 a8 a9 a10 a11 a12 a13 a14 S C Q X) : zMY E yL_rings cL_rings 27 (some .boolean) ({ frames := 10, cells := 25, slots := 150, locals := 224 } : Room) [.ref a0, .int l1, .int l2, .int l3, .ref a4, .ref a5, .ref a6, .ref a7, .ref a8, .ref a9, .ref a10, .ref a11, .ref a12, .ref a13, .ref a14] (zPl E C) S (zY E Q) := by
  unfold p_L_rings at h
  refine zMY_of RL (by decide) rfl (Nat.le_of_ble_eq_true rfl) ?_
  refine z_iload_n 1 dL_rings_0 rfl rfl ?_
  refine z_iconst (v := 4) dL_rings_1 rfl ?_
  refine z_icmp_ge 398 dL_rings_2 (by decide) (fun c386 => ?_) (fun c386 => ?_)
  · have h := h.1 c386
    refine z_sub [0, 1, 2, 3, 4, 5, 6, 7, 8, 10, 11, 12, 13, 14] rfl ?_
    refine w_L_rings_J398 a0 l1 l2 l3 a4 a5 a6 a7 a8 a10 a11 a12 a13 a14 S C h
  · have h := h.2 c386
    refine z_aload 14 dL_rings_5 rfl ?_
    refine z_bipush (v := 6) dL_rings_7 rfl ?_
    obtain ⟨hf251, h⟩ := h
    obtain ⟨hj253, h⟩ := h
    refine z_iald (j := 6) hf251.1 hf251.2 rfl hj253.1 hj253.2 dL_rings_9 ?_
    refine z_if_ne 398 dL_rings_10 (by decide) (fun c385 => ?_) (fun c385 => ?_)
    · have h := h.1 c385
      refine z_sub [0, 1, 2, 3, 4, 5, 6, 7, 8, 10, 11, 12, 13, 14] rfl ?_
      refine w_L_rings_J398 a0 l1 l2 l3 a4 a5 a6 a7 a8 a10 a11 a12 a13 a14 S C h
    · have h := h.2 c385
      refine z_iload_n 2 dL_rings_13 rfl rfl ?_
      refine z_aload 14 dL_rings_14 rfl ?_
      refine z_iconst (v := 1) dL_rings_16 rfl ?_
      obtain ⟨hj255, h⟩ := h
      refine z_iald (j := 1) hf251.1 hf251.2 rfl hj255.1 hj255.2 dL_rings_17 ?_
      refine z_iconst (v := 1) dL_rings_18 rfl ?_
      refine z_iadd dL_rings_19 ?_
      refine z_callSI (st := []) (w_L_low h) zw_313 zw_311 zw_312 zw_29 zy_L_low rfl rfl ⟨Nat.le_of_ble_eq_true rfl, Nat.le_of_ble_eq_true rfl⟩ ⟨(Nat.le_of_ble_eq_true rfl), (Nat.le_of_ble_eq_true rfl)⟩ (Nat.le_of_ble_eq_true rfl) dL_rings_20 (fun _ _ hx => hx.elim) (fun r257 S256 h => ?_)
      refine z_widen (k' := 0) (n' := 0) (Nat.le_refl _) (Nat.le_refl _) ?_
      refine z_istore (lv' := [(15, .int r257), (0, .ref a0), (1, .int l1), (2, .int l2), (3, .int l3), (4, .ref a4), (5, .ref a5), (6, .ref a6), (7, .ref a7), (8, .ref a8), (9, .ref a9), (10, .ref a10), (11, .ref a11), (12, .ref a12), (13, .ref a13), (14, .ref a14)]) dL_rings_23 (Nat.le_of_ble_eq_true rfl) rfl ?_
      refine z_iload 0 dL_rings_25 rfl ?_
      refine z_aload 15 dL_rings_27 rfl ?_
      refine z_iconst (v := 1) dL_rings_29 rfl ?_
      obtain ⟨hf258, h⟩ := h
      obtain ⟨hj260, h⟩ := h
      refine z_iald (j := 1) hf258.1 hf258.2 rfl hj260.1 hj260.2 dL_rings_30 ?_
      refine z_icmp_ne 64 dL_rings_31 (by decide) (fun c384 => ?_) (fun c384 => ?_)
      · have h := h.1 c384
        refine z_aload 5 dL_rings_64 rfl ?_
        refine z_aload 6 dL_rings_66 rfl ?_
        refine z_iload 0 dL_rings_68 rfl ?_
        refine z_callSI (st := []) (w_L_stageIn h) zw_800 zw_798 zw_799 zw_29 zy_L_stageIn rfl rfl ⟨Nat.le_of_ble_eq_true rfl, Nat.le_of_ble_eq_true rfl⟩ ⟨(Nat.le_of_ble_eq_true rfl), (Nat.le_of_ble_eq_true rfl)⟩ (Nat.le_of_ble_eq_true rfl) dL_rings_70 (fun _ _ hx => hx.elim) (fun r262 S261 h => ?_)
        refine z_widen (k' := 0) (n' := 0) (Nat.le_refl _) (Nat.le_refl _) ?_
        refine z_istore (lv' := [(16, .int r262), (15, .int r257), (0, .ref a0), (1, .int l1), (2, .int l2), (3, .int l3), (4, .ref a4), (5, .ref a5), (6, .ref a6), (7, .ref a7), (8, .ref a8), (9, .ref a9), (10, .ref a10), (11, .ref a11), (12, .ref a12), (13, .ref a13), (14, .ref a14)]) dL_rings_73 (Nat.le_of_ble_eq_true rfl) rfl ?_
        refine z_iload_n 5 dL_rings_75 rfl rfl ?_
        refine z_sipush (v := 768) dL_rings_76 rfl ?_
        refine z_iand dL_rings_79 ?_
        refine z_if_ne 87 dL_rings_80 (by decide) (fun c374 => ?_) (fun c374 => ?_)
        · have h := h.1 c374
          refine z_iload_n 5 dL_rings_87 rfl rfl ?_
          refine z_sipush (v := 1024) dL_rings_88 rfl ?_
          refine z_iand dL_rings_91 ?_
          refine z_if_le 109 dL_rings_92 (by decide) (fun c373 => ?_) (fun c373 => ?_)
          · have h := h.1 c373
            refine z_iconst (v := 3) dL_rings_109 rfl ?_
            refine z_sub [2, 4, 6, 7, 8, 9, 10, 11, 14, 15, 16, 1, 0] rfl ?_
            refine w_L_rings_J110 a0 l2 a4 a5 a6 a7 a8 a9 a12 a13 a14 r257 r262 3 S261 C h
          · have h := h.2 c373
            refine z_iconst (v := 1) dL_rings_95 rfl ?_
            refine z_iload_n 5 dL_rings_96 rfl rfl ?_
            refine z_bipush (v := 11) dL_rings_97 rfl ?_
            refine z_ishr dL_rings_99 ?_
            refine z_iload 0 dL_rings_100 rfl ?_
            refine z_callSI (st := [.int 1]) (w_L_low h) zw_313 zw_311 zw_312 zw_29 zy_L_low rfl rfl ⟨Nat.le_of_ble_eq_true rfl, Nat.le_of_ble_eq_true rfl⟩ ⟨(Nat.le_of_ble_eq_true rfl), (Nat.le_of_ble_eq_true rfl)⟩ (Nat.le_of_ble_eq_true rfl) dL_rings_102 (fun _ _ hx => hx.elim) (fun r372 S371 h => ?_)
            refine z_widen (k' := 0) (n' := 0) (Nat.le_refl _) (Nat.le_refl _) ?_
            refine z_ishl dL_rings_105 ?_
            refine z_goto 110 dL_rings_106 (by decide) ?_
            refine z_sub [2, 4, 6, 7, 8, 9, 10, 11, 14, 15, 16, 1, 0] rfl ?_
            refine w_L_rings_J110 a0 l2 a4 a5 a6 a7 a8 a9 a12 a13 a14 r257 r262 (1 <<< (r372 &&& 31)) S371 C h
        · have h := h.2 c374
          refine z_iconst (v := 0) dL_rings_83 rfl ?_
          refine z_goto 110 dL_rings_84 (by decide) ?_
          refine z_sub [2, 4, 6, 7, 8, 9, 10, 11, 14, 15, 16, 1, 0] rfl ?_
          refine w_L_rings_J110 a0 l2 a4 a5 a6 a7 a8 a9 a12 a13 a14 r257 r262 0 S261 C h
      · have h := h.2 c384
        refine z_aload_n 1 dL_rings_34 rfl rfl ?_
        refine z_iload 0 dL_rings_35 rfl ?_
        refine z_iconst (v := (-1)) dL_rings_37 rfl ?_
        refine z_iconst (v := 0) dL_rings_38 rfl ?_
        refine zz_fl ?_
        refine z_callW (st := []) (w_L_ring h) zw_949 zw_947 zw_948 zw_29 zy_L_ring rfl rfl ⟨Nat.le_of_ble_eq_true rfl, Nat.le_of_ble_eq_true rfl⟩ ⟨(Nat.le_of_ble_eq_true rfl), (Nat.le_of_ble_eq_true rfl)⟩ (Nat.le_of_ble_eq_true rfl) dL_rings_39 (fun r376 C375 h => ?_)
        refine z_widen (k' := 5) (n' := 30) (Nat.le_refl _) (Nat.le_refl _) ?_
        refine zz_fl ?_
        refine z_sipush (v := (-7100)) dL_rings_42 rfl ?_
        refine z_icmp_ne 62 dL_rings_45 (by decide) (fun c383 => ?_) (fun c383 => ?_)
        · have h := h.1 c383
          refine z_iconst (v := 0) dL_rings_62 rfl ?_
          obtain ⟨hz377, h⟩ := h
          exact z_zreturn ⟨_, _, rfl, rfl, h⟩ rfl (zbn hz377) (Nat.le_of_ble_eq_true rfl) (Nat.le_of_ble_eq_true rfl) dL_rings_63
        · have h := h.2 c383
          refine z_aload_n 1 dL_rings_48 rfl rfl ?_
          refine zz_fl ?_
          refine z_callW (st := []) (w_L_stand h) zw_1060 zw_1058 zw_1059 zw_29 zy_L_stand rfl rfl ⟨Nat.le_of_ble_eq_true rfl, Nat.le_of_ble_eq_true rfl⟩ ⟨(Nat.le_of_ble_eq_true rfl), (Nat.le_of_ble_eq_true rfl)⟩ (Nat.le_of_ble_eq_true rfl) dL_rings_49 (fun r379 C378 h => ?_)
          refine z_widen (k' := 6) (n' := 36) (Nat.le_refl _) (Nat.le_refl _) ?_
          refine zz_fl ?_
          refine z_sipush (v := (-7300)) dL_rings_52 rfl ?_
          refine z_icmp_ne 62 dL_rings_55 (by decide) (fun c382 => ?_) (fun c382 => ?_)
          · have h := h.1 c382
            refine z_iconst (v := 0) dL_rings_62 rfl ?_
            obtain ⟨hz380, h⟩ := h
            exact z_zreturn ⟨_, _, rfl, rfl, h⟩ rfl (zbn hz380) (Nat.le_of_ble_eq_true rfl) (Nat.le_of_ble_eq_true rfl) dL_rings_63
          · have h := h.2 c382
            refine z_iconst (v := 1) dL_rings_58 rfl ?_
            refine z_goto 63 dL_rings_59 (by decide) ?_
            obtain ⟨hz381, h⟩ := h
            exact z_zreturn ⟨_, _, rfl, rfl, h⟩ rfl (zbn hz381) (Nat.le_of_ble_eq_true rfl) (Nat.le_of_ble_eq_true rfl) dL_rings_63
