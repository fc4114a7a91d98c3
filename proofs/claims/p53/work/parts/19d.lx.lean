set_option maxRecDepth 20000 in
set_option maxHeartbeats 4000000 in
theorem w_L_isTold_L46 {E : zE} {K74 : Nat → Int32 → Int32 → Nat → Nat → Nat → Nat → Nat → Nat → Nat → Nat → Nat → Nat → Int32 → Int32 → Int32 → Int32 → zS → zS → Prop} {Q : Int32 → zS → zS → Prop} {X : String → zS → Prop} {K N : Nat} (hKC : K ≤ 339) (hNS : N ≤ 2266) (hK74 : ∀ (a0 : Nat) (l1 : Int32) (l2 : Int32) (a3 : Nat) (a4 : Nat) (a5 : Nat) (a6 : Nat) (a7 : Nat) (a8 : Nat) (a9 : Nat) (a10 : Nat) (a11 : Nat) (a12 : Nat) (l13 : Int32) (l14 : Int32) (l15 : Int32) (l17 : Int32) (S C : zS) (k n : Nat), k ≤ K → n ≤ N → K74 a0 l1 l2 a3 a4 a5 a6 a7 a8 a9 a10 a11 a12 l13 l14 l15 l17 S C → zJ E (RL, cL_isTold, 19, (some .boolean), false, [], zTr) ({ frames := 10, cells := 339, slots := 2266, locals := 173 } : Room) (zY E Q) (fun _ _ _ => False) 74 [(0, .ref a0), (1, .int l1), (2, .int l2), (3, .ref a3), (4, .ref a4), (5, .ref a5), (6, .ref a6), (7, .ref a7), (8, .ref a8), (9, .ref a9), (10, .ref a10), (11, .ref a11), (12, .ref a12), (13, .int l13), (14, .int l14), (15, .int l15), (17, .int l17)] [] (zPl E C) S k n) : ∀ (m46 k n : Nat), k ≤ K → n ≤ N → ∀ (a0 : Nat) (l1 : Int32) (l2 : Int32) (a3 : Nat) (a4 : Nat) (a5 : Nat) (a6 : Nat) (a7 : Nat) (a8 : Nat) (a9 : Nat) (a10 : Nat) (a11 : Nat) (a12 : Nat) (l13 : Int32) (l14 : Int32) (l15 : Int32) (l16 : Int32) (l17 : Int32) (S C : zS), p_L_isTold_L46 E K74 Q X m46 a0 l1 l2 a3 a4 a5 a6 a7 a8 a9 a10 a11 a12 l13 l14 l15 l16 l17 S C → zJ E (RL, cL_isTold, 19, (some .boolean), false, [], zTr) ({ frames := 10, cells := 339, slots := 2266, locals := 173 } : Room) (zY E Q) (fun _ _ _ => False) 46 [(0, .ref a0), (1, .int l1), (2, .int l2), (3, .ref a3), (4, .ref a4), (5, .ref a5), (6, .ref a6), (7, .ref a7), (8, .ref a8), (9, .ref a9), (10, .ref a10), (11, .ref a11), (12, .ref a12), (13, .int l13), (14, .int l14), (15, .int l15), (16, .int l16), (17, .int l17)] [] (zPl E C) S k n := by
  intro m46
  induction m46 with
  | zero => intro k n hk hn a0 l1 l2 a3 a4 a5 a6 a7 a8 a9 a10 a11 a12 l13 l14 l15 l16 l17 S C h; unfold p_L_isTold_L46 at h; exact h.elim
  | succ m46 ih =>
    intro k n hk hn a0 l1 l2 a3 a4 a5 a6 a7 a8 a9 a10 a11 a12 l13 l14 l15 l16 l17 S C h
    unfold p_L_isTold_L46 at h
    refine z_iload 16 dL_isTold_46 rfl ?_
    refine z_iload 14 dL_isTold_48 rfl ?_
    refine z_callSI (st := [.int l16]) (w_L_rounds h) zw_812 zw_810 zw_811 zw_29 zy_L_rounds rfl rfl ⟨Nat.le_of_ble_eq_true rfl, Nat.le_of_ble_eq_true rfl⟩ ⟨(by show k ≤ 339; omega), (by show n ≤ 2266; omega)⟩ (Nat.le_of_ble_eq_true rfl) dL_isTold_50 (fun _ _ hx => hx.elim) (fun r19 S18 h => ?_)
    refine z_widen (k' := k) (n' := n) (Nat.le_of_eq rfl) (Nat.le_of_eq rfl) ?_
    refine z_icmp_eq 74 dL_isTold_53 (by decide) (fun c25 => ?_) (fun c25 => ?_)
    · have h := h.1 c25
      refine z_sub [0, 1, 2, 3, 4, 5, 6, 7, 8, 9, 10, 11, 12, 13, 14, 15, 17] rfl ?_
      exact hK74 a0 l1 l2 a3 a4 a5 a6 a7 a8 a9 a10 a11 a12 l13 l14 l15 l17 S18 C k n (by omega) (by omega) h
    · have h := h.2 c25
      refine z_iload 16 dL_isTold_56 rfl ?_
      refine z_aload_n 3 dL_isTold_58 rfl rfl ?_
      refine z_iload 13 dL_isTold_59 rfl ?_
      obtain ⟨hf20, h⟩ := h
      obtain ⟨j21, hj22, h⟩ := h
      refine z_lald (j := j21) hf20.1 hf20.2 hj22.1 hj22.2.1 hj22.2.2 dL_isTold_61 ?_
      refine z_iconst (v := 0) dL_isTold_62 rfl ?_
      refine z_callSI (st := []) (w_L_behind h) zw_1159 zw_1157 zw_1158 zw_29 zy_L_behind rfl rfl ⟨Nat.le_of_ble_eq_true rfl, Nat.le_of_ble_eq_true rfl⟩ ⟨(by show k ≤ 339; omega), (by show n ≤ 2266; omega)⟩ (Nat.le_of_ble_eq_true rfl) dL_isTold_63 (fun _ _ hx => hx.elim) (fun r24 S23 h => ?_)
      refine z_widen (k' := k) (n' := n) (Nat.le_of_eq rfl) (Nat.le_of_eq rfl) ?_
      refine z_istore (lv' := [(16, .int r24), (0, .ref a0), (1, .int l1), (2, .int l2), (3, .ref a3), (4, .ref a4), (5, .ref a5), (6, .ref a6), (7, .ref a7), (8, .ref a8), (9, .ref a9), (10, .ref a10), (11, .ref a11), (12, .ref a12), (13, .int l13), (14, .int l14), (15, .int l15), (17, .int l17)]) dL_isTold_66 (Nat.le_of_ble_eq_true rfl) rfl ?_
      refine z_iinc (v := (l17 + 1)) (lv' := [(17, .int (l17 + 1)), (16, .int r24), (0, .ref a0), (1, .int l1), (2, .int l2), (3, .ref a3), (4, .ref a4), (5, .ref a5), (6, .ref a6), (7, .ref a7), (8, .ref a8), (9, .ref a9), (10, .ref a10), (11, .ref a11), (12, .ref a12), (13, .int l13), (14, .int l14), (15, .int l15)]) 17 dL_isTold_68 rfl rfl (Nat.le_of_ble_eq_true rfl) rfl ?_
      refine z_goto 46 dL_isTold_71 (by decide) ?_
      refine z_sub [2, 3, 4, 5, 6, 7, 8, 9, 10, 11, 12, 13, 14, 15, 16, 17, 1, 0] rfl ?_
      exact ih k n (by omega) (by omega) a0 l1 l2 a3 a4 a5 a6 a7 a8 a9 a10 a11 a12 l13 l14 l15 r24 (l17 + 1) S23 C h
set_option maxRecDepth 20000 in
set_option maxHeartbeats 4000000 in
theorem w_L_isTold_J276 {E : zE} {B3 : Nat → Int32 → Int32 → Nat → Nat → Nat → Nat → Nat → Nat → Nat → Nat → Nat → Nat → Int32 → zS → zS → Prop} {B285 : zS → zS → Prop} {B314 : zS → zS → Prop} {Q : Int32 → zS → zS → Prop} {X : String → zS → Prop} {K N : Nat} (hKC : K ≤ 339) (hNS : N ≤ 2266) (hB3 : ∀ (a0 : Nat) (l1 : Int32) (l2 : Int32) (a3 : Nat) (a4 : Nat) (a5 : Nat) (a6 : Nat) (a7 : Nat) (a8 : Nat) (a9 : Nat) (a10 : Nat) (a11 : Nat) (a12 : Nat) (l13 : Int32) (S C : zS) (k n : Nat), k ≤ K → n ≤ N → B3 a0 l1 l2 a3 a4 a5 a6 a7 a8 a9 a10 a11 a12 l13 S C → zJ E (RL, cL_isTold, 19, (some .boolean), false, [], zTr) ({ frames := 10, cells := 339, slots := 2266, locals := 173 } : Room) (zY E Q) (fun _ _ _ => False) 3 [(0, .ref a0), (1, .int l1), (2, .int l2), (3, .ref a3), (4, .ref a4), (5, .ref a5), (6, .ref a6), (7, .ref a7), (8, .ref a8), (9, .ref a9), (10, .ref a10), (11, .ref a11), (12, .ref a12), (13, .int l13)] [] (zPl E C) S k n) (hB285 : ∀ (S C : zS) (k n : Nat), k ≤ K → n ≤ N → B285  S C → zJ E (RL, cL_isTold, 19, (some .boolean), false, [], zTr) ({ frames := 10, cells := 339, slots := 2266, locals := 173 } : Room) (zY E Q) (fun _ _ _ => False) 285 [] [] (zPl E C) S k n) (hB314 : ∀ (S C : zS) (k n : Nat), k ≤ K → n ≤ N → B314  S C → zJ E (RL, cL_isTold, 19, (some .boolean), false, [], zTr) ({ frames := 10, cells := 339, slots := 2266, locals := 173 } : Room) (zY E Q) (fun _ _ _ => False) 314 [] [] (zPl E C) S k n) (a0 : Nat) (l1 : Int32) (l2 : Int32) (a3 : Nat) (a4 : Nat) (a5 : Nat) (a6 : Nat) (a7 : Nat) (a8 : Nat) (a9 : Nat) (a10 : Nat) (a11 : Nat) (a12 : Nat) (l13 : Int32) (l100 : Int32) (l101 : Int32) (a102 : Nat) (S C : zS) (k n : Nat) (hk : k + 4 ≤ K) (hn : n + 82 ≤ N) (h : p_L_isTold_J276 E B3 B285 B314 Q X a0 l1 l2 a3 a4 a5 a6 a7 a8 a9 a10 a11 a12 l13 l100 l101 a102 S C) : zJ E (RL, cL_isTold, 19, (some .boolean), false, [], zTr) ({ frames := 10, cells := 339, slots := 2266, locals := 173 } : Room) (zY E Q) (fun _ _ _ => False) 276 [(0, .ref a0), (1, .int l1), (2, .int l2), (3, .ref a3), (4, .ref a4), (5, .ref a5), (6, .ref a6), (7, .ref a7), (8, .ref a8), (9, .ref a9), (10, .ref a10), (11, .ref a11), (12, .ref a12), (13, .int l13)] [.int l100, .int l101, .ref a102] (zPl E C) S k n := by
  unfold p_L_isTold_J276 at h
  refine zz_fl ?_
  refine z_callW (st := []) (w_L_isFalse h) zw_1191 zw_1189 zw_1190 zw_29 zy_L_isFalse rfl rfl ⟨Nat.le_of_ble_eq_true rfl, Nat.le_of_ble_eq_true rfl⟩ ⟨(by show k + 2 ≤ 339; omega), (by show n + 12 ≤ 2266; omega)⟩ (Nat.le_of_ble_eq_true rfl) dL_isTold_276 (fun r74 C73 h => ?_)
  refine z_widen (k' := (k + 2)) (n' := (n + 12)) (Nat.le_of_eq rfl) (Nat.le_of_eq rfl) ?_
  refine zz_fl ?_
  refine z_sipush (v := (-7100)) dL_isTold_279 rfl ?_
  refine z_icmp_eq 287 dL_isTold_282 (by decide) (fun c84 => ?_) (fun c84 => ?_)
  · have h := h.1 c84
    refine z_iload_n 1 dL_isTold_287 rfl rfl ?_
    refine z_bipush (v := 16) dL_isTold_288 rfl ?_
    refine z_irem dL_isTold_290 (by decide) ?_
    refine z_bipush (v := 15) dL_isTold_291 rfl ?_
    refine z_icmp_ne 316 dL_isTold_293 (by decide) (fun c83 => ?_) (fun c83 => ?_)
    · have h := h.1 c83
      refine z_iinc (v := (l13 + 1)) (lv' := [(13, .int (l13 + 1)), (0, .ref a0), (1, .int l1), (2, .int l2), (3, .ref a3), (4, .ref a4), (5, .ref a5), (6, .ref a6), (7, .ref a7), (8, .ref a8), (9, .ref a9), (10, .ref a10), (11, .ref a11), (12, .ref a12)]) 13 dL_isTold_316 rfl rfl (Nat.le_of_ble_eq_true rfl) rfl ?_
      refine z_goto 3 dL_isTold_319 (by decide) ?_
      refine z_sub [1, 2, 3, 4, 5, 6, 7, 8, 9, 10, 11, 12, 13, 0] rfl ?_
      exact hB3 a0 l1 l2 a3 a4 a5 a6 a7 a8 a9 a10 a11 a12 (l13 + 1) S C73 (k + 2) (n + 12) (by omega) (by omega) h
    · have h := h.2 c83
      refine z_aload_n 0 dL_isTold_296 rfl rfl ?_
      refine z_iload 13 dL_isTold_297 rfl ?_
      refine zz_fl ?_
      refine z_callW (st := []) (w_L_falseRows h) zw_1202 zw_1200 zw_1201 zw_29 zy_L_falseRows rfl rfl ⟨Nat.le_of_ble_eq_true rfl, Nat.le_of_ble_eq_true rfl⟩ ⟨(by show (k + 2) + 1 ≤ 339; omega), (by show (n + 12) + 6 ≤ 2266; omega)⟩ (Nat.le_of_ble_eq_true rfl) dL_isTold_299 (fun r76 C75 h => ?_)
      refine z_widen (k' := (k + 3)) (n' := (n + 18)) (Nat.le_of_eq rfl) (Nat.le_of_eq rfl) ?_
      refine zz_fl ?_
      refine z_aload_n 3 dL_isTold_302 rfl rfl ?_
      refine z_iload 13 dL_isTold_303 rfl ?_
      obtain ⟨hf77, h⟩ := h
      obtain ⟨j78, hj79, h⟩ := h
      refine z_lald (j := j78) hf77.1 hf77.2 hj79.1 hj79.2.1 hj79.2.2 dL_isTold_305 ?_
      refine z_aload 11 dL_isTold_306 rfl ?_
      refine z_callSI (st := [.int r76]) (w_L_falseMany h) zw_1209 zw_1207 zw_1208 zw_29 zy_L_falseMany rfl rfl ⟨Nat.le_of_ble_eq_true rfl, Nat.le_of_ble_eq_true rfl⟩ ⟨(by show (k + 3) + 1 ≤ 339; omega), (by show (n + 18) + 64 ≤ 2266; omega)⟩ (Nat.le_of_ble_eq_true rfl) dL_isTold_308 (fun _ _ hx => hx.elim) (fun r81 S80 h => ?_)
      refine z_widen (k' := (k + 4)) (n' := (n + 82)) (Nat.le_of_eq rfl) (Nat.le_of_eq rfl) ?_
      refine z_icmp_eq 316 dL_isTold_311 (by decide) (fun c82 => ?_) (fun c82 => ?_)
      · have h := h.1 c82
        refine z_iinc (v := (l13 + 1)) (lv' := [(13, .int (l13 + 1)), (0, .ref a0), (1, .int l1), (2, .int l2), (3, .ref a3), (4, .ref a4), (5, .ref a5), (6, .ref a6), (7, .ref a7), (8, .ref a8), (9, .ref a9), (10, .ref a10), (11, .ref a11), (12, .ref a12)]) 13 dL_isTold_316 rfl rfl (Nat.le_of_ble_eq_true rfl) rfl ?_
        refine z_goto 3 dL_isTold_319 (by decide) ?_
        refine z_sub [1, 2, 3, 4, 5, 6, 7, 8, 9, 10, 11, 12, 13, 0] rfl ?_
        exact hB3 a0 l1 l2 a3 a4 a5 a6 a7 a8 a9 a10 a11 a12 (l13 + 1) S80 C75 (k + 4) (n + 82) (by omega) (by omega) h
      · have h := h.2 c82
        refine z_sub [] rfl ?_
        exact hB314 S80 C75 (k + 4) (n + 82) (by omega) (by omega) h
  · have h := h.2 c84
    refine z_sub [] rfl ?_
    exact hB285 S C73 (k + 2) (n + 12) (by omega) (by omega) h
set_option maxRecDepth 20000 in
set_option maxHeartbeats 4000000 in
theorem w_L_isTold_L3 {E : zE} {K285 : zS → zS → Prop} {K314 : zS → zS → Prop} {K322 : Nat → Int32 → Nat → Nat → Nat → Nat → Nat → Nat → Nat → Nat → Nat → Nat → zS → zS → Prop} {Q : Int32 → zS → zS → Prop} {X : String → zS → Prop} {K N : Nat} (hKC : K ≤ 339) (hNS : N ≤ 2266) (hK285 : ∀ (S C : zS) (k n : Nat), k ≤ K → n ≤ N → K285  S C → zJ E (RL, cL_isTold, 19, (some .boolean), false, [], zTr) ({ frames := 10, cells := 339, slots := 2266, locals := 173 } : Room) (zY E Q) (fun _ _ _ => False) 285 [] [] (zPl E C) S k n) (hK314 : ∀ (S C : zS) (k n : Nat), k ≤ K → n ≤ N → K314  S C → zJ E (RL, cL_isTold, 19, (some .boolean), false, [], zTr) ({ frames := 10, cells := 339, slots := 2266, locals := 173 } : Room) (zY E Q) (fun _ _ _ => False) 314 [] [] (zPl E C) S k n) (hK322 : ∀ (a0 : Nat) (l2 : Int32) (a3 : Nat) (a4 : Nat) (a5 : Nat) (a6 : Nat) (a7 : Nat) (a8 : Nat) (a9 : Nat) (a10 : Nat) (a11 : Nat) (a12 : Nat) (S C : zS) (k n : Nat), k ≤ K → n ≤ N → K322 a0 l2 a3 a4 a5 a6 a7 a8 a9 a10 a11 a12 S C → zJ E (RL, cL_isTold, 19, (some .boolean), false, [], zTr) ({ frames := 10, cells := 339, slots := 2266, locals := 173 } : Room) (zY E Q) (fun _ _ _ => False) 322 [(0, .ref a0), (2, .int l2), (3, .ref a3), (4, .ref a4), (5, .ref a5), (6, .ref a6), (7, .ref a7), (8, .ref a8), (9, .ref a9), (10, .ref a10), (11, .ref a11), (12, .ref a12)] [] (zPl E C) S k n) : ∀ (m3 k n : Nat), k + m3 * 22 ≤ K → n + m3 * 190 ≤ N → ∀ (a0 : Nat) (l1 : Int32) (l2 : Int32) (a3 : Nat) (a4 : Nat) (a5 : Nat) (a6 : Nat) (a7 : Nat) (a8 : Nat) (a9 : Nat) (a10 : Nat) (a11 : Nat) (a12 : Nat) (l13 : Int32) (S C : zS), p_L_isTold_L3 E K285 K314 K322 Q X m3 a0 l1 l2 a3 a4 a5 a6 a7 a8 a9 a10 a11 a12 l13 S C → zJ E (RL, cL_isTold, 19, (some .boolean), false, [], zTr) ({ frames := 10, cells := 339, slots := 2266, locals := 173 } : Room) (zY E Q) (fun _ _ _ => False) 3 [(0, .ref a0), (1, .int l1), (2, .int l2), (3, .ref a3), (4, .ref a4), (5, .ref a5), (6, .ref a6), (7, .ref a7), (8, .ref a8), (9, .ref a9), (10, .ref a10), (11, .ref a11), (12, .ref a12), (13, .int l13)] [] (zPl E C) S k n := by
  intro m3
  induction m3 with
  | zero => intro k n hk hn a0 l1 l2 a3 a4 a5 a6 a7 a8 a9 a10 a11 a12 l13 S C h; unfold p_L_isTold_L3 at h; exact h.elim
  | succ m3 ih =>
    intro k n hk hn a0 l1 l2 a3 a4 a5 a6 a7 a8 a9 a10 a11 a12 l13 S C h
    unfold p_L_isTold_L3 at h
    refine z_iload 13 dL_isTold_3 rfl ?_
    refine z_aload 12 dL_isTold_5 rfl ?_
    refine z_iconst (v := 0) dL_isTold_7 rfl ?_
    obtain ⟨hf1, h⟩ := h
    obtain ⟨hj3, h⟩ := h
    refine z_iald (j := 0) hf1.1 hf1.2 rfl hj3.1 hj3.2 dL_isTold_8 ?_
    refine z_icmp_ge 322 dL_isTold_9 (by decide) (fun c106 => ?_) (fun c106 => ?_)
    · have h := h.1 c106
      refine z_sub [0, 2, 3, 4, 5, 6, 7, 8, 9, 10, 11, 12] rfl ?_
      exact hK322 a0 l2 a3 a4 a5 a6 a7 a8 a9 a10 a11 a12 S C k n (by omega) (by omega) h
    · have h := h.2 c106
      refine z_aload_n 3 dL_isTold_12 rfl rfl ?_
      refine z_iload 13 dL_isTold_13 rfl ?_
      obtain ⟨hf4, h⟩ := h
      obtain ⟨j5, hj6, h⟩ := h
      refine z_lald (j := j5) hf4.1 hf4.2 hj6.1 hj6.2.1 hj6.2.2 dL_isTold_15 ?_
      refine z_callSI (st := []) (w_L_stageOf h) zw_785 zw_783 zw_784 zw_29 zy_L_stageOf rfl rfl ⟨Nat.le_of_ble_eq_true rfl, Nat.le_of_ble_eq_true rfl⟩ ⟨(by show k ≤ 339; omega), (by show n ≤ 2266; omega)⟩ (Nat.le_of_ble_eq_true rfl) dL_isTold_16 (fun _ _ hx => hx.elim) (fun r8 S7 h => ?_)
      refine z_widen (k' := k) (n' := n) (Nat.le_of_eq rfl) (Nat.le_of_eq rfl) ?_
      refine z_istore (lv' := [(14, .int r8), (0, .ref a0), (1, .int l1), (2, .int l2), (3, .ref a3), (4, .ref a4), (5, .ref a5), (6, .ref a6), (7, .ref a7), (8, .ref a8), (9, .ref a9), (10, .ref a10), (11, .ref a11), (12, .ref a12), (13, .int l13)]) dL_isTold_19 (Nat.le_of_ble_eq_true rfl) rfl ?_
      refine z_iload_n 3 dL_isTold_21 rfl rfl ?_
      refine z_iconst (v := 3) dL_isTold_22 rfl ?_
      refine z_callSI (st := []) (w_L_low h) zw_313 zw_311 zw_312 zw_29 zy_L_low rfl rfl ⟨Nat.le_of_ble_eq_true rfl, Nat.le_of_ble_eq_true rfl⟩ ⟨(by show k ≤ 339; omega), (by show n ≤ 2266; omega)⟩ (Nat.le_of_ble_eq_true rfl) dL_isTold_23 (fun _ _ hx => hx.elim) (fun r10 S9 h => ?_)
      refine z_widen (k' := k) (n' := n) (Nat.le_of_eq rfl) (Nat.le_of_eq rfl) ?_
      refine z_istore (lv' := [(15, .int r10), (14, .int r8), (0, .ref a0), (1, .int l1), (2, .int l2), (3, .ref a3), (4, .ref a4), (5, .ref a5), (6, .ref a6), (7, .ref a7), (8, .ref a8), (9, .ref a9), (10, .ref a10), (11, .ref a11), (12, .ref a12), (13, .int l13)]) dL_isTold_26 (Nat.le_of_ble_eq_true rfl) rfl ?_
      refine z_iload 1 dL_isTold_28 rfl ?_
      refine z_callSI (st := []) (w_L_rounds h) zw_812 zw_810 zw_811 zw_29 zy_L_rounds rfl rfl ⟨Nat.le_of_ble_eq_true rfl, Nat.le_of_ble_eq_true rfl⟩ ⟨(by show k ≤ 339; omega), (by show n ≤ 2266; omega)⟩ (Nat.le_of_ble_eq_true rfl) dL_isTold_30 (fun _ _ hx => hx.elim) (fun r12 S11 h => ?_)
      refine z_widen (k' := k) (n' := n) (Nat.le_of_eq rfl) (Nat.le_of_eq rfl) ?_
      refine z_aload_n 5 dL_isTold_33 rfl rfl ?_
      refine z_iload 15 dL_isTold_34 rfl ?_
      obtain ⟨hf13, h⟩ := h
      obtain ⟨j14, hj15, h⟩ := h
      refine z_lald (j := j14) hf13.1 hf13.2 hj15.1 hj15.2.1 hj15.2.2 dL_isTold_36 ?_
      refine z_iconst (v := 0) dL_isTold_37 rfl ?_
      refine z_callSI (st := []) (w_L_behind h) zw_1159 zw_1157 zw_1158 zw_29 zy_L_behind rfl rfl ⟨Nat.le_of_ble_eq_true rfl, Nat.le_of_ble_eq_true rfl⟩ ⟨(by show k ≤ 339; omega), (by show n ≤ 2266; omega)⟩ (Nat.le_of_ble_eq_true rfl) dL_isTold_38 (fun _ _ hx => hx.elim) (fun r17 S16 h => ?_)
      refine z_widen (k' := k) (n' := n) (Nat.le_of_eq rfl) (Nat.le_of_eq rfl) ?_
      refine z_istore (lv' := [(16, .int r17), (15, .int r10), (14, .int r8), (0, .ref a0), (1, .int l1), (2, .int l2), (3, .ref a3), (4, .ref a4), (5, .ref a5), (6, .ref a6), (7, .ref a7), (8, .ref a8), (9, .ref a9), (10, .ref a10), (11, .ref a11), (12, .ref a12), (13, .int l13)]) dL_isTold_41 (Nat.le_of_ble_eq_true rfl) rfl ?_
      refine z_iconst (v := 1) dL_isTold_43 rfl ?_
      refine z_istore (lv' := [(17, .int 1), (16, .int r17), (15, .int r10), (14, .int r8), (0, .ref a0), (1, .int l1), (2, .int l2), (3, .ref a3), (4, .ref a4), (5, .ref a5), (6, .ref a6), (7, .ref a7), (8, .ref a8), (9, .ref a9), (10, .ref a10), (11, .ref a11), (12, .ref a12), (13, .int l13)]) dL_isTold_44 (Nat.le_of_ble_eq_true rfl) rfl ?_
      obtain ⟨m46, h⟩ := h
      refine z_sub [4, 5, 6, 7, 8, 9, 10, 11, 12, 13, 14, 15, 16, 17, 3, 2, 1, 0] rfl ?_
      refine w_L_isTold_L46 (K := (K - m3 * 22) - 22) (N := (N - m3 * 190) - 190) (by omega) (by omega) (fun a0 l1 l2 a3 a4 a5 a6 a7 a8 a9 a10 a11 a12 l13 l14 l15 l17 S C k26 n26 hk26 hn26 h => ?_) m46 k n (by omega) (by omega) a0 l1 l2 a3 a4 a5 a6 a7 a8 a9 a10 a11 a12 l13 r8 r10 r17 1 S16 C h
      refine z_iload_n 2 dL_isTold_74 rfl rfl ?_
      refine z_iconst (v := 2) dL_isTold_75 rfl ?_
      refine z_ishr dL_isTold_76 ?_
      refine z_aload_n 3 dL_isTold_77 rfl rfl ?_
      refine z_iload 13 dL_isTold_78 rfl ?_
      obtain ⟨hf27, h⟩ := h
      obtain ⟨j28, hj29, h⟩ := h
      refine z_lald (j := j28) hf27.1 hf27.2 hj29.1 hj29.2.1 hj29.2.2 dL_isTold_80 ?_
      refine z_callSI (st := [.int (l2 >>> ((2 : Int32) &&& 31))]) (w_L_size h) zw_789 zw_787 zw_788 zw_29 zy_L_size rfl rfl ⟨Nat.le_of_ble_eq_true rfl, Nat.le_of_ble_eq_true rfl⟩ ⟨(by show k26 ≤ 339; omega), (by show n26 ≤ 2266; omega)⟩ (Nat.le_of_ble_eq_true rfl) dL_isTold_81 (fun _ _ hx => hx.elim) (fun r31 S30 h => ?_)
      refine z_widen (k' := k26) (n' := n26) (Nat.le_of_eq rfl) (Nat.le_of_eq rfl) ?_
      refine z_callSI (st := []) (w_L_low h) zw_313 zw_311 zw_312 zw_29 zy_L_low rfl rfl ⟨Nat.le_of_ble_eq_true rfl, Nat.le_of_ble_eq_true rfl⟩ ⟨(by show k26 ≤ 339; omega), (by show n26 ≤ 2266; omega)⟩ (Nat.le_of_ble_eq_true rfl) dL_isTold_84 (fun _ _ hx => hx.elim) (fun r33 S32 h => ?_)
      refine z_widen (k' := k26) (n' := n26) (Nat.le_of_eq rfl) (Nat.le_of_eq rfl) ?_
      refine z_istore (lv' := [(18, .int r33), (0, .ref a0), (1, .int l1), (2, .int l2), (3, .ref a3), (4, .ref a4), (5, .ref a5), (6, .ref a6), (7, .ref a7), (8, .ref a8), (9, .ref a9), (10, .ref a10), (11, .ref a11), (12, .ref a12), (13, .int l13), (14, .int l14), (15, .int l15), (17, .int l17)]) dL_isTold_87 (Nat.le_of_ble_eq_true rfl) rfl ?_
      refine z_aload_n 1 dL_isTold_89 rfl rfl ?_
      refine z_iload 14 dL_isTold_90 rfl ?_
      refine zz_fl ?_
      refine z_callW (st := []) (w_L_stage h) zw_575 zw_573 zw_574 zw_29 zy_L_stage rfl rfl ⟨Nat.le_of_ble_eq_true rfl, Nat.le_of_ble_eq_true rfl⟩ ⟨(by show k26 + 1 ≤ 339; omega), (by show n26 + 6 ≤ 2266; omega)⟩ (Nat.le_of_ble_eq_true rfl) dL_isTold_92 (fun r35 C34 h => ?_)
      refine z_widen (k' := (k26 + 1)) (n' := (n26 + 6)) (Nat.le_of_eq rfl) (Nat.le_of_eq rfl) ?_
      refine zz_fl ?_
      refine z_iload 15 dL_isTold_95 rfl ?_
      refine z_icmp_ne 285 dL_isTold_97 (by decide) (fun c105 => ?_) (fun c105 => ?_)
      · have h := h.1 c105
        refine z_sub [] rfl ?_
        exact hK285 S32 C34 (k26 + 1) (n26 + 6) (by omega) (by omega) h
      · have h := h.2 c105
        refine z_aload_n 1 dL_isTold_100 rfl rfl ?_
        refine z_iload 14 dL_isTold_101 rfl ?_
        refine z_iload 16 dL_isTold_103 rfl ?_
        refine zz_fl ?_
        refine z_callW (st := []) (w_L_head h) zw_1162 zw_1160 zw_1161 zw_29 zy_L_head rfl rfl ⟨Nat.le_of_ble_eq_true rfl, Nat.le_of_ble_eq_true rfl⟩ ⟨(by show (k26 + 1) + 2 ≤ 339; omega), (by show (n26 + 6) + 12 ≤ 2266; omega)⟩ (Nat.le_of_ble_eq_true rfl) dL_isTold_105 (fun r37 C36 h => ?_)
        refine z_widen (k' := (k26 + 3)) (n' := (n26 + 18)) (Nat.le_of_eq rfl) (Nat.le_of_eq rfl) ?_
        refine zz_fl ?_
        refine z_iload 15 dL_isTold_108 rfl ?_
        refine z_callSI (st := [.int r37]) (w_L_rounds h) zw_812 zw_810 zw_811 zw_29 zy_L_rounds rfl rfl ⟨Nat.le_of_ble_eq_true rfl, Nat.le_of_ble_eq_true rfl⟩ ⟨(by show (k26 + 3) ≤ 339; omega), (by show (n26 + 18) ≤ 2266; omega)⟩ (Nat.le_of_ble_eq_true rfl) dL_isTold_110 (fun _ _ hx => hx.elim) (fun r39 S38 h => ?_)
        refine z_widen (k' := (k26 + 3)) (n' := (n26 + 18)) (Nat.le_of_eq rfl) (Nat.le_of_eq rfl) ?_
        refine z_aload_n 4 dL_isTold_113 rfl rfl ?_
        refine z_iload 14 dL_isTold_114 rfl ?_
        obtain ⟨hf40, h⟩ := h
        obtain ⟨j41, hj42, h⟩ := h
        refine z_lald (j := j41) hf40.1 hf40.2 hj42.1 hj42.2.1 hj42.2.2 dL_isTold_116 ?_
        refine z_iload 16 dL_isTold_117 rfl ?_
        refine z_callSI (st := [.int r37]) (w_L_behind h) zw_1159 zw_1157 zw_1158 zw_29 zy_L_behind rfl rfl ⟨Nat.le_of_ble_eq_true rfl, Nat.le_of_ble_eq_true rfl⟩ ⟨(by show (k26 + 3) ≤ 339; omega), (by show (n26 + 18) ≤ 2266; omega)⟩ (Nat.le_of_ble_eq_true rfl) dL_isTold_119 (fun _ _ hx => hx.elim) (fun r44 S43 h => ?_)
        refine z_widen (k' := (k26 + 3)) (n' := (n26 + 18)) (Nat.le_of_eq rfl) (Nat.le_of_eq rfl) ?_
        refine z_iload 15 dL_isTold_122 rfl ?_
        refine z_callSI (st := [.int r37]) (w_L_number h) zw_1176 zw_1174 zw_1175 zw_29 zy_L_number rfl rfl ⟨Nat.le_of_ble_eq_true rfl, Nat.le_of_ble_eq_true rfl⟩ ⟨(by show (k26 + 3) ≤ 339; omega), (by show (n26 + 18) ≤ 2266; omega)⟩ (Nat.le_of_ble_eq_true rfl) dL_isTold_124 (fun _ _ hx => hx.elim) (fun r46 S45 h => ?_)
        refine z_widen (k' := (k26 + 3)) (n' := (n26 + 18)) (Nat.le_of_eq rfl) (Nat.le_of_eq rfl) ?_
        refine z_icmp_ne 285 dL_isTold_127 (by decide) (fun c104 => ?_) (fun c104 => ?_)
        · have h := h.1 c104
          refine z_sub [] rfl ?_
          exact hK285 S45 C36 (k26 + 3) (n26 + 18) (by omega) (by omega) h
        · have h := h.2 c104
          refine z_aload_n 1 dL_isTold_130 rfl rfl ?_
          refine z_iload 14 dL_isTold_131 rfl ?_
          refine zz_fl ?_
          refine z_callW (st := []) (w_L_course h) zw_1179 zw_1177 zw_1178 zw_29 zy_L_course rfl rfl ⟨Nat.le_of_ble_eq_true rfl, Nat.le_of_ble_eq_true rfl⟩ ⟨(by show (k26 + 3) + 1 ≤ 339; omega), (by show (n26 + 18) + 6 ≤ 2266; omega)⟩ (Nat.le_of_ble_eq_true rfl) dL_isTold_133 (fun r48 C47 h => ?_)
          refine z_widen (k' := (k26 + 4)) (n' := (n26 + 24)) (Nat.le_of_eq rfl) (Nat.le_of_eq rfl) ?_
          refine zz_fl ?_
          refine z_iload 17 dL_isTold_136 rfl ?_
          refine z_icmp_ne 285 dL_isTold_138 (by decide) (fun c103 => ?_) (fun c103 => ?_)
          · have h := h.1 c103
            refine z_sub [] rfl ?_
            exact hK285 S45 C47 (k26 + 4) (n26 + 24) (by omega) (by omega) h
          · have h := h.2 c103
            refine z_aload_n 1 dL_isTold_141 rfl rfl ?_
            refine z_iload 14 dL_isTold_142 rfl ?_
            refine z_iload 16 dL_isTold_144 rfl ?_
            refine z_iload 0 dL_isTold_146 rfl ?_
            refine zz_fl ?_
            refine z_callW (st := []) (w_L_changeAt h) zw_777 zw_775 zw_776 zw_29 zy_L_changeAt rfl rfl ⟨Nat.le_of_ble_eq_true rfl, Nat.le_of_ble_eq_true rfl⟩ ⟨(by show (k26 + 4) + 2 ≤ 339; omega), (by show (n26 + 24) + 12 ≤ 2266; omega)⟩ (Nat.le_of_ble_eq_true rfl) dL_isTold_148 (fun r50 C49 h => ?_)
            refine z_widen (k' := (k26 + 6)) (n' := (n26 + 36)) (Nat.le_of_eq rfl) (Nat.le_of_eq rfl) ?_
            refine zz_fl ?_
            refine z_aload_n 4 dL_isTold_151 rfl rfl ?_
            refine z_iload 14 dL_isTold_152 rfl ?_
            obtain ⟨hf51, h⟩ := h
            obtain ⟨j52, hj53, h⟩ := h
            refine z_lald (j := j52) hf51.1 hf51.2 hj53.1 hj53.2.1 hj53.2.2 dL_isTold_154 ?_
            refine z_iload 16 dL_isTold_155 rfl ?_
            refine z_iload 0 dL_isTold_157 rfl ?_
            refine z_callSI (st := [.int r50]) (w_L_its h) zw_792 zw_790 zw_791 zw_29 zy_L_its rfl rfl ⟨Nat.le_of_ble_eq_true rfl, Nat.le_of_ble_eq_true rfl⟩ ⟨(by show (k26 + 6) ≤ 339; omega), (by show (n26 + 36) ≤ 2266; omega)⟩ (Nat.le_of_ble_eq_true rfl) dL_isTold_159 (fun _ _ hx => hx.elim) (fun r55 S54 h => ?_)
            refine z_widen (k' := (k26 + 6)) (n' := (n26 + 36)) (Nat.le_of_eq rfl) (Nat.le_of_eq rfl) ?_
            refine z_icmp_ne 285 dL_isTold_162 (by decide) (fun c102 => ?_) (fun c102 => ?_)
            · have h := h.1 c102
              refine z_sub [] rfl ?_
              exact hK285 S54 C49 (k26 + 6) (n26 + 36) (by omega) (by omega) h
            · have h := h.2 c102
              refine z_aload_n 1 dL_isTold_165 rfl rfl ?_
              refine z_iload 14 dL_isTold_166 rfl ?_
              refine z_iload 16 dL_isTold_168 rfl ?_
              refine z_aload_n 4 dL_isTold_170 rfl rfl ?_
              refine z_iload 14 dL_isTold_171 rfl ?_
              obtain ⟨hf56, h⟩ := h
              obtain ⟨j57, hj58, h⟩ := h
              refine z_lald (j := j57) hf56.1 hf56.2 hj58.1 hj58.2.1 hj58.2.2 dL_isTold_173 ?_
              refine z_callSI (st := [.int l15, .int l13, .ref a0]) (w_L_size h) zw_789 zw_787 zw_788 zw_29 zy_L_size rfl rfl ⟨Nat.le_of_ble_eq_true rfl, Nat.le_of_ble_eq_true rfl⟩ ⟨(by show (k26 + 6) ≤ 339; omega), (by show (n26 + 36) ≤ 2266; omega)⟩ (Nat.le_of_ble_eq_true rfl) dL_isTold_174 (fun _ _ hx => hx.elim) (fun r60 S59 h => ?_)
              refine z_widen (k' := (k26 + 6)) (n' := (n26 + 36)) (Nat.le_of_eq rfl) (Nat.le_of_eq rfl) ?_
              refine zz_fl ?_
              refine z_callW (st := []) (w_L_changeAt h) zw_777 zw_775 zw_776 zw_29 zy_L_changeAt rfl rfl ⟨Nat.le_of_ble_eq_true rfl, Nat.le_of_ble_eq_true rfl⟩ ⟨(by show (k26 + 6) + 2 ≤ 339; omega), (by show (n26 + 36) + 12 ≤ 2266; omega)⟩ (Nat.le_of_ble_eq_true rfl) dL_isTold_177 (fun r62 C61 h => ?_)
              refine z_widen (k' := (k26 + 8)) (n' := (n26 + 48)) (Nat.le_of_eq rfl) (Nat.le_of_eq rfl) ?_
              refine zz_fl ?_
              refine z_iconst (v := (-1)) dL_isTold_180 rfl ?_
              refine z_icmp_ne 285 dL_isTold_181 (by decide) (fun c101 => ?_) (fun c101 => ?_)
              · have h := h.1 c101
                refine z_sub [] rfl ?_
                exact hK285 S59 C61 (k26 + 8) (n26 + 48) (by omega) (by omega) h
              · have h := h.2 c101
                refine z_aload_n 1 dL_isTold_184 rfl rfl ?_
                refine z_iload 14 dL_isTold_185 rfl ?_
                refine z_iconst (v := 3) dL_isTold_187 rfl ?_
                refine z_iconst (v := 0) dL_isTold_188 rfl ?_
                refine zz_fl ?_
                refine z_callW (st := []) (w_L_changeAt h) zw_777 zw_775 zw_776 zw_29 zy_L_changeAt rfl rfl ⟨Nat.le_of_ble_eq_true rfl, Nat.le_of_ble_eq_true rfl⟩ ⟨(by show (k26 + 8) + 2 ≤ 339; omega), (by show (n26 + 48) + 12 ≤ 2266; omega)⟩ (Nat.le_of_ble_eq_true rfl) dL_isTold_189 (fun r64 C63 h => ?_)
                refine z_widen (k' := (k26 + 10)) (n' := (n26 + 60)) (Nat.le_of_eq rfl) (Nat.le_of_eq rfl) ?_
                refine zz_fl ?_
                refine z_sipush (v := (-7200)) dL_isTold_192 rfl ?_
                refine z_icmp_ne 285 dL_isTold_195 (by decide) (fun c100 => ?_) (fun c100 => ?_)
                · have h := h.1 c100
                  refine z_sub [] rfl ?_
                  exact hK285 S59 C63 (k26 + 10) (n26 + 60) (by omega) (by omega) h
                · have h := h.2 c100
                  refine z_aload_n 1 dL_isTold_198 rfl rfl ?_
                  refine z_iload 14 dL_isTold_199 rfl ?_
                  refine z_iconst (v := 3) dL_isTold_201 rfl ?_
                  refine z_iconst (v := (-1)) dL_isTold_202 rfl ?_
                  refine zz_fl ?_
                  refine z_callW (st := []) (w_L_changeAt h) zw_777 zw_775 zw_776 zw_29 zy_L_changeAt rfl rfl ⟨Nat.le_of_ble_eq_true rfl, Nat.le_of_ble_eq_true rfl⟩ ⟨(by show (k26 + 10) + 2 ≤ 339; omega), (by show (n26 + 60) + 12 ≤ 2266; omega)⟩ (Nat.le_of_ble_eq_true rfl) dL_isTold_203 (fun r66 C65 h => ?_)
                  refine z_widen (k' := (k26 + 12)) (n' := (n26 + 72)) (Nat.le_of_eq rfl) (Nat.le_of_eq rfl) ?_
                  refine zz_fl ?_
                  refine z_sipush (v := (-7100)) dL_isTold_206 rfl ?_
                  refine z_icmp_ne 285 dL_isTold_209 (by decide) (fun c99 => ?_) (fun c99 => ?_)
                  · have h := h.1 c99
                    refine z_sub [] rfl ?_
                    exact hK285 S59 C65 (k26 + 12) (n26 + 72) (by omega) (by omega) h
                  · have h := h.2 c99
                    refine z_aload_n 1 dL_isTold_212 rfl rfl ?_
                    refine z_iload 14 dL_isTold_213 rfl ?_
                    refine z_iconst (v := (-1)) dL_isTold_215 rfl ?_
                    refine zz_fl ?_
                    refine z_callW (st := []) (w_L_head h) zw_1162 zw_1160 zw_1161 zw_29 zy_L_head rfl rfl ⟨Nat.le_of_ble_eq_true rfl, Nat.le_of_ble_eq_true rfl⟩ ⟨(by show (k26 + 12) + 2 ≤ 339; omega), (by show (n26 + 72) + 12 ≤ 2266; omega)⟩ (Nat.le_of_ble_eq_true rfl) dL_isTold_216 (fun r68 C67 h => ?_)
                    refine z_widen (k' := (k26 + 14)) (n' := (n26 + 84)) (Nat.le_of_eq rfl) (Nat.le_of_eq rfl) ?_
                    refine zz_fl ?_
                    refine z_sipush (v := (-7200)) dL_isTold_219 rfl ?_
                    refine z_icmp_ne 285 dL_isTold_222 (by decide) (fun c98 => ?_) (fun c98 => ?_)
                    · have h := h.1 c98
                      refine z_sub [] rfl ?_
                      exact hK285 S59 C67 (k26 + 14) (n26 + 84) (by omega) (by omega) h
                    · have h := h.2 c98
                      refine z_aload_n 1 dL_isTold_225 rfl rfl ?_
                      refine z_iload 14 dL_isTold_226 rfl ?_
                      refine z_iconst (v := 0) dL_isTold_228 rfl ?_
                      refine zz_fl ?_
                      refine z_callW (st := []) (w_L_isFalse h) zw_1191 zw_1189 zw_1190 zw_29 zy_L_isFalse rfl rfl ⟨Nat.le_of_ble_eq_true rfl, Nat.le_of_ble_eq_true rfl⟩ ⟨(by show (k26 + 14) + 2 ≤ 339; omega), (by show (n26 + 84) + 12 ≤ 2266; omega)⟩ (Nat.le_of_ble_eq_true rfl) dL_isTold_229 (fun r70 C69 h => ?_)
                      refine z_widen (k' := (k26 + 16)) (n' := (n26 + 96)) (Nat.le_of_eq rfl) (Nat.le_of_eq rfl) ?_
                      refine zz_fl ?_
                      refine z_if_ne 285 dL_isTold_232 (by decide) (fun c97 => ?_) (fun c97 => ?_)
                      · have h := h.1 c97
                        refine z_sub [] rfl ?_
                        exact hK285 S59 C69 (k26 + 16) (n26 + 96) (by omega) (by omega) h
                      · have h := h.2 c97
                        refine z_aload_n 1 dL_isTold_235 rfl rfl ?_
                        refine z_iload 14 dL_isTold_236 rfl ?_
                        refine z_iconst (v := (-1)) dL_isTold_238 rfl ?_
                        refine zz_fl ?_
                        refine z_callW (st := []) (w_L_isFalse h) zw_1191 zw_1189 zw_1190 zw_29 zy_L_isFalse rfl rfl ⟨Nat.le_of_ble_eq_true rfl, Nat.le_of_ble_eq_true rfl⟩ ⟨(by show (k26 + 16) + 2 ≤ 339; omega), (by show (n26 + 96) + 12 ≤ 2266; omega)⟩ (Nat.le_of_ble_eq_true rfl) dL_isTold_239 (fun r72 C71 h => ?_)
                        refine z_widen (k' := (k26 + 18)) (n' := (n26 + 108)) (Nat.le_of_eq rfl) (Nat.le_of_eq rfl) ?_
                        refine zz_fl ?_
                        refine z_sipush (v := (-7100)) dL_isTold_242 rfl ?_
                        refine z_icmp_ne 285 dL_isTold_245 (by decide) (fun c96 => ?_) (fun c96 => ?_)
                        · have h := h.1 c96
                          refine z_sub [] rfl ?_
                          exact hK285 S59 C71 (k26 + 18) (n26 + 108) (by omega) (by omega) h
                        · have h := h.2 c96
                          refine z_aload_n 1 dL_isTold_248 rfl rfl ?_
                          refine z_iload 14 dL_isTold_249 rfl ?_
                          refine z_iload 15 dL_isTold_251 rfl ?_
                          refine z_iconst (v := 4) dL_isTold_253 rfl ?_
                          refine z_icmp_ne 262 dL_isTold_254 (by decide) (fun c95 => ?_) (fun c95 => ?_)
                          · have h := h.1 c95
                            refine z_iload 15 dL_isTold_262 rfl ?_
                            refine z_iconst (v := 5) dL_isTold_264 rfl ?_
                            refine z_icmp_ne 273 dL_isTold_265 (by decide) (fun c91 => ?_) (fun c91 => ?_)
                            · have h := h.1 c91
                              refine z_sipush (v := 720) dL_isTold_273 rfl ?_
                              refine z_sub [1, 2, 3, 4, 5, 6, 7, 8, 9, 10, 11, 12, 13, 14] rfl ?_
                              refine w_L_isTold_J276 (K := (K - m3 * 22)) (N := (N - m3 * 190)) (by omega) (by omega) (fun a0 l1 l2 a3 a4 a5 a6 a7 a8 a9 a10 a11 a12 l13 S C k85 n85 hk85 hn85 h => ?_) (fun S C k86 n86 hk86 hn86 h => ?_) (fun S C k87 n87 hk87 hn87 h => ?_) a0 l1 l2 a3 a4 a5 a6 a7 a8 a9 a10 a11 a12 l13 720 l13 a0 S59 C71 (k26 + 18) (n26 + 108) (by omega) (by omega) h
                              · exact ih k85 n85 (by omega) (by omega) a0 l1 l2 a3 a4 a5 a6 a7 a8 a9 a10 a11 a12 l13 S C h
                              · exact hK285 S C k86 n86 (by omega) (by omega) h
                              · exact hK314 S C k87 n87 (by omega) (by omega) h
                            · have h := h.2 c91
                              refine z_bipush (v := 120) dL_isTold_268 rfl ?_
                              refine z_goto 276 dL_isTold_270 (by decide) ?_
                              refine z_sub [1, 2, 3, 4, 5, 6, 7, 8, 9, 10, 11, 12, 13, 14] rfl ?_
                              refine w_L_isTold_J276 (K := (K - m3 * 22)) (N := (N - m3 * 190)) (by omega) (by omega) (fun a0 l1 l2 a3 a4 a5 a6 a7 a8 a9 a10 a11 a12 l13 S C k88 n88 hk88 hn88 h => ?_) (fun S C k89 n89 hk89 hn89 h => ?_) (fun S C k90 n90 hk90 hn90 h => ?_) a0 l1 l2 a3 a4 a5 a6 a7 a8 a9 a10 a11 a12 l13 120 l13 a0 S59 C71 (k26 + 18) (n26 + 108) (by omega) (by omega) h
                              · exact ih k88 n88 (by omega) (by omega) a0 l1 l2 a3 a4 a5 a6 a7 a8 a9 a10 a11 a12 l13 S C h
                              · exact hK285 S C k89 n89 (by omega) (by omega) h
                              · exact hK314 S C k90 n90 (by omega) (by omega) h
                          · have h := h.2 c95
                            refine z_bipush (v := 24) dL_isTold_257 rfl ?_
                            refine z_goto 276 dL_isTold_259 (by decide) ?_
                            refine z_sub [1, 2, 3, 4, 5, 6, 7, 8, 9, 10, 11, 12, 13, 14] rfl ?_
                            refine w_L_isTold_J276 (K := (K - m3 * 22)) (N := (N - m3 * 190)) (by omega) (by omega) (fun a0 l1 l2 a3 a4 a5 a6 a7 a8 a9 a10 a11 a12 l13 S C k92 n92 hk92 hn92 h => ?_) (fun S C k93 n93 hk93 hn93 h => ?_) (fun S C k94 n94 hk94 hn94 h => ?_) a0 l1 l2 a3 a4 a5 a6 a7 a8 a9 a10 a11 a12 l13 24 l13 a0 S59 C71 (k26 + 18) (n26 + 108) (by omega) (by omega) h
                            · exact ih k92 n92 (by omega) (by omega) a0 l1 l2 a3 a4 a5 a6 a7 a8 a9 a10 a11 a12 l13 S C h
                            · exact hK285 S C k93 n93 (by omega) (by omega) h
                            · exact hK314 S C k94 n94 (by omega) (by omega) h
set_option maxRecDepth 20000 in
set_option maxHeartbeats 4000000 in
theorem w_L_isTold_J572 {E : zE} {B325 : Nat → Int32 → Nat → Nat → Nat → Nat → Nat → Nat → Nat → Nat → Nat → Nat → Int32 → zS → zS → Prop} {B615 : zS → zS → Prop} {Q : Int32 → zS → zS → Prop} {X : String → zS → Prop} {K N : Nat} (hKC : K ≤ 339) (hNS : N ≤ 2266) (hB325 : ∀ (a0 : Nat) (l2 : Int32) (a3 : Nat) (a4 : Nat) (a5 : Nat) (a6 : Nat) (a7 : Nat) (a8 : Nat) (a9 : Nat) (a10 : Nat) (a11 : Nat) (a12 : Nat) (l13 : Int32) (S C : zS) (k n : Nat), k ≤ K → n ≤ N → B325 a0 l2 a3 a4 a5 a6 a7 a8 a9 a10 a11 a12 l13 S C → zJ E (RL, cL_isTold, 19, (some .boolean), false, [], zTr) ({ frames := 10, cells := 339, slots := 2266, locals := 173 } : Room) (zY E Q) (fun _ _ _ => False) 325 [(0, .ref a0), (2, .int l2), (3, .ref a3), (4, .ref a4), (5, .ref a5), (6, .ref a6), (7, .ref a7), (8, .ref a8), (9, .ref a9), (10, .ref a10), (11, .ref a11), (12, .ref a12), (13, .int l13)] [] (zPl E C) S k n) (hB615 : ∀ (S C : zS) (k n : Nat), k ≤ K → n ≤ N → B615  S C → zJ E (RL, cL_isTold, 19, (some .boolean), false, [], zTr) ({ frames := 10, cells := 339, slots := 2266, locals := 173 } : Room) (zY E Q) (fun _ _ _ => False) 615 [] [] (zPl E C) S k n) (a0 : Nat) (l2 : Int32) (a3 : Nat) (a4 : Nat) (a5 : Nat) (a6 : Nat) (a7 : Nat) (a8 : Nat) (a9 : Nat) (a10 : Nat) (a11 : Nat) (a12 : Nat) (l13 : Int32) (l14 : Int32) (l15 : Int32) (l18 : Int32) (l100 : Int32) (l101 : Int32) (S C : zS) (k n : Nat) (hk : k + 2 ≤ K) (hn : n + 12 ≤ N) (h : p_L_isTold_J572 E B325 B615 Q X a0 l2 a3 a4 a5 a6 a7 a8 a9 a10 a11 a12 l13 l14 l15 l18 l100 l101 S C) : zJ E (RL, cL_isTold, 19, (some .boolean), false, [], zTr) ({ frames := 10, cells := 339, slots := 2266, locals := 173 } : Room) (zY E Q) (fun _ _ _ => False) 572 [(0, .ref a0), (2, .int l2), (3, .ref a3), (4, .ref a4), (5, .ref a5), (6, .ref a6), (7, .ref a7), (8, .ref a8), (9, .ref a9), (10, .ref a10), (11, .ref a11), (12, .ref a12), (13, .int l13), (14, .int l14), (15, .int l15), (18, .int l18)] [.int l100, .int l101] (zPl E C) S k n := by
  unfold p_L_isTold_J572 at h
  refine z_icmp_ne 615 dL_isTold_572 (by decide) (fun c180 => ?_) (fun c180 => ?_)
  · have h := h.1 c180
    refine z_sub [] rfl ?_
    exact hB615 S C k n (by omega) (by omega) h
  · have h := h.2 c180
    refine z_aload_n 0 dL_isTold_575 rfl rfl ?_
    refine z_iload 12 dL_isTold_576 rfl ?_
    refine zz_fl ?_
    refine z_callW (st := []) (w_L_firstRepeat h) zw_1259 zw_1257 zw_1258 zw_29 zy_L_firstRepeat rfl rfl ⟨Nat.le_of_ble_eq_true rfl, Nat.le_of_ble_eq_true rfl⟩ ⟨(by show k + 1 ≤ 339; omega), (by show n + 6 ≤ 2266; omega)⟩ (Nat.le_of_ble_eq_true rfl) dL_isTold_578 (fun r168 C167 h => ?_)
    refine z_widen (k' := (k + 1)) (n' := (n + 6)) (Nat.le_of_eq rfl) (Nat.le_of_eq rfl) ?_
    refine zz_fl ?_
    refine z_iload 15 dL_isTold_581 rfl ?_
    refine z_icmp_ne 615 dL_isTold_583 (by decide) (fun c179 => ?_) (fun c179 => ?_)
    · have h := h.1 c179
      refine z_sub [] rfl ?_
      exact hB615 S C167 (k + 1) (n + 6) (by omega) (by omega) h
    · have h := h.2 c179
      refine z_aload_n 0 dL_isTold_586 rfl rfl ?_
      refine z_iload 12 dL_isTold_587 rfl ?_
      refine zz_fl ?_
      refine z_callW (st := []) (w_L_comesRound h) zw_1266 zw_1264 zw_1265 zw_29 zy_L_comesRound rfl rfl ⟨Nat.le_of_ble_eq_true rfl, Nat.le_of_ble_eq_true rfl⟩ ⟨(by show (k + 1) + 1 ≤ 339; omega), (by show (n + 6) + 6 ≤ 2266; omega)⟩ (Nat.le_of_ble_eq_true rfl) dL_isTold_589 (fun r170 C169 h => ?_)
      refine z_widen (k' := (k + 2)) (n' := (n + 12)) (Nat.le_of_eq rfl) (Nat.le_of_eq rfl) ?_
      refine zz_fl ?_
      refine z_aload 10 dL_isTold_592 rfl ?_
      refine z_iload 14 dL_isTold_594 rfl ?_
      refine z_iconst (v := 1) dL_isTold_596 rfl ?_
      refine z_isub dL_isTold_597 ?_
      obtain ⟨hf171, h⟩ := h
      obtain ⟨j172, hj173, h⟩ := h
      refine z_iald (j := j172) hf171.1 hf171.2 hj173.1 hj173.2.1 hj173.2.2 dL_isTold_598 ?_
      refine z_iload 13 dL_isTold_599 rfl ?_
      refine z_callSI (st := [.int (gA S a11 j172), .int r170]) (w_L_rounds h) zw_812 zw_810 zw_811 zw_29 zy_L_rounds rfl rfl ⟨Nat.le_of_ble_eq_true rfl, Nat.le_of_ble_eq_true rfl⟩ ⟨(by show (k + 2) ≤ 339; omega), (by show (n + 12) ≤ 2266; omega)⟩ (Nat.le_of_ble_eq_true rfl) dL_isTold_601 (fun _ _ hx => hx.elim) (fun r175 S174 h => ?_)
      refine z_widen (k' := (k + 2)) (n' := (n + 12)) (Nat.le_of_eq rfl) (Nat.le_of_eq rfl) ?_
      refine z_icmp_ne 611 dL_isTold_604 (by decide) (fun c178 => ?_) (fun c178 => ?_)
      · have h := h.1 c178
        refine z_iconst (v := 0) dL_isTold_611 rfl ?_
        refine z_icmp_eq 617 dL_isTold_612 (by decide) (fun c176 => ?_) (fun c176 => ?_)
        · have h := h.1 c176
          refine z_iinc (v := (l13 + 1)) (lv' := [(13, .int (l13 + 1)), (0, .ref a0), (2, .int l2), (3, .ref a3), (4, .ref a4), (5, .ref a5), (6, .ref a6), (7, .ref a7), (8, .ref a8), (9, .ref a9), (10, .ref a10), (11, .ref a11), (12, .ref a12), (14, .int l14), (15, .int l15), (18, .int l18)]) 12 dL_isTold_617 rfl rfl (Nat.le_of_ble_eq_true rfl) rfl ?_
          refine z_goto 325 dL_isTold_620 (by decide) ?_
          refine z_sub [1, 2, 3, 4, 5, 6, 7, 8, 9, 10, 11, 12, 0] rfl ?_
          exact hB325 a0 l2 a3 a4 a5 a6 a7 a8 a9 a10 a11 a12 (l13 + 1) S174 C169 (k + 2) (n + 12) (by omega) (by omega) h
        · have h := h.2 c176
          refine z_sub [] rfl ?_
          exact hB615 S174 C169 (k + 2) (n + 12) (by omega) (by omega) h
      · have h := h.2 c178
        refine z_iconst (v := 1) dL_isTold_607 rfl ?_
        refine z_goto 612 dL_isTold_608 (by decide) ?_
        refine z_icmp_eq 617 dL_isTold_612 (by decide) (fun c177 => ?_) (fun c177 => ?_)
        · have h := h.1 c177
          refine z_iinc (v := (l13 + 1)) (lv' := [(13, .int (l13 + 1)), (0, .ref a0), (2, .int l2), (3, .ref a3), (4, .ref a4), (5, .ref a5), (6, .ref a6), (7, .ref a7), (8, .ref a8), (9, .ref a9), (10, .ref a10), (11, .ref a11), (12, .ref a12), (14, .int l14), (15, .int l15), (18, .int l18)]) 12 dL_isTold_617 rfl rfl (Nat.le_of_ble_eq_true rfl) rfl ?_
          refine z_goto 325 dL_isTold_620 (by decide) ?_
          refine z_sub [1, 2, 3, 4, 5, 6, 7, 8, 9, 10, 11, 12, 0] rfl ?_
          exact hB325 a0 l2 a3 a4 a5 a6 a7 a8 a9 a10 a11 a12 (l13 + 1) S174 C169 (k + 2) (n + 12) (by omega) (by omega) h
        · have h := h.2 c177
          refine z_sub [] rfl ?_
          exact hB615 S174 C169 (k + 2) (n + 12) (by omega) (by omega) h
set_option maxRecDepth 20000 in
set_option maxHeartbeats 4000000 in
theorem w_L_isTold_L325 {E : zE} {K554 : zS → zS → Prop} {K615 : zS → zS → Prop} {K623 : Nat → Nat → Nat → Nat → Nat → Nat → Nat → Nat → Nat → Nat → zS → zS → Prop} {Q : Int32 → zS → zS → Prop} {X : String → zS → Prop} {K N : Nat} (hKC : K ≤ 339) (hNS : N ≤ 2266) (hK554 : ∀ (S C : zS) (k n : Nat), k ≤ K → n ≤ N → K554  S C → zJ E (RL, cL_isTold, 19, (some .boolean), false, [], zTr) ({ frames := 10, cells := 339, slots := 2266, locals := 173 } : Room) (zY E Q) (fun _ _ _ => False) 554 [] [] (zPl E C) S k n) (hK615 : ∀ (S C : zS) (k n : Nat), k ≤ K → n ≤ N → K615  S C → zJ E (RL, cL_isTold, 19, (some .boolean), false, [], zTr) ({ frames := 10, cells := 339, slots := 2266, locals := 173 } : Room) (zY E Q) (fun _ _ _ => False) 615 [] [] (zPl E C) S k n) (hK623 : ∀ (a0 : Nat) (a3 : Nat) (a4 : Nat) (a5 : Nat) (a6 : Nat) (a7 : Nat) (a8 : Nat) (a9 : Nat) (a10 : Nat) (a12 : Nat) (S C : zS) (k n : Nat), k ≤ K → n ≤ N → K623 a0 a3 a4 a5 a6 a7 a8 a9 a10 a12 S C → zJ E (RL, cL_isTold, 19, (some .boolean), false, [], zTr) ({ frames := 10, cells := 339, slots := 2266, locals := 173 } : Room) (zY E Q) (fun _ _ _ => False) 623 [(0, .ref a0), (3, .ref a3), (4, .ref a4), (5, .ref a5), (6, .ref a6), (7, .ref a7), (8, .ref a8), (9, .ref a9), (10, .ref a10), (12, .ref a12)] [] (zPl E C) S k n) : ∀ (m325 k n : Nat), k + m325 * 22 ≤ K → n + m325 * 132 ≤ N → ∀ (a0 : Nat) (l2 : Int32) (a3 : Nat) (a4 : Nat) (a5 : Nat) (a6 : Nat) (a7 : Nat) (a8 : Nat) (a9 : Nat) (a10 : Nat) (a11 : Nat) (a12 : Nat) (l13 : Int32) (S C : zS), p_L_isTold_L325 E K554 K615 K623 Q X m325 a0 l2 a3 a4 a5 a6 a7 a8 a9 a10 a11 a12 l13 S C → zJ E (RL, cL_isTold, 19, (some .boolean), false, [], zTr) ({ frames := 10, cells := 339, slots := 2266, locals := 173 } : Room) (zY E Q) (fun _ _ _ => False) 325 [(0, .ref a0), (2, .int l2), (3, .ref a3), (4, .ref a4), (5, .ref a5), (6, .ref a6), (7, .ref a7), (8, .ref a8), (9, .ref a9), (10, .ref a10), (11, .ref a11), (12, .ref a12), (13, .int l13)] [] (zPl E C) S k n := by
  intro m325
  induction m325 with
  | zero => intro k n hk hn a0 l2 a3 a4 a5 a6 a7 a8 a9 a10 a11 a12 l13 S C h; unfold p_L_isTold_L325 at h; exact h.elim
  | succ m325 ih =>
    intro k n hk hn a0 l2 a3 a4 a5 a6 a7 a8 a9 a10 a11 a12 l13 S C h
    unfold p_L_isTold_L325 at h
    refine z_iload 12 dL_isTold_325 rfl ?_
    refine z_aload 11 dL_isTold_327 rfl ?_
    refine z_iconst (v := 1) dL_isTold_329 rfl ?_
    obtain ⟨hf112, h⟩ := h
    obtain ⟨hj114, h⟩ := h
    refine z_iald (j := 1) hf112.1 hf112.2 rfl hj114.1 hj114.2 dL_isTold_330 ?_
    refine z_icmp_ge 623 dL_isTold_331 (by decide) (fun c195 => ?_) (fun c195 => ?_)
    · have h := h.1 c195
      refine z_sub [0, 2, 3, 4, 5, 6, 7, 8, 9, 11] rfl ?_
      exact hK623 a0 a3 a4 a5 a6 a7 a8 a9 a10 a12 S C k n (by omega) (by omega) h
    · have h := h.2 c195
      refine z_aload_n 2 dL_isTold_334 rfl rfl ?_
      refine z_aload 3 dL_isTold_335 rfl ?_
      refine z_iload 12 dL_isTold_337 rfl ?_
      refine z_callSI (st := []) (w_L_stageIn h) zw_800 zw_798 zw_799 zw_29 zy_L_stageIn rfl rfl ⟨Nat.le_of_ble_eq_true rfl, Nat.le_of_ble_eq_true rfl⟩ ⟨(by show k ≤ 339; omega), (by show n ≤ 2266; omega)⟩ (Nat.le_of_ble_eq_true rfl) dL_isTold_339 (fun _ _ hx => hx.elim) (fun r116 S115 h => ?_)
      refine z_widen (k' := k) (n' := n) (Nat.le_of_eq rfl) (Nat.le_of_eq rfl) ?_
      refine z_istore (lv' := [(14, .int r116), (0, .ref a0), (2, .int l2), (3, .ref a3), (4, .ref a4), (5, .ref a5), (6, .ref a6), (7, .ref a7), (8, .ref a8), (9, .ref a9), (10, .ref a10), (11, .ref a11), (12, .ref a12), (13, .int l13)]) dL_isTold_342 (Nat.le_of_ble_eq_true rfl) rfl ?_
      refine z_aload_n 3 dL_isTold_344 rfl rfl ?_
      refine z_aload 4 dL_isTold_345 rfl ?_
      refine z_iload 13 dL_isTold_347 rfl ?_
      obtain ⟨hf117, h⟩ := h
      obtain ⟨j118, hj119, h⟩ := h
      refine z_iald (j := j118) hf117.1 hf117.2 hj119.1 hj119.2.1 hj119.2.2 dL_isTold_349 ?_
      refine z_aload 11 dL_isTold_350 rfl ?_
      refine z_callSI (st := []) (w_L_lay h) zw_809 zw_807 zw_808 zw_29 zy_L_lay rfl rfl ⟨Nat.le_of_ble_eq_true rfl, Nat.le_of_ble_eq_true rfl⟩ ⟨(by show k ≤ 339; omega), (by show n ≤ 2266; omega)⟩ (Nat.le_of_ble_eq_true rfl) dL_isTold_352 (fun _ _ hx => hx.elim) (fun r121 S120 h => ?_)
      refine z_widen (k' := k) (n' := n) (Nat.le_of_eq rfl) (Nat.le_of_eq rfl) ?_
      refine z_istore (lv' := [(15, .int r121), (14, .int r116), (0, .ref a0), (2, .int l2), (3, .ref a3), (4, .ref a4), (5, .ref a5), (6, .ref a6), (7, .ref a7), (8, .ref a8), (9, .ref a9), (10, .ref a10), (11, .ref a11), (12, .ref a12), (13, .int l13)]) dL_isTold_355 (Nat.le_of_ble_eq_true rfl) rfl ?_
      refine z_iload_n 3 dL_isTold_357 rfl rfl ?_
      refine z_iload 0 dL_isTold_358 rfl ?_
      refine z_callSI (st := []) (w_L_low h) zw_313 zw_311 zw_312 zw_29 zy_L_low rfl rfl ⟨Nat.le_of_ble_eq_true rfl, Nat.le_of_ble_eq_true rfl⟩ ⟨(by show k ≤ 339; omega), (by show n ≤ 2266; omega)⟩ (Nat.le_of_ble_eq_true rfl) dL_isTold_360 (fun _ _ hx => hx.elim) (fun r123 S122 h => ?_)
      refine z_widen (k' := k) (n' := n) (Nat.le_of_eq rfl) (Nat.le_of_eq rfl) ?_
      refine z_istore (lv' := [(16, .int r123), (15, .int r121), (14, .int r116), (0, .ref a0), (2, .int l2), (3, .ref a3), (4, .ref a4), (5, .ref a5), (6, .ref a6), (7, .ref a7), (8, .ref a8), (9, .ref a9), (10, .ref a10), (11, .ref a11), (12, .ref a12), (13, .int l13)]) dL_isTold_363 (Nat.le_of_ble_eq_true rfl) rfl ?_
      refine z_iload_n 4 dL_isTold_365 rfl rfl ?_
      refine z_iconst (v := 4) dL_isTold_366 rfl ?_
      refine z_ishr dL_isTold_367 ?_
      refine z_iload 2 dL_isTold_368 rfl ?_
      refine z_callSI (st := []) (w_L_low h) zw_313 zw_311 zw_312 zw_29 zy_L_low rfl rfl ⟨Nat.le_of_ble_eq_true rfl, Nat.le_of_ble_eq_true rfl⟩ ⟨(by show k ≤ 339; omega), (by show n ≤ 2266; omega)⟩ (Nat.le_of_ble_eq_true rfl) dL_isTold_370 (fun _ _ hx => hx.elim) (fun r125 S124 h => ?_)
      refine z_widen (k' := k) (n' := n) (Nat.le_of_eq rfl) (Nat.le_of_eq rfl) ?_
      refine z_istore (lv' := [(17, .int r125), (16, .int r123), (15, .int r121), (14, .int r116), (0, .ref a0), (2, .int l2), (3, .ref a3), (4, .ref a4), (5, .ref a5), (6, .ref a6), (7, .ref a7), (8, .ref a8), (9, .ref a9), (10, .ref a10), (11, .ref a11), (12, .ref a12), (13, .int l13)]) dL_isTold_373 (Nat.le_of_ble_eq_true rfl) rfl ?_
      refine z_aload 14 dL_isTold_375 rfl ?_
      refine z_iload 2 dL_isTold_377 rfl ?_
      refine z_callSI (st := []) (w_L_repeat h) zw_821 zw_819 zw_820 zw_29 zy_L_repeat rfl rfl ⟨Nat.le_of_ble_eq_true rfl, Nat.le_of_ble_eq_true rfl⟩ ⟨(by show k ≤ 339; omega), (by show n ≤ 2266; omega)⟩ (Nat.le_of_ble_eq_true rfl) dL_isTold_379 (fun _ _ hx => hx.elim) (fun r127 S126 h => ?_)
      refine z_widen (k' := k) (n' := n) (Nat.le_of_eq rfl) (Nat.le_of_eq rfl) ?_
      refine z_istore (lv' := [(18, .int r127), (17, .int r125), (16, .int r123), (15, .int r121), (14, .int r116), (0, .ref a0), (2, .int l2), (3, .ref a3), (4, .ref a4), (5, .ref a5), (6, .ref a6), (7, .ref a7), (8, .ref a8), (9, .ref a9), (10, .ref a10), (11, .ref a11), (12, .ref a12), (13, .int l13)]) dL_isTold_382 (Nat.le_of_ble_eq_true rfl) rfl ?_
      refine z_aload_n 5 dL_isTold_384 rfl rfl ?_
      refine z_iload 17 dL_isTold_385 rfl ?_
      refine zz_fl ?_
      refine z_callW (st := []) (w_L_leads h) zw_1212 zw_1210 zw_1211 zw_29 zy_L_leads rfl rfl ⟨Nat.le_of_ble_eq_true rfl, Nat.le_of_ble_eq_true rfl⟩ ⟨(by show k + 1 ≤ 339; omega), (by show n + 6 ≤ 2266; omega)⟩ (Nat.le_of_ble_eq_true rfl) dL_isTold_387 (fun r129 C128 h => ?_)
      refine z_widen (k' := (k + 1)) (n' := (n + 6)) (Nat.le_of_eq rfl) (Nat.le_of_eq rfl) ?_
      refine zz_fl ?_
      refine z_aload 8 dL_isTold_390 rfl ?_
      refine z_iload 17 dL_isTold_392 rfl ?_
      obtain ⟨hf130, h⟩ := h
      obtain ⟨j131, hj132, h⟩ := h
      refine z_iald (j := j131) hf130.1 hf130.2 hj132.1 hj132.2.1 hj132.2.2 dL_isTold_394 ?_
      refine z_bipush (v := 7) dL_isTold_395 rfl ?_
      refine z_iand dL_isTold_397 ?_
      refine z_icmp_ne 554 dL_isTold_398 (by decide) (fun c194 => ?_) (fun c194 => ?_)
      · have h := h.1 c194
        refine z_sub [] rfl ?_
        exact hK554 S126 C128 (k + 1) (n + 6) (by omega) (by omega) h
      · have h := h.2 c194
        refine z_aload_n 5 dL_isTold_401 rfl rfl ?_
        refine z_iload 17 dL_isTold_402 rfl ?_
        refine zz_fl ?_
        refine z_callW (st := []) (w_L_rows h) zw_1219 zw_1217 zw_1218 zw_29 zy_L_rows rfl rfl ⟨Nat.le_of_ble_eq_true rfl, Nat.le_of_ble_eq_true rfl⟩ ⟨(by show (k + 1) + 1 ≤ 339; omega), (by show (n + 6) + 6 ≤ 2266; omega)⟩ (Nat.le_of_ble_eq_true rfl) dL_isTold_404 (fun r134 C133 h => ?_)
        refine z_widen (k' := (k + 2)) (n' := (n + 12)) (Nat.le_of_eq rfl) (Nat.le_of_eq rfl) ?_
        refine zz_fl ?_
        refine z_iload 3 dL_isTold_407 rfl ?_
        refine z_icmp_ne 554 dL_isTold_409 (by decide) (fun c193 => ?_) (fun c193 => ?_)
        · have h := h.1 c193
          refine z_sub [] rfl ?_
          exact hK554 S126 C133 (k + 2) (n + 12) (by omega) (by omega) h
        · have h := h.2 c193
          refine z_aload_n 5 dL_isTold_412 rfl rfl ?_
          refine z_iload 17 dL_isTold_413 rfl ?_
          refine z_iconst (v := 0) dL_isTold_415 rfl ?_
          refine zz_fl ?_
          refine z_callW (st := []) (w_L_leadAt h) zw_1226 zw_1224 zw_1225 zw_29 zy_L_leadAt rfl rfl ⟨Nat.le_of_ble_eq_true rfl, Nat.le_of_ble_eq_true rfl⟩ ⟨(by show (k + 2) + 2 ≤ 339; omega), (by show (n + 12) + 12 ≤ 2266; omega)⟩ (Nat.le_of_ble_eq_true rfl) dL_isTold_416 (fun r136 C135 h => ?_)
          refine z_widen (k' := (k + 4)) (n' := (n + 24)) (Nat.le_of_eq rfl) (Nat.le_of_eq rfl) ?_
          refine zz_fl ?_
          refine z_bipush (v := 10) dL_isTold_419 rfl ?_
          refine z_aload 8 dL_isTold_421 rfl ?_
          refine z_iload 17 dL_isTold_423 rfl ?_
          obtain ⟨j137, hj138, h⟩ := h
          refine z_iald (j := j137) hf130.1 hf130.2 hj138.1 hj138.2.1 hj138.2.2 dL_isTold_425 ?_
          refine z_iconst (v := 3) dL_isTold_426 rfl ?_
          refine z_ishr dL_isTold_427 ?_
          refine z_iconst (v := 3) dL_isTold_428 rfl ?_
          refine z_iand dL_isTold_429 ?_
          refine z_imul dL_isTold_430 ?_
          refine z_aload 8 dL_isTold_431 rfl ?_
          refine z_iload 17 dL_isTold_433 rfl ?_
          obtain ⟨j139, hj140, h⟩ := h
          refine z_iald (j := j139) hf130.1 hf130.2 hj140.1 hj140.2.1 hj140.2.2 dL_isTold_435 ?_
          refine z_iconst (v := 5) dL_isTold_436 rfl ?_
          refine z_ishr dL_isTold_437 ?_
          refine z_iconst (v := 3) dL_isTold_438 rfl ?_
          refine z_iand dL_isTold_439 ?_
          refine z_iadd dL_isTold_440 ?_
          refine z_icmp_ne 554 dL_isTold_441 (by decide) (fun c192 => ?_) (fun c192 => ?_)
          · have h := h.1 c192
            refine z_sub [] rfl ?_
            exact hK554 S126 C135 (k + 4) (n + 24) (by omega) (by omega) h
          · have h := h.2 c192
            refine z_aload_n 5 dL_isTold_444 rfl rfl ?_
            refine z_iload 17 dL_isTold_445 rfl ?_
            refine z_aload 8 dL_isTold_447 rfl ?_
            refine z_iload 17 dL_isTold_449 rfl ?_
            obtain ⟨j141, hj142, h⟩ := h
            refine z_iald (j := j141) hf130.1 hf130.2 hj142.1 hj142.2.1 hj142.2.2 dL_isTold_451 ?_
            refine z_bipush (v := 7) dL_isTold_452 rfl ?_
            refine z_iand dL_isTold_454 ?_
            refine zz_fl ?_
            refine z_callW (st := []) (w_L_leadAt h) zw_1226 zw_1224 zw_1225 zw_29 zy_L_leadAt rfl rfl ⟨Nat.le_of_ble_eq_true rfl, Nat.le_of_ble_eq_true rfl⟩ ⟨(by show (k + 4) + 2 ≤ 339; omega), (by show (n + 24) + 12 ≤ 2266; omega)⟩ (Nat.le_of_ble_eq_true rfl) dL_isTold_455 (fun r144 C143 h => ?_)
            refine z_widen (k' := (k + 6)) (n' := (n + 36)) (Nat.le_of_eq rfl) (Nat.le_of_eq rfl) ?_
            refine zz_fl ?_
            refine z_sipush (v := (-7100)) dL_isTold_458 rfl ?_
            refine z_icmp_ne 554 dL_isTold_461 (by decide) (fun c191 => ?_) (fun c191 => ?_)
            · have h := h.1 c191
              refine z_sub [] rfl ?_
              exact hK554 S126 C143 (k + 6) (n + 36) (by omega) (by omega) h
            · have h := h.2 c191
              refine z_aload_n 5 dL_isTold_464 rfl rfl ?_
              refine z_iload 17 dL_isTold_465 rfl ?_
              refine z_iload 2 dL_isTold_467 rfl ?_
              refine zz_fl ?_
              refine z_callW (st := []) (w_L_rowAt h) zw_1233 zw_1231 zw_1232 zw_29 zy_L_rowAt rfl rfl ⟨Nat.le_of_ble_eq_true rfl, Nat.le_of_ble_eq_true rfl⟩ ⟨(by show (k + 6) + 2 ≤ 339; omega), (by show (n + 36) + 12 ≤ 2266; omega)⟩ (Nat.le_of_ble_eq_true rfl) dL_isTold_469 (fun r146 C145 h => ?_)
              refine z_widen (k' := (k + 8)) (n' := (n + 48)) (Nat.le_of_eq rfl) (Nat.le_of_eq rfl) ?_
              refine zz_fl ?_
              refine z_aload 15 dL_isTold_472 rfl ?_
              refine z_iload 2 dL_isTold_474 rfl ?_
              obtain ⟨hf147, h⟩ := h
              obtain ⟨j148, hj149, h⟩ := h
              refine z_iald (j := j148) hf147.1 hf147.2 hj149.1 hj149.2.1 hj149.2.2 dL_isTold_476 ?_
              refine z_iload 4 dL_isTold_477 rfl ?_
              refine z_callSI (st := [.int r146]) (w_L_number h) zw_1176 zw_1174 zw_1175 zw_29 zy_L_number rfl rfl ⟨Nat.le_of_ble_eq_true rfl, Nat.le_of_ble_eq_true rfl⟩ ⟨(by show (k + 8) ≤ 339; omega), (by show (n + 48) ≤ 2266; omega)⟩ (Nat.le_of_ble_eq_true rfl) dL_isTold_479 (fun _ _ hx => hx.elim) (fun r151 S150 h => ?_)
              refine z_widen (k' := (k + 8)) (n' := (n + 48)) (Nat.le_of_eq rfl) (Nat.le_of_eq rfl) ?_
              refine z_icmp_ne 554 dL_isTold_482 (by decide) (fun c190 => ?_) (fun c190 => ?_)
              · have h := h.1 c190
                refine z_sub [] rfl ?_
                exact hK554 S150 C145 (k + 8) (n + 48) (by omega) (by omega) h
              · have h := h.2 c190
                refine z_aload_n 5 dL_isTold_485 rfl rfl ?_
                refine z_iload 17 dL_isTold_486 rfl ?_
                refine z_iload 2 dL_isTold_488 rfl ?_
                refine z_iload 1 dL_isTold_490 rfl ?_
                refine zz_fl ?_
                refine z_callW (st := []) (w_L_bellAt h) zw_1240 zw_1238 zw_1239 zw_29 zy_L_bellAt rfl rfl ⟨Nat.le_of_ble_eq_true rfl, Nat.le_of_ble_eq_true rfl⟩ ⟨(by show (k + 8) + 3 ≤ 339; omega), (by show (n + 48) + 18 ≤ 2266; omega)⟩ (Nat.le_of_ble_eq_true rfl) dL_isTold_492 (fun r153 C152 h => ?_)
                refine z_widen (k' := (k + 11)) (n' := (n + 66)) (Nat.le_of_eq rfl) (Nat.le_of_eq rfl) ?_
                refine zz_fl ?_
                refine z_aload 15 dL_isTold_495 rfl ?_
                refine z_iload 2 dL_isTold_497 rfl ?_
                obtain ⟨hf154, h⟩ := h
                obtain ⟨j155, hj156, h⟩ := h
                refine z_iald (j := j155) hf154.1 hf154.2 hj156.1 hj156.2.1 hj156.2.2 dL_isTold_499 ?_
                refine z_iload 4 dL_isTold_500 rfl ?_
                refine z_iload 1 dL_isTold_502 rfl ?_
                refine z_callSI (st := [.int r153]) (w_L_bell h) zw_1074 zw_1072 zw_1073 zw_29 zy_L_bell rfl rfl ⟨Nat.le_of_ble_eq_true rfl, Nat.le_of_ble_eq_true rfl⟩ ⟨(by show (k + 11) ≤ 339; omega), (by show (n + 66) ≤ 2266; omega)⟩ (Nat.le_of_ble_eq_true rfl) dL_isTold_504 (fun _ _ hx => hx.elim) (fun r158 S157 h => ?_)
                refine z_widen (k' := (k + 11)) (n' := (n + 66)) (Nat.le_of_eq rfl) (Nat.le_of_eq rfl) ?_
                refine z_icmp_ne 554 dL_isTold_507 (by decide) (fun c189 => ?_) (fun c189 => ?_)
                · have h := h.1 c189
                  refine z_sub [] rfl ?_
                  exact hK554 S157 C152 (k + 11) (n + 66) (by omega) (by omega) h
                · have h := h.2 c189
                  refine z_aload_n 5 dL_isTold_510 rfl rfl ?_
                  refine z_iload 17 dL_isTold_511 rfl ?_
                  refine z_iload 3 dL_isTold_513 rfl ?_
                  refine zz_fl ?_
                  refine z_callW (st := []) (w_L_rowAt h) zw_1233 zw_1231 zw_1232 zw_29 zy_L_rowAt rfl rfl ⟨Nat.le_of_ble_eq_true rfl, Nat.le_of_ble_eq_true rfl⟩ ⟨(by show (k + 11) + 2 ≤ 339; omega), (by show (n + 66) + 12 ≤ 2266; omega)⟩ (Nat.le_of_ble_eq_true rfl) dL_isTold_515 (fun r160 C159 h => ?_)
                  refine z_widen (k' := (k + 13)) (n' := (n + 78)) (Nat.le_of_eq rfl) (Nat.le_of_eq rfl) ?_
                  refine zz_fl ?_
                  refine z_sipush (v := (-7100)) dL_isTold_518 rfl ?_
                  refine z_icmp_ne 554 dL_isTold_521 (by decide) (fun c188 => ?_) (fun c188 => ?_)
                  · have h := h.1 c188
                    refine z_sub [] rfl ?_
                    exact hK554 S157 C159 (k + 13) (n + 78) (by omega) (by omega) h
                  · have h := h.2 c188
                    refine z_aload_n 5 dL_isTold_524 rfl rfl ?_
                    refine z_iload 17 dL_isTold_525 rfl ?_
                    refine z_iload 2 dL_isTold_527 rfl ?_
                    refine z_iload 4 dL_isTold_529 rfl ?_
                    refine zz_fl ?_
                    refine z_callW (st := []) (w_L_bellAt h) zw_1240 zw_1238 zw_1239 zw_29 zy_L_bellAt rfl rfl ⟨Nat.le_of_ble_eq_true rfl, Nat.le_of_ble_eq_true rfl⟩ ⟨(by show (k + 13) + 3 ≤ 339; omega), (by show (n + 78) + 18 ≤ 2266; omega)⟩ (Nat.le_of_ble_eq_true rfl) dL_isTold_531 (fun r162 C161 h => ?_)
                    refine z_widen (k' := (k + 16)) (n' := (n + 96)) (Nat.le_of_eq rfl) (Nat.le_of_eq rfl) ?_
                    refine zz_fl ?_
                    refine z_sipush (v := (-7100)) dL_isTold_534 rfl ?_
                    refine z_icmp_ne 554 dL_isTold_537 (by decide) (fun c187 => ?_) (fun c187 => ?_)
                    · have h := h.1 c187
                      refine z_sub [] rfl ?_
                      exact hK554 S157 C161 (k + 16) (n + 96) (by omega) (by omega) h
                    · have h := h.2 c187
                      refine z_aload_n 5 dL_isTold_540 rfl rfl ?_
                      refine z_iload 17 dL_isTold_541 rfl ?_
                      refine z_iconst (v := (-1)) dL_isTold_543 rfl ?_
                      refine z_iconst (v := 0) dL_isTold_544 rfl ?_
                      refine zz_fl ?_
                      refine z_callW (st := []) (w_L_bellAt h) zw_1240 zw_1238 zw_1239 zw_29 zy_L_bellAt rfl rfl ⟨Nat.le_of_ble_eq_true rfl, Nat.le_of_ble_eq_true rfl⟩ ⟨(by show (k + 16) + 3 ≤ 339; omega), (by show (n + 96) + 18 ≤ 2266; omega)⟩ (Nat.le_of_ble_eq_true rfl) dL_isTold_545 (fun r164 C163 h => ?_)
                      refine z_widen (k' := (k + 19)) (n' := (n + 114)) (Nat.le_of_eq rfl) (Nat.le_of_eq rfl) ?_
                      refine zz_fl ?_
                      refine z_sipush (v := (-7100)) dL_isTold_548 rfl ?_
                      refine z_icmp_eq 556 dL_isTold_551 (by decide) (fun c186 => ?_) (fun c186 => ?_)
                      · have h := h.1 c186
                        refine z_aload_n 5 dL_isTold_556 rfl rfl ?_
                        refine z_iload 17 dL_isTold_557 rfl ?_
                        refine zz_fl ?_
                        refine z_callW (st := []) (w_L_isTrue h) zw_1252 zw_1250 zw_1251 zw_29 zy_L_isTrue rfl rfl ⟨Nat.le_of_ble_eq_true rfl, Nat.le_of_ble_eq_true rfl⟩ ⟨(by show (k + 19) + 1 ≤ 339; omega), (by show (n + 114) + 6 ≤ 2266; omega)⟩ (Nat.le_of_ble_eq_true rfl) dL_isTold_559 (fun r166 C165 h => ?_)
                        refine z_widen (k' := (k + 20)) (n' := (n + 120)) (Nat.le_of_eq rfl) (Nat.le_of_eq rfl) ?_
                        refine zz_fl ?_
                        refine z_iload 0 dL_isTold_562 rfl ?_
                        refine z_if_ge 571 dL_isTold_564 (by decide) (fun c185 => ?_) (fun c185 => ?_)
                        · have h := h.1 c185
                          refine z_iconst (v := 0) dL_isTold_571 rfl ?_
                          refine z_sub [5, 6, 7, 8, 9, 10, 11, 12, 13, 14, 15, 16, 17, 4, 3, 0] rfl ?_
                          refine w_L_isTold_J572 (K := (K - m325 * 22)) (N := (N - m325 * 132)) (by omega) (by omega) (fun a0 l2 a3 a4 a5 a6 a7 a8 a9 a10 a11 a12 l13 S C k181 n181 hk181 hn181 h => ?_) (fun S C k182 n182 hk182 hn182 h => ?_) a0 l2 a3 a4 a5 a6 a7 a8 a9 a10 a11 a12 l13 r116 r121 r127 0 r166 S157 C165 (k + 20) (n + 120) (by omega) (by omega) h
                          · exact ih k181 n181 (by omega) (by omega) a0 l2 a3 a4 a5 a6 a7 a8 a9 a10 a11 a12 l13 S C h
                          · exact hK615 S C k182 n182 (by omega) (by omega) h
                        · have h := h.2 c185
                          refine z_iconst (v := 1) dL_isTold_567 rfl ?_
                          refine z_goto 572 dL_isTold_568 (by decide) ?_
                          refine z_sub [5, 6, 7, 8, 9, 10, 11, 12, 13, 14, 15, 16, 17, 4, 3, 0] rfl ?_
                          refine w_L_isTold_J572 (K := (K - m325 * 22)) (N := (N - m325 * 132)) (by omega) (by omega) (fun a0 l2 a3 a4 a5 a6 a7 a8 a9 a10 a11 a12 l13 S C k183 n183 hk183 hn183 h => ?_) (fun S C k184 n184 hk184 hn184 h => ?_) a0 l2 a3 a4 a5 a6 a7 a8 a9 a10 a11 a12 l13 r116 r121 r127 1 r166 S157 C165 (k + 20) (n + 120) (by omega) (by omega) h
                          · exact ih k183 n183 (by omega) (by omega) a0 l2 a3 a4 a5 a6 a7 a8 a9 a10 a11 a12 l13 S C h
                          · exact hK615 S C k184 n184 (by omega) (by omega) h
                      · have h := h.2 c186
                        refine z_sub [] rfl ?_
                        exact hK554 S157 C163 (k + 19) (n + 114) (by omega) (by omega) h
set_option maxRecDepth 20000 in
set_option maxHeartbeats 4000000 in
theorem w_L_isTold_J685 {E : zE} {B626 : Nat → Nat → Nat → Nat → Nat → Nat → Nat → Nat → Nat → Nat → Int32 → zS → zS → Prop} {B733 : zS → zS → Prop} {Q : Int32 → zS → zS → Prop} {X : String → zS → Prop} {K N : Nat} (hKC : K ≤ 339) (hNS : N ≤ 2266) (hB626 : ∀ (a0 : Nat) (a3 : Nat) (a4 : Nat) (a5 : Nat) (a6 : Nat) (a7 : Nat) (a8 : Nat) (a9 : Nat) (a10 : Nat) (a12 : Nat) (l13 : Int32) (S C : zS) (k n : Nat), k ≤ K → n ≤ N → B626 a0 a3 a4 a5 a6 a7 a8 a9 a10 a12 l13 S C → zJ E (RL, cL_isTold, 19, (some .boolean), false, [], zTr) ({ frames := 10, cells := 339, slots := 2266, locals := 173 } : Room) (zY E Q) (fun _ _ _ => False) 626 [(0, .ref a0), (3, .ref a3), (4, .ref a4), (5, .ref a5), (6, .ref a6), (7, .ref a7), (8, .ref a8), (9, .ref a9), (10, .ref a10), (12, .ref a12), (13, .int l13)] [] (zPl E C) S k n) (hB733 : ∀ (S C : zS) (k n : Nat), k ≤ K → n ≤ N → B733  S C → zJ E (RL, cL_isTold, 19, (some .boolean), false, [], zTr) ({ frames := 10, cells := 339, slots := 2266, locals := 173 } : Room) (zY E Q) (fun _ _ _ => False) 733 [] [] (zPl E C) S k n) (a0 : Nat) (a3 : Nat) (a4 : Nat) (a5 : Nat) (a6 : Nat) (a7 : Nat) (a8 : Nat) (a9 : Nat) (a10 : Nat) (a12 : Nat) (l13 : Int32) (l100 : Int32) (l101 : Int32) (S C : zS) (k n : Nat) (hk : k + 3 ≤ K) (hn : n + 18 ≤ N) (h : p_L_isTold_J685 E B626 B733 Q X a0 a3 a4 a5 a6 a7 a8 a9 a10 a12 l13 l100 l101 S C) : zJ E (RL, cL_isTold, 19, (some .boolean), false, [], zTr) ({ frames := 10, cells := 339, slots := 2266, locals := 173 } : Room) (zY E Q) (fun _ _ _ => False) 685 [(0, .ref a0), (3, .ref a3), (4, .ref a4), (5, .ref a5), (6, .ref a6), (7, .ref a7), (8, .ref a8), (9, .ref a9), (10, .ref a10), (12, .ref a12), (13, .int l13)] [.int l100, .int l101] (zPl E C) S k n := by
  unfold p_L_isTold_J685 at h
  refine z_icmp_ne 733 dL_isTold_685 (by decide) (fun c232 => ?_) (fun c232 => ?_)
  · have h := h.1 c232
    refine z_sub [] rfl ?_
    exact hB733 S C k n (by omega) (by omega) h
  · have h := h.2 c232
    refine z_aload_n 0 dL_isTold_688 rfl rfl ?_
    refine z_iload 10 dL_isTold_689 rfl ?_
    refine zz_fl ?_
    refine z_callW (st := []) (w_L_late h) zw_1287 zw_1285 zw_1286 zw_29 zy_L_late rfl rfl ⟨Nat.le_of_ble_eq_true rfl, Nat.le_of_ble_eq_true rfl⟩ ⟨(by show k + 1 ≤ 339; omega), (by show n + 6 ≤ 2266; omega)⟩ (Nat.le_of_ble_eq_true rfl) dL_isTold_691 (fun r216 C215 h => ?_)
    refine z_widen (k' := (k + 1)) (n' := (n + 6)) (Nat.le_of_eq rfl) (Nat.le_of_eq rfl) ?_
    refine zz_fl ?_
    refine z_aload 7 dL_isTold_694 rfl ?_
    refine z_iload 10 dL_isTold_696 rfl ?_
    obtain ⟨hf217, h⟩ := h
    obtain ⟨j218, hj219, h⟩ := h
    refine z_iald (j := j218) hf217.1 hf217.2 hj219.1 hj219.2.1 hj219.2.2 dL_isTold_698 ?_
    refine z_icmp_ne 733 dL_isTold_699 (by decide) (fun c231 => ?_) (fun c231 => ?_)
    · have h := h.1 c231
      refine z_sub [] rfl ?_
      exact hB733 S C215 (k + 1) (n + 6) (by omega) (by omega) h
    · have h := h.2 c231
      refine z_aload_n 0 dL_isTold_702 rfl rfl ?_
      refine z_iload 10 dL_isTold_703 rfl ?_
      refine zz_fl ?_
      refine z_callW (st := []) (w_L_early h) zw_1294 zw_1292 zw_1293 zw_29 zy_L_early rfl rfl ⟨Nat.le_of_ble_eq_true rfl, Nat.le_of_ble_eq_true rfl⟩ ⟨(by show (k + 1) + 1 ≤ 339; omega), (by show (n + 6) + 6 ≤ 2266; omega)⟩ (Nat.le_of_ble_eq_true rfl) dL_isTold_705 (fun r221 C220 h => ?_)
      refine z_widen (k' := (k + 2)) (n' := (n + 12)) (Nat.le_of_eq rfl) (Nat.le_of_eq rfl) ?_
      refine zz_fl ?_
      refine z_aload 7 dL_isTold_708 rfl ?_
      refine z_bipush (v := 6) dL_isTold_710 rfl ?_
      refine z_iload 10 dL_isTold_712 rfl ?_
      refine z_iadd dL_isTold_714 ?_
      obtain ⟨j222, hj223, h⟩ := h
      refine z_iald (j := j222) hf217.1 hf217.2 hj223.1 hj223.2.1 hj223.2.2 dL_isTold_715 ?_
      refine z_icmp_ne 733 dL_isTold_716 (by decide) (fun c230 => ?_) (fun c230 => ?_)
      · have h := h.1 c230
        refine z_sub [] rfl ?_
        exact hB733 S C220 (k + 2) (n + 12) (by omega) (by omega) h
      · have h := h.2 c230
        refine z_aload_n 0 dL_isTold_719 rfl rfl ?_
        refine z_iload 10 dL_isTold_720 rfl ?_
        refine zz_fl ?_
        refine z_callW (st := []) (w_L_errors h) zw_1301 zw_1299 zw_1300 zw_29 zy_L_errors rfl rfl ⟨Nat.le_of_ble_eq_true rfl, Nat.le_of_ble_eq_true rfl⟩ ⟨(by show (k + 2) + 1 ≤ 339; omega), (by show (n + 12) + 6 ≤ 2266; omega)⟩ (Nat.le_of_ble_eq_true rfl) dL_isTold_722 (fun r225 C224 h => ?_)
        refine z_widen (k' := (k + 3)) (n' := (n + 18)) (Nat.le_of_eq rfl) (Nat.le_of_eq rfl) ?_
        refine zz_fl ?_
        refine z_aload 8 dL_isTold_725 rfl ?_
        refine z_iload 10 dL_isTold_727 rfl ?_
        obtain ⟨hf226, h⟩ := h
        obtain ⟨j227, hj228, h⟩ := h
        refine z_iald (j := j227) hf226.1 hf226.2 hj228.1 hj228.2.1 hj228.2.2 dL_isTold_729 ?_
        refine z_icmp_eq 735 dL_isTold_730 (by decide) (fun c229 => ?_) (fun c229 => ?_)
        · have h := h.1 c229
          refine z_iinc (v := (l13 + 1)) (lv' := [(13, .int (l13 + 1)), (0, .ref a0), (3, .ref a3), (4, .ref a4), (5, .ref a5), (6, .ref a6), (7, .ref a7), (8, .ref a8), (9, .ref a9), (10, .ref a10), (12, .ref a12)]) 10 dL_isTold_735 rfl rfl (Nat.le_of_ble_eq_true rfl) rfl ?_
          refine z_goto 626 dL_isTold_738 (by decide) ?_
          refine z_sub [1, 2, 3, 4, 5, 6, 7, 8, 9, 10, 0] rfl ?_
          exact hB626 a0 a3 a4 a5 a6 a7 a8 a9 a10 a12 (l13 + 1) S C224 (k + 3) (n + 18) (by omega) (by omega) h
        · have h := h.2 c229
          refine z_sub [] rfl ?_
          exact hB733 S C224 (k + 3) (n + 18) (by omega) (by omega) h
set_option maxRecDepth 20000 in
set_option maxHeartbeats 4000000 in
theorem w_L_isTold_L626 {E : zE} {K733 : zS → zS → Prop} {K741 : Nat → Nat → Nat → Nat → Nat → Nat → zS → zS → Prop} {Q : Int32 → zS → zS → Prop} {X : String → zS → Prop} {K N : Nat} (hKC : K ≤ 339) (hNS : N ≤ 2266) (hK733 : ∀ (S C : zS) (k n : Nat), k ≤ K → n ≤ N → K733  S C → zJ E (RL, cL_isTold, 19, (some .boolean), false, [], zTr) ({ frames := 10, cells := 339, slots := 2266, locals := 173 } : Room) (zY E Q) (fun _ _ _ => False) 733 [] [] (zPl E C) S k n) (hK741 : ∀ (a0 : Nat) (a3 : Nat) (a4 : Nat) (a5 : Nat) (a8 : Nat) (a12 : Nat) (S C : zS) (k n : Nat), k ≤ K → n ≤ N → K741 a0 a3 a4 a5 a8 a12 S C → zJ E (RL, cL_isTold, 19, (some .boolean), false, [], zTr) ({ frames := 10, cells := 339, slots := 2266, locals := 173 } : Room) (zY E Q) (fun _ _ _ => False) 741 [(0, .ref a0), (3, .ref a3), (4, .ref a4), (5, .ref a5), (8, .ref a8), (12, .ref a12)] [] (zPl E C) S k n) : ∀ (m626 k n : Nat), k + m626 * 8 ≤ K → n + m626 * 48 ≤ N → ∀ (a0 : Nat) (a3 : Nat) (a4 : Nat) (a5 : Nat) (a6 : Nat) (a7 : Nat) (a8 : Nat) (a9 : Nat) (a10 : Nat) (a12 : Nat) (l13 : Int32) (S C : zS), p_L_isTold_L626 E K733 K741 Q X m626 a0 a3 a4 a5 a6 a7 a8 a9 a10 a12 l13 S C → zJ E (RL, cL_isTold, 19, (some .boolean), false, [], zTr) ({ frames := 10, cells := 339, slots := 2266, locals := 173 } : Room) (zY E Q) (fun _ _ _ => False) 626 [(0, .ref a0), (3, .ref a3), (4, .ref a4), (5, .ref a5), (6, .ref a6), (7, .ref a7), (8, .ref a8), (9, .ref a9), (10, .ref a10), (12, .ref a12), (13, .int l13)] [] (zPl E C) S k n := by
  intro m626
  induction m626 with
  | zero => intro k n hk hn a0 a3 a4 a5 a6 a7 a8 a9 a10 a12 l13 S C h; unfold p_L_isTold_L626 at h; exact h.elim
  | succ m626 ih =>
    intro k n hk hn a0 a3 a4 a5 a6 a7 a8 a9 a10 a12 l13 S C h
    unfold p_L_isTold_L626 at h
    refine z_iload 10 dL_isTold_626 rfl ?_
    refine z_bipush (v := 6) dL_isTold_628 rfl ?_
    refine z_icmp_ge 741 dL_isTold_630 (by decide) (fun c240 => ?_) (fun c240 => ?_)
    · have h := h.1 c240
      refine z_sub [0, 1, 2, 3, 6, 9] rfl ?_
      exact hK741 a0 a3 a4 a5 a8 a12 S C k n (by omega) (by omega) h
    · have h := h.2 c240
      refine z_aload_n 0 dL_isTold_633 rfl rfl ?_
      refine z_iload 10 dL_isTold_634 rfl ?_
      refine z_iconst (v := 0) dL_isTold_636 rfl ?_
      refine zz_fl ?_
      refine z_callW (st := []) (w_L_wear h) zw_1273 zw_1271 zw_1272 zw_29 zy_L_wear rfl rfl ⟨Nat.le_of_ble_eq_true rfl, Nat.le_of_ble_eq_true rfl⟩ ⟨(by show k + 2 ≤ 339; omega), (by show n + 12 ≤ 2266; omega)⟩ (Nat.le_of_ble_eq_true rfl) dL_isTold_637 (fun r202 C201 h => ?_)
      refine z_widen (k' := (k + 2)) (n' := (n + 12)) (Nat.le_of_eq rfl) (Nat.le_of_eq rfl) ?_
      refine zz_fl ?_
      refine z_aload 4 dL_isTold_640 rfl ?_
      refine z_iload 10 dL_isTold_642 rfl ?_
      obtain ⟨hf203, h⟩ := h
      obtain ⟨j204, hj205, h⟩ := h
      refine z_iald (j := j204) hf203.1 hf203.2 hj205.1 hj205.2.1 hj205.2.2 dL_isTold_644 ?_
      refine z_icmp_ne 733 dL_isTold_645 (by decide) (fun c239 => ?_) (fun c239 => ?_)
      · have h := h.1 c239
        refine z_sub [] rfl ?_
        exact hK733 S C201 (k + 2) (n + 12) (by omega) (by omega) h
      · have h := h.2 c239
        refine z_aload_n 0 dL_isTold_648 rfl rfl ?_
        refine z_iload 10 dL_isTold_649 rfl ?_
        refine z_iconst (v := 1) dL_isTold_651 rfl ?_
        refine zz_fl ?_
        refine z_callW (st := []) (w_L_wear h) zw_1273 zw_1271 zw_1272 zw_29 zy_L_wear rfl rfl ⟨Nat.le_of_ble_eq_true rfl, Nat.le_of_ble_eq_true rfl⟩ ⟨(by show (k + 2) + 2 ≤ 339; omega), (by show (n + 12) + 12 ≤ 2266; omega)⟩ (Nat.le_of_ble_eq_true rfl) dL_isTold_652 (fun r207 C206 h => ?_)
        refine z_widen (k' := (k + 4)) (n' := (n + 24)) (Nat.le_of_eq rfl) (Nat.le_of_eq rfl) ?_
        refine zz_fl ?_
        refine z_aload 4 dL_isTold_655 rfl ?_
        refine z_bipush (v := 6) dL_isTold_657 rfl ?_
        refine z_iload 10 dL_isTold_659 rfl ?_
        refine z_iadd dL_isTold_661 ?_
        obtain ⟨j208, hj209, h⟩ := h
        refine z_iald (j := j208) hf203.1 hf203.2 hj209.1 hj209.2.1 hj209.2.2 dL_isTold_662 ?_
        refine z_icmp_ne 733 dL_isTold_663 (by decide) (fun c238 => ?_) (fun c238 => ?_)
        · have h := h.1 c238
          refine z_sub [] rfl ?_
          exact hK733 S C206 (k + 4) (n + 24) (by omega) (by omega) h
        · have h := h.2 c238
          refine z_aload_n 0 dL_isTold_666 rfl rfl ?_
          refine z_iload 10 dL_isTold_667 rfl ?_
          refine zz_fl ?_
          refine z_callW (st := []) (w_L_isIn h) zw_1280 zw_1278 zw_1279 zw_29 zy_L_isIn rfl rfl ⟨Nat.le_of_ble_eq_true rfl, Nat.le_of_ble_eq_true rfl⟩ ⟨(by show (k + 4) + 1 ≤ 339; omega), (by show (n + 24) + 6 ≤ 2266; omega)⟩ (Nat.le_of_ble_eq_true rfl) dL_isTold_669 (fun r211 C210 h => ?_)
          refine z_widen (k' := (k + 5)) (n' := (n + 30)) (Nat.le_of_eq rfl) (Nat.le_of_eq rfl) ?_
          refine zz_fl ?_
          refine z_aload 5 dL_isTold_672 rfl ?_
          refine z_iload 10 dL_isTold_674 rfl ?_
          obtain ⟨hf212, h⟩ := h
          obtain ⟨j213, hj214, h⟩ := h
          refine z_iald (j := j213) hf212.1 hf212.2 hj214.1 hj214.2.1 hj214.2.2 dL_isTold_676 ?_
          refine z_if_ne 684 dL_isTold_677 (by decide) (fun c237 => ?_) (fun c237 => ?_)
          · have h := h.1 c237
            refine z_iconst (v := 0) dL_isTold_684 rfl ?_
            refine w_L_isTold_J685 (K := (K - m626 * 8)) (N := (N - m626 * 48)) (by omega) (by omega) (fun a0 a3 a4 a5 a6 a7 a8 a9 a10 a12 l13 S C k233 n233 hk233 hn233 h => ?_) (fun S C k234 n234 hk234 hn234 h => ?_) a0 a3 a4 a5 a6 a7 a8 a9 a10 a12 l13 0 r211 S C210 (k + 5) (n + 30) (by omega) (by omega) h
            · exact ih k233 n233 (by omega) (by omega) a0 a3 a4 a5 a6 a7 a8 a9 a10 a12 l13 S C h
            · exact hK733 S C k234 n234 (by omega) (by omega) h
          · have h := h.2 c237
            refine z_iconst (v := 1) dL_isTold_680 rfl ?_
            refine z_goto 685 dL_isTold_681 (by decide) ?_
            refine w_L_isTold_J685 (K := (K - m626 * 8)) (N := (N - m626 * 48)) (by omega) (by omega) (fun a0 a3 a4 a5 a6 a7 a8 a9 a10 a12 l13 S C k235 n235 hk235 hn235 h => ?_) (fun S C k236 n236 hk236 hn236 h => ?_) a0 a3 a4 a5 a6 a7 a8 a9 a10 a12 l13 1 r211 S C210 (k + 5) (n + 30) (by omega) (by omega) h
            · exact ih k235 n235 (by omega) (by omega) a0 a3 a4 a5 a6 a7 a8 a9 a10 a12 l13 S C h
            · exact hK733 S C k236 n236 (by omega) (by omega) h
set_option maxRecDepth 20000 in
set_option maxHeartbeats 4000000 in
theorem w_L_isTold_L830 {E : zE} {K868 : zS → zS → Prop} {K876 : Nat → Nat → Nat → Nat → Nat → Nat → Int32 → zS → zS → Prop} {Q : Int32 → zS → zS → Prop} {X : String → zS → Prop} {K N : Nat} (hKC : K ≤ 339) (hNS : N ≤ 2266) (hK868 : ∀ (S C : zS) (k n : Nat), k ≤ K → n ≤ N → K868  S C → zJ E (RL, cL_isTold, 19, (some .boolean), false, [], zTr) ({ frames := 10, cells := 339, slots := 2266, locals := 173 } : Room) (zY E Q) (fun _ _ _ => False) 868 [] [] (zPl E C) S k n) (hK876 : ∀ (a0 : Nat) (a3 : Nat) (a4 : Nat) (a5 : Nat) (a8 : Nat) (a12 : Nat) (l13 : Int32) (S C : zS) (k n : Nat), k ≤ K → n ≤ N → K876 a0 a3 a4 a5 a8 a12 l13 S C → zJ E (RL, cL_isTold, 19, (some .boolean), false, [], zTr) ({ frames := 10, cells := 339, slots := 2266, locals := 173 } : Room) (zY E Q) (fun _ _ _ => False) 876 [(0, .ref a0), (3, .ref a3), (4, .ref a4), (5, .ref a5), (8, .ref a8), (12, .ref a12), (13, .int l13)] [] (zPl E C) S k n) : ∀ (m830 k n : Nat), k + m830 * 2 ≤ K → n + m830 * 12 ≤ N → ∀ (a0 : Nat) (a3 : Nat) (a4 : Nat) (a5 : Nat) (a8 : Nat) (a12 : Nat) (l13 : Int32) (l14 : Int32) (S C : zS), p_L_isTold_L830 E K868 K876 Q X m830 a0 a3 a4 a5 a8 a12 l13 l14 S C → zJ E (RL, cL_isTold, 19, (some .boolean), false, [], zTr) ({ frames := 10, cells := 339, slots := 2266, locals := 173 } : Room) (zY E Q) (fun _ _ _ => False) 830 [(0, .ref a0), (3, .ref a3), (4, .ref a4), (5, .ref a5), (8, .ref a8), (12, .ref a12), (13, .int l13), (14, .int l14)] [] (zPl E C) S k n := by
  intro m830
  induction m830 with
  | zero => intro k n hk hn a0 a3 a4 a5 a8 a12 l13 l14 S C h; unfold p_L_isTold_L830 at h; exact h.elim
  | succ m830 ih =>
    intro k n hk hn a0 a3 a4 a5 a8 a12 l13 l14 S C h
    unfold p_L_isTold_L830 at h
    refine z_iload 7 dL_isTold_830 rfl ?_
    refine z_aload 3 dL_isTold_832 rfl ?_
    refine z_iload 6 dL_isTold_834 rfl ?_
    obtain ⟨hf264, h⟩ := h
    obtain ⟨j265, hj266, h⟩ := h
    refine z_iald (j := j265) hf264.1 hf264.2 hj266.1 hj266.2.1 hj266.2.2 dL_isTold_836 ?_
    refine z_bipush (v := 7) dL_isTold_837 rfl ?_
    refine z_iand dL_isTold_839 ?_
    refine z_icmp_ge 876 dL_isTold_840 (by decide) (fun c272 => ?_) (fun c272 => ?_)
    · have h := h.1 c272
      refine z_sub [0, 1, 2, 3, 4, 5, 6] rfl ?_
      exact hK876 a0 a3 a4 a5 a8 a12 l13 S C k n (by omega) (by omega) h
    · have h := h.2 c272
      refine z_aload_n 0 dL_isTold_843 rfl rfl ?_
      refine z_iload 6 dL_isTold_844 rfl ?_
      refine z_iload 7 dL_isTold_846 rfl ?_
      refine zz_fl ?_
      refine z_callW (st := []) (w_L_plannedAt h) zw_1323 zw_1321 zw_1322 zw_29 zy_L_plannedAt rfl rfl ⟨Nat.le_of_ble_eq_true rfl, Nat.le_of_ble_eq_true rfl⟩ ⟨(by show k + 2 ≤ 339; omega), (by show n + 12 ≤ 2266; omega)⟩ (Nat.le_of_ble_eq_true rfl) dL_isTold_848 (fun r268 C267 h => ?_)
      refine z_widen (k' := (k + 2)) (n' := (n + 12)) (Nat.le_of_eq rfl) (Nat.le_of_eq rfl) ?_
      refine zz_fl ?_
      refine z_aload 3 dL_isTold_851 rfl ?_
      refine z_iload 6 dL_isTold_853 rfl ?_
      obtain ⟨j269, hj270, h⟩ := h
      refine z_iald (j := j269) hf264.1 hf264.2 hj270.1 hj270.2.1 hj270.2.2 dL_isTold_855 ?_
      refine z_iconst (v := 3) dL_isTold_856 rfl ?_
      refine z_iconst (v := 2) dL_isTold_857 rfl ?_
      refine z_iload 7 dL_isTold_858 rfl ?_
      refine z_imul dL_isTold_860 ?_
      refine z_iadd dL_isTold_861 ?_
      refine z_ishr dL_isTold_862 ?_
      refine z_iconst (v := 3) dL_isTold_863 rfl ?_
      refine z_iand dL_isTold_864 ?_
      refine z_icmp_eq 870 dL_isTold_865 (by decide) (fun c271 => ?_) (fun c271 => ?_)
      · have h := h.1 c271
        refine z_iinc (v := (l14 + 1)) (lv' := [(14, .int (l14 + 1)), (0, .ref a0), (3, .ref a3), (4, .ref a4), (5, .ref a5), (8, .ref a8), (12, .ref a12), (13, .int l13)]) 7 dL_isTold_870 rfl rfl (Nat.le_of_ble_eq_true rfl) rfl ?_
        refine z_goto 830 dL_isTold_873 (by decide) ?_
        refine z_sub [1, 2, 3, 4, 5, 6, 7, 0] rfl ?_
        exact ih (k + 2) (n + 12) (by omega) (by omega) a0 a3 a4 a5 a8 a12 l13 (l14 + 1) S C267 h
      · have h := h.2 c271
        refine z_sub [] rfl ?_
        exact hK868 S C267 (k + 2) (n + 12) (by omega) (by omega) h
set_option maxRecDepth 20000 in
set_option maxHeartbeats 4000000 in
theorem w_L_isTold_L747 {E : zE} {K825 : zS → zS → Prop} {K868 : zS → zS → Prop} {K882 : Nat → Nat → zS → zS → Prop} {Q : Int32 → zS → zS → Prop} {X : String → zS → Prop} {K N : Nat} (hKC : K ≤ 339) (hNS : N ≤ 2266) (hK825 : ∀ (S C : zS) (k n : Nat), k ≤ K → n ≤ N → K825  S C → zJ E (RL, cL_isTold, 19, (some .boolean), false, [], zTr) ({ frames := 10, cells := 339, slots := 2266, locals := 173 } : Room) (zY E Q) (fun _ _ _ => False) 825 [] [] (zPl E C) S k n) (hK868 : ∀ (S C : zS) (k n : Nat), k ≤ K → n ≤ N → K868  S C → zJ E (RL, cL_isTold, 19, (some .boolean), false, [], zTr) ({ frames := 10, cells := 339, slots := 2266, locals := 173 } : Room) (zY E Q) (fun _ _ _ => False) 868 [] [] (zPl E C) S k n) (hK882 : ∀ (a0 : Nat) (a12 : Nat) (S C : zS) (k n : Nat), k ≤ K → n ≤ N → K882 a0 a12 S C → zJ E (RL, cL_isTold, 19, (some .boolean), false, [], zTr) ({ frames := 10, cells := 339, slots := 2266, locals := 173 } : Room) (zY E Q) (fun _ _ _ => False) 882 [(0, .ref a0), (12, .ref a12)] [] (zPl E C) S k n) : ∀ (m747 k n : Nat), k + m747 * 14 ≤ K → n + m747 * 84 ≤ N → ∀ (a0 : Nat) (a3 : Nat) (a4 : Nat) (a5 : Nat) (a8 : Nat) (a12 : Nat) (l13 : Int32) (S C : zS), p_L_isTold_L747 E K825 K868 K882 Q X m747 a0 a3 a4 a5 a8 a12 l13 S C → zJ E (RL, cL_isTold, 19, (some .boolean), false, [], zTr) ({ frames := 10, cells := 339, slots := 2266, locals := 173 } : Room) (zY E Q) (fun _ _ _ => False) 747 [(0, .ref a0), (3, .ref a3), (4, .ref a4), (5, .ref a5), (8, .ref a8), (12, .ref a12), (13, .int l13)] [] (zPl E C) S k n := by
  intro m747
  induction m747 with
  | zero => intro k n hk hn a0 a3 a4 a5 a8 a12 l13 S C h; unfold p_L_isTold_L747 at h; exact h.elim
  | succ m747 ih =>
    intro k n hk hn a0 a3 a4 a5 a8 a12 l13 S C h
    unfold p_L_isTold_L747 at h
    refine z_iload 6 dL_isTold_747 rfl ?_
    refine z_bipush (v := 61) dL_isTold_749 rfl ?_
    refine z_icmp_ge 882 dL_isTold_751 (by decide) (fun c279 => ?_) (fun c279 => ?_)
    · have h := h.1 c279
      refine z_sub [0, 5] rfl ?_
      exact hK882 a0 a12 S C k n (by omega) (by omega) h
    · have h := h.2 c279
      refine z_iload 6 dL_isTold_754 rfl ?_
      refine z_aload 5 dL_isTold_756 rfl ?_
      refine z_iconst (v := 2) dL_isTold_758 rfl ?_
      obtain ⟨hf247, h⟩ := h
      obtain ⟨hj249, h⟩ := h
      refine z_iald (j := 2) hf247.1 hf247.2 rfl hj249.1 hj249.2 dL_isTold_759 ?_
      refine z_iconst (v := 4) dL_isTold_760 rfl ?_
      refine z_iadd dL_isTold_761 ?_
      refine z_icmp_ge 882 dL_isTold_762 (by decide) (fun c278 => ?_) (fun c278 => ?_)
      · have h := h.1 c278
        refine z_sub [0, 5] rfl ?_
        exact hK882 a0 a12 S C k n (by omega) (by omega) h
      · have h := h.2 c278
        refine z_aload_n 0 dL_isTold_765 rfl rfl ?_
        refine z_iload 6 dL_isTold_766 rfl ?_
        refine zz_fl ?_
        refine z_callW (st := []) (w_L_planned h) zw_1308 zw_1306 zw_1307 zw_29 zy_L_planned rfl rfl ⟨Nat.le_of_ble_eq_true rfl, Nat.le_of_ble_eq_true rfl⟩ ⟨(by show k + 1 ≤ 339; omega), (by show n + 6 ≤ 2266; omega)⟩ (Nat.le_of_ble_eq_true rfl) dL_isTold_768 (fun r251 C250 h => ?_)
        refine z_widen (k' := (k + 1)) (n' := (n + 6)) (Nat.le_of_eq rfl) (Nat.le_of_eq rfl) ?_
        refine zz_fl ?_
        refine z_aload 3 dL_isTold_771 rfl ?_
        refine z_iload 6 dL_isTold_773 rfl ?_
        obtain ⟨hf252, h⟩ := h
        obtain ⟨j253, hj254, h⟩ := h
        refine z_iald (j := j253) hf252.1 hf252.2 hj254.1 hj254.2.1 hj254.2.2 dL_isTold_775 ?_
        refine z_bipush (v := 7) dL_isTold_776 rfl ?_
        refine z_iand dL_isTold_778 ?_
        refine z_icmp_ne 825 dL_isTold_779 (by decide) (fun c277 => ?_) (fun c277 => ?_)
        · have h := h.1 c277
          refine z_sub [] rfl ?_
          exact hK825 S C250 (k + 1) (n + 6) (by omega) (by omega) h
        · have h := h.2 c277
          refine z_aload_n 0 dL_isTold_782 rfl rfl ?_
          refine z_iload 6 dL_isTold_783 rfl ?_
          refine zz_fl ?_
          refine z_callW (st := []) (w_L_rota h) zw_1315 zw_1313 zw_1314 zw_29 zy_L_rota rfl rfl ⟨Nat.le_of_ble_eq_true rfl, Nat.le_of_ble_eq_true rfl⟩ ⟨(by show (k + 1) + 1 ≤ 339; omega), (by show (n + 6) + 6 ≤ 2266; omega)⟩ (Nat.le_of_ble_eq_true rfl) dL_isTold_785 (fun r256 C255 h => ?_)
          refine z_widen (k' := (k + 2)) (n' := (n + 12)) (Nat.le_of_eq rfl) (Nat.le_of_eq rfl) ?_
          refine zz_fl ?_
          refine z_aload_n 1 dL_isTold_788 rfl rfl ?_
          refine z_aload 2 dL_isTold_789 rfl ?_
          refine z_aload 3 dL_isTold_791 rfl ?_
          refine z_aload 4 dL_isTold_793 rfl ?_
          refine z_aload 5 dL_isTold_795 rfl ?_
          refine z_iload 6 dL_isTold_797 rfl ?_
          refine z_callSI (st := [.int r256]) (w_L_band h) zw_943 zw_941 zw_942 zw_29 zy_L_band rfl rfl ⟨Nat.le_of_ble_eq_true rfl, Nat.le_of_ble_eq_true rfl⟩ ⟨(by show (k + 2) ≤ 339; omega), (by show (n + 12) ≤ 2266; omega)⟩ (Nat.le_of_ble_eq_true rfl) dL_isTold_799 (fun _ _ hx => hx.elim) (fun r258 S257 h => ?_)
          refine z_widen (k' := (k + 2)) (n' := (n + 12)) (Nat.le_of_eq rfl) (Nat.le_of_eq rfl) ?_
          refine z_icmp_ne 825 dL_isTold_802 (by decide) (fun c276 => ?_) (fun c276 => ?_)
          · have h := h.1 c276
            refine z_sub [] rfl ?_
            exact hK825 S257 C255 (k + 2) (n + 12) (by omega) (by omega) h
          · have h := h.2 c276
            refine z_aload_n 0 dL_isTold_805 rfl rfl ?_
            refine z_iload 6 dL_isTold_806 rfl ?_
            refine z_aload 3 dL_isTold_808 rfl ?_
            refine z_iload 6 dL_isTold_810 rfl ?_
            obtain ⟨hf259, h⟩ := h
            obtain ⟨j260, hj261, h⟩ := h
            refine z_iald (j := j260) hf259.1 hf259.2 hj261.1 hj261.2.1 hj261.2.2 dL_isTold_812 ?_
            refine z_bipush (v := 7) dL_isTold_813 rfl ?_
            refine z_iand dL_isTold_815 ?_
            refine zz_fl ?_
            refine z_callW (st := []) (w_L_plannedAt h) zw_1323 zw_1321 zw_1322 zw_29 zy_L_plannedAt rfl rfl ⟨Nat.le_of_ble_eq_true rfl, Nat.le_of_ble_eq_true rfl⟩ ⟨(by show (k + 2) + 2 ≤ 339; omega), (by show (n + 12) + 12 ≤ 2266; omega)⟩ (Nat.le_of_ble_eq_true rfl) dL_isTold_816 (fun r263 C262 h => ?_)
            refine z_widen (k' := (k + 4)) (n' := (n + 24)) (Nat.le_of_eq rfl) (Nat.le_of_eq rfl) ?_
            refine zz_fl ?_
            refine z_sipush (v := (-7100)) dL_isTold_819 rfl ?_
            refine z_icmp_eq 827 dL_isTold_822 (by decide) (fun c275 => ?_) (fun c275 => ?_)
            · have h := h.1 c275
              refine z_iconst (v := 0) dL_isTold_827 rfl ?_
              refine z_istore (lv' := [(14, .int 0), (0, .ref a0), (3, .ref a3), (4, .ref a4), (5, .ref a5), (8, .ref a8), (12, .ref a12), (13, .int l13)]) dL_isTold_828 (Nat.le_of_ble_eq_true rfl) rfl ?_
              obtain ⟨m830, hm830, h⟩ := h
              refine z_sub [1, 2, 3, 4, 5, 6, 7, 0] rfl ?_
              refine w_L_isTold_L830 (K := (K - m747 * 14) - 0) (N := (N - m747 * 84) - 0) (by omega) (by omega) (fun S C k273 n273 hk273 hn273 h => ?_) (fun a0 a3 a4 a5 a8 a12 l13 S C k274 n274 hk274 hn274 h => ?_) m830 (k + 4) (n + 24) (by omega) (by omega) a0 a3 a4 a5 a8 a12 l13 0 S257 C262 h
              · exact hK868 S C k273 n273 (by omega) (by omega) h
              · refine z_iinc (v := (l13 + 1)) (lv' := [(13, .int (l13 + 1)), (0, .ref a0), (3, .ref a3), (4, .ref a4), (5, .ref a5), (8, .ref a8), (12, .ref a12)]) 6 dL_isTold_876 rfl rfl (Nat.le_of_ble_eq_true rfl) rfl ?_
                refine z_goto 747 dL_isTold_879 (by decide) ?_
                refine z_sub [1, 2, 3, 4, 5, 6, 0] rfl ?_
                exact ih k274 n274 (by omega) (by omega) a0 a3 a4 a5 a8 a12 (l13 + 1) S C h
            · have h := h.2 c275
              refine z_sub [] rfl ?_
              exact hK825 S257 C262 (k + 4) (n + 24) (by omega) (by omega) h
set_option maxRecDepth 20000 in
set_option maxHeartbeats 4000000 in
theorem w_L_isTold_J983 {E : zE}  {Q : Int32 → zS → zS → Prop} {X : String → zS → Prop} {K N : Nat} (hKC : K ≤ 339) (hNS : N ≤ 2266)  (a0 : Nat) (a12 : Nat) (l100 : Int32) (l101 : Int32) (S C : zS) (k n : Nat) (hk : k + 15 ≤ K) (hn : n + 90 ≤ N) (h : p_L_isTold_J983 E  Q X a0 a12 l100 l101 S C) : zJ E (RL, cL_isTold, 19, (some .boolean), false, [], zTr) ({ frames := 10, cells := 339, slots := 2266, locals := 173 } : Room) (zY E Q) (fun _ _ _ => False) 983 [(0, .ref a0), (12, .ref a12)] [.int l100, .int l101] (zPl E C) S k n := by
  unfold p_L_isTold_J983 at h
  refine z_icmp_ne 1182 dL_isTold_983 (by decide) (fun c401 => ?_) (fun c401 => ?_)
  · have h := h.1 c401
    refine z_iconst (v := 0) dL_isTold_1182 rfl ?_
    obtain ⟨hz323, h⟩ := h
    exact z_zreturn ⟨_, _, rfl, rfl, h⟩ rfl (zbn hz323) (by show k ≤ 339; omega) (by show n ≤ 2266; omega) dL_isTold_1183
  · have h := h.2 c401
    refine z_aload_n 0 dL_isTold_986 rfl rfl ?_
    obtain ⟨hf326, h⟩ := h
    refine zz_fl ?_
    refine z_callVI (ci := 10) (st := []) (w_X10_wrong h) hf326.1 hf326.2 (Nat.le_of_ble_eq_true rfl) rfl zw_1351 zw_1348 zw_1349 zw_1350 zw_30 zy_X10_wrong rfl rfl ⟨Nat.le_of_ble_eq_true rfl, Nat.le_of_ble_eq_true rfl⟩ ⟨(by show k ≤ 339; omega), (by show n ≤ 2266; omega)⟩ (Nat.le_of_ble_eq_true rfl) dL_isTold_987 (fun _ _ hx => hx.elim) (fun r325 C324 h => ?_)
    refine z_widen (k' := k) (n' := n) (Nat.le_of_eq rfl) (Nat.le_of_eq rfl) ?_
    refine zz_fl ?_
    refine z_aload 1 dL_isTold_990 rfl ?_
    refine z_bipush (v := 13) dL_isTold_992 rfl ?_
    obtain ⟨hf327, h⟩ := h
    obtain ⟨hj329, h⟩ := h
    refine z_iald (j := 13) hf327.1 hf327.2 rfl hj329.1 hj329.2 dL_isTold_994 ?_
    refine z_icmp_ne 1182 dL_isTold_995 (by decide) (fun c400 => ?_) (fun c400 => ?_)
    · have h := h.1 c400
      refine z_iconst (v := 0) dL_isTold_1182 rfl ?_
      obtain ⟨hz330, h⟩ := h
      exact z_zreturn ⟨_, _, rfl, rfl, h⟩ rfl (zbn hz330) (by show k ≤ 339; omega) (by show n ≤ 2266; omega) dL_isTold_1183
    · have h := h.2 c400
      refine z_aload_n 0 dL_isTold_998 rfl rfl ?_
      obtain ⟨hf333, h⟩ := h
      refine zz_fl ?_
      refine z_callVI (ci := 10) (st := []) (w_X10_rung h) hf333.1 hf333.2 (Nat.le_of_ble_eq_true rfl) rfl zw_1355 zw_1352 zw_1353 zw_1354 zw_30 zy_X10_rung rfl rfl ⟨Nat.le_of_ble_eq_true rfl, Nat.le_of_ble_eq_true rfl⟩ ⟨(by show k ≤ 339; omega), (by show n ≤ 2266; omega)⟩ (Nat.le_of_ble_eq_true rfl) dL_isTold_999 (fun _ _ hx => hx.elim) (fun r332 C331 h => ?_)
      refine z_widen (k' := k) (n' := n) (Nat.le_of_eq rfl) (Nat.le_of_eq rfl) ?_
      refine zz_fl ?_
      refine z_aload 1 dL_isTold_1002 rfl ?_
      refine z_bipush (v := 14) dL_isTold_1004 rfl ?_
      obtain ⟨hj335, h⟩ := h
      refine z_iald (j := 14) hf327.1 hf327.2 rfl hj335.1 hj335.2 dL_isTold_1006 ?_
      refine z_icmp_ne 1182 dL_isTold_1007 (by decide) (fun c399 => ?_) (fun c399 => ?_)
      · have h := h.1 c399
        refine z_iconst (v := 0) dL_isTold_1182 rfl ?_
        obtain ⟨hz336, h⟩ := h
        exact z_zreturn ⟨_, _, rfl, rfl, h⟩ rfl (zbn hz336) (by show k ≤ 339; omega) (by show n ≤ 2266; omega) dL_isTold_1183
      · have h := h.2 c399
        refine z_aload_n 0 dL_isTold_1010 rfl rfl ?_
        obtain ⟨hf339, h⟩ := h
        refine zz_fl ?_
        refine z_callVI (ci := 10) (st := []) (w_X10_latest h) hf339.1 hf339.2 (Nat.le_of_ble_eq_true rfl) rfl zw_1359 zw_1356 zw_1357 zw_1358 zw_30 zy_X10_latest rfl rfl ⟨Nat.le_of_ble_eq_true rfl, Nat.le_of_ble_eq_true rfl⟩ ⟨(by show k ≤ 339; omega), (by show n ≤ 2266; omega)⟩ (Nat.le_of_ble_eq_true rfl) dL_isTold_1011 (fun _ _ hx => hx.elim) (fun r338 C337 h => ?_)
        refine z_widen (k' := k) (n' := n) (Nat.le_of_eq rfl) (Nat.le_of_eq rfl) ?_
        refine zz_fl ?_
        refine z_aload 1 dL_isTold_1014 rfl ?_
        refine z_bipush (v := 15) dL_isTold_1016 rfl ?_
        obtain ⟨hj341, h⟩ := h
        refine z_iald (j := 15) hf327.1 hf327.2 rfl hj341.1 hj341.2 dL_isTold_1018 ?_
        refine z_iconst (v := 1) dL_isTold_1019 rfl ?_
        refine z_isub dL_isTold_1020 ?_
        refine z_icmp_ne 1182 dL_isTold_1021 (by decide) (fun c398 => ?_) (fun c398 => ?_)
        · have h := h.1 c398
          refine z_iconst (v := 0) dL_isTold_1182 rfl ?_
          obtain ⟨hz342, h⟩ := h
          exact z_zreturn ⟨_, _, rfl, rfl, h⟩ rfl (zbn hz342) (by show k ≤ 339; omega) (by show n ≤ 2266; omega) dL_isTold_1183
        · have h := h.2 c398
          refine z_aload_n 0 dL_isTold_1024 rfl rfl ?_
          refine z_bipush (v := 61) dL_isTold_1025 rfl ?_
          refine zz_fl ?_
          refine z_callW (st := []) (w_L_planned h) zw_1308 zw_1306 zw_1307 zw_29 zy_L_planned rfl rfl ⟨Nat.le_of_ble_eq_true rfl, Nat.le_of_ble_eq_true rfl⟩ ⟨(by show k + 1 ≤ 339; omega), (by show n + 6 ≤ 2266; omega)⟩ (Nat.le_of_ble_eq_true rfl) dL_isTold_1027 (fun r344 C343 h => ?_)
          refine z_widen (k' := (k + 1)) (n' := (n + 6)) (Nat.le_of_eq rfl) (Nat.le_of_eq rfl) ?_
          refine zz_fl ?_
          refine z_sipush (v := (-7200)) dL_isTold_1030 rfl ?_
          refine z_icmp_ne 1182 dL_isTold_1033 (by decide) (fun c397 => ?_) (fun c397 => ?_)
          · have h := h.1 c397
            refine z_iconst (v := 0) dL_isTold_1182 rfl ?_
            obtain ⟨hz345, h⟩ := h
            exact z_zreturn ⟨_, _, rfl, rfl, h⟩ rfl (zbn hz345) (by show (k + 1) ≤ 339; omega) (by show (n + 6) ≤ 2266; omega) dL_isTold_1183
          · have h := h.2 c397
            refine z_aload_n 0 dL_isTold_1036 rfl rfl ?_
            refine z_aload 1 dL_isTold_1037 rfl ?_
            refine z_iconst (v := 2) dL_isTold_1039 rfl ?_
            obtain ⟨hj347, h⟩ := h
            refine z_iald (j := 2) hf327.1 hf327.2 rfl hj347.1 hj347.2 dL_isTold_1040 ?_
            refine z_iconst (v := 1) dL_isTold_1041 rfl ?_
            refine z_isub dL_isTold_1042 ?_
            refine z_bipush (v := 9) dL_isTold_1043 rfl ?_
            refine zz_fl ?_
            refine z_callW (st := []) (w_L_plannedAt h) zw_1323 zw_1321 zw_1322 zw_29 zy_L_plannedAt rfl rfl ⟨Nat.le_of_ble_eq_true rfl, Nat.le_of_ble_eq_true rfl⟩ ⟨(by show (k + 1) + 2 ≤ 339; omega), (by show (n + 6) + 12 ≤ 2266; omega)⟩ (Nat.le_of_ble_eq_true rfl) dL_isTold_1045 (fun r349 C348 h => ?_)
            refine z_widen (k' := (k + 3)) (n' := (n + 18)) (Nat.le_of_eq rfl) (Nat.le_of_eq rfl) ?_
            refine zz_fl ?_
            refine z_sipush (v := (-7200)) dL_isTold_1048 rfl ?_
            refine z_icmp_ne 1182 dL_isTold_1051 (by decide) (fun c396 => ?_) (fun c396 => ?_)
            · have h := h.1 c396
              refine z_iconst (v := 0) dL_isTold_1182 rfl ?_
              obtain ⟨hz350, h⟩ := h
              exact z_zreturn ⟨_, _, rfl, rfl, h⟩ rfl (zbn hz350) (by show (k + 3) ≤ 339; omega) (by show (n + 18) ≤ 2266; omega) dL_isTold_1183
            · have h := h.2 c396
              refine z_aload_n 0 dL_isTold_1054 rfl rfl ?_
              refine z_iconst (v := (-1)) dL_isTold_1055 rfl ?_
              refine zz_fl ?_
              refine z_callW (st := []) (w_L_rota h) zw_1315 zw_1313 zw_1314 zw_29 zy_L_rota rfl rfl ⟨Nat.le_of_ble_eq_true rfl, Nat.le_of_ble_eq_true rfl⟩ ⟨(by show (k + 3) + 1 ≤ 339; omega), (by show (n + 18) + 6 ≤ 2266; omega)⟩ (Nat.le_of_ble_eq_true rfl) dL_isTold_1056 (fun r352 C351 h => ?_)
              refine z_widen (k' := (k + 4)) (n' := (n + 24)) (Nat.le_of_eq rfl) (Nat.le_of_eq rfl) ?_
              refine zz_fl ?_
              refine z_sipush (v := (-7200)) dL_isTold_1059 rfl ?_
              refine z_icmp_ne 1182 dL_isTold_1062 (by decide) (fun c395 => ?_) (fun c395 => ?_)
              · have h := h.1 c395
                refine z_iconst (v := 0) dL_isTold_1182 rfl ?_
                obtain ⟨hz353, h⟩ := h
                exact z_zreturn ⟨_, _, rfl, rfl, h⟩ rfl (zbn hz353) (by show (k + 4) ≤ 339; omega) (by show (n + 24) ≤ 2266; omega) dL_isTold_1183
              · have h := h.2 c395
                refine z_aload_n 0 dL_isTold_1065 rfl rfl ?_
                refine z_aload 1 dL_isTold_1066 rfl ?_
                refine z_iconst (v := 1) dL_isTold_1068 rfl ?_
                obtain ⟨hj355, h⟩ := h
                refine z_iald (j := 1) hf327.1 hf327.2 rfl hj355.1 hj355.2 dL_isTold_1069 ?_
                refine zz_fl ?_
                refine z_callW (st := []) (w_L_rows h) zw_1219 zw_1217 zw_1218 zw_29 zy_L_rows rfl rfl ⟨Nat.le_of_ble_eq_true rfl, Nat.le_of_ble_eq_true rfl⟩ ⟨(by show (k + 4) + 1 ≤ 339; omega), (by show (n + 24) + 6 ≤ 2266; omega)⟩ (Nat.le_of_ble_eq_true rfl) dL_isTold_1070 (fun r357 C356 h => ?_)
                refine z_widen (k' := (k + 5)) (n' := (n + 30)) (Nat.le_of_eq rfl) (Nat.le_of_eq rfl) ?_
                refine zz_fl ?_
                refine z_sipush (v := (-7100)) dL_isTold_1073 rfl ?_
                refine z_icmp_ne 1182 dL_isTold_1076 (by decide) (fun c394 => ?_) (fun c394 => ?_)
                · have h := h.1 c394
                  refine z_iconst (v := 0) dL_isTold_1182 rfl ?_
                  obtain ⟨hz358, h⟩ := h
                  exact z_zreturn ⟨_, _, rfl, rfl, h⟩ rfl (zbn hz358) (by show (k + 5) ≤ 339; omega) (by show (n + 30) ≤ 2266; omega) dL_isTold_1183
                · have h := h.2 c394
                  refine z_aload_n 0 dL_isTold_1079 rfl rfl ?_
                  refine z_iconst (v := (-1)) dL_isTold_1080 rfl ?_
                  refine zz_fl ?_
                  refine z_callW (st := []) (w_L_isTrue h) zw_1252 zw_1250 zw_1251 zw_29 zy_L_isTrue rfl rfl ⟨Nat.le_of_ble_eq_true rfl, Nat.le_of_ble_eq_true rfl⟩ ⟨(by show (k + 5) + 1 ≤ 339; omega), (by show (n + 30) + 6 ≤ 2266; omega)⟩ (Nat.le_of_ble_eq_true rfl) dL_isTold_1081 (fun r360 C359 h => ?_)
                  refine z_widen (k' := (k + 6)) (n' := (n + 36)) (Nat.le_of_eq rfl) (Nat.le_of_eq rfl) ?_
                  refine zz_fl ?_
                  refine z_sipush (v := (-7100)) dL_isTold_1084 rfl ?_
                  refine z_icmp_ne 1182 dL_isTold_1087 (by decide) (fun c393 => ?_) (fun c393 => ?_)
                  · have h := h.1 c393
                    refine z_iconst (v := 0) dL_isTold_1182 rfl ?_
                    obtain ⟨hz361, h⟩ := h
                    exact z_zreturn ⟨_, _, rfl, rfl, h⟩ rfl (zbn hz361) (by show (k + 6) ≤ 339; omega) (by show (n + 36) ≤ 2266; omega) dL_isTold_1183
                  · have h := h.2 c393
                    refine z_aload_n 0 dL_isTold_1090 rfl rfl ?_
                    refine z_bipush (v := 6) dL_isTold_1091 rfl ?_
                    refine z_iconst (v := 2) dL_isTold_1093 rfl ?_
                    refine zz_fl ?_
                    refine z_callW (st := []) (w_L_wear h) zw_1273 zw_1271 zw_1272 zw_29 zy_L_wear rfl rfl ⟨Nat.le_of_ble_eq_true rfl, Nat.le_of_ble_eq_true rfl⟩ ⟨(by show (k + 6) + 2 ≤ 339; omega), (by show (n + 36) + 12 ≤ 2266; omega)⟩ (Nat.le_of_ble_eq_true rfl) dL_isTold_1094 (fun r363 C362 h => ?_)
                    refine z_widen (k' := (k + 8)) (n' := (n + 48)) (Nat.le_of_eq rfl) (Nat.le_of_eq rfl) ?_
                    refine zz_fl ?_
                    refine z_sipush (v := (-7100)) dL_isTold_1097 rfl ?_
                    refine z_icmp_ne 1182 dL_isTold_1100 (by decide) (fun c392 => ?_) (fun c392 => ?_)
                    · have h := h.1 c392
                      refine z_iconst (v := 0) dL_isTold_1182 rfl ?_
                      obtain ⟨hz364, h⟩ := h
                      exact z_zreturn ⟨_, _, rfl, rfl, h⟩ rfl (zbn hz364) (by show (k + 8) ≤ 339; omega) (by show (n + 48) ≤ 2266; omega) dL_isTold_1183
                    · have h := h.2 c392
                      refine z_aload_n 0 dL_isTold_1103 rfl rfl ?_
                      refine z_iconst (v := 0) dL_isTold_1104 rfl ?_
                      refine z_iconst (v := 2) dL_isTold_1105 rfl ?_
                      refine zz_fl ?_
                      refine z_callW (st := []) (w_L_wear h) zw_1273 zw_1271 zw_1272 zw_29 zy_L_wear rfl rfl ⟨Nat.le_of_ble_eq_true rfl, Nat.le_of_ble_eq_true rfl⟩ ⟨(by show (k + 8) + 2 ≤ 339; omega), (by show (n + 48) + 12 ≤ 2266; omega)⟩ (Nat.le_of_ble_eq_true rfl) dL_isTold_1106 (fun r366 C365 h => ?_)
                      refine z_widen (k' := (k + 10)) (n' := (n + 60)) (Nat.le_of_eq rfl) (Nat.le_of_eq rfl) ?_
                      refine zz_fl ?_
                      refine z_sipush (v := (-7200)) dL_isTold_1109 rfl ?_
                      refine z_icmp_ne 1182 dL_isTold_1112 (by decide) (fun c391 => ?_) (fun c391 => ?_)
                      · have h := h.1 c391
                        refine z_iconst (v := 0) dL_isTold_1182 rfl ?_
                        obtain ⟨hz367, h⟩ := h
                        exact z_zreturn ⟨_, _, rfl, rfl, h⟩ rfl (zbn hz367) (by show (k + 10) ≤ 339; omega) (by show (n + 60) ≤ 2266; omega) dL_isTold_1183
                      · have h := h.2 c391
                        refine z_aload_n 0 dL_isTold_1115 rfl rfl ?_
                        refine z_bipush (v := 6) dL_isTold_1116 rfl ?_
                        refine zz_fl ?_
                        refine z_callW (st := []) (w_L_late h) zw_1287 zw_1285 zw_1286 zw_29 zy_L_late rfl rfl ⟨Nat.le_of_ble_eq_true rfl, Nat.le_of_ble_eq_true rfl⟩ ⟨(by show (k + 10) + 1 ≤ 339; omega), (by show (n + 60) + 6 ≤ 2266; omega)⟩ (Nat.le_of_ble_eq_true rfl) dL_isTold_1118 (fun r369 C368 h => ?_)
                        refine z_widen (k' := (k + 11)) (n' := (n + 66)) (Nat.le_of_eq rfl) (Nat.le_of_eq rfl) ?_
                        refine zz_fl ?_
                        refine z_sipush (v := (-7100)) dL_isTold_1121 rfl ?_
                        refine z_icmp_ne 1182 dL_isTold_1124 (by decide) (fun c390 => ?_) (fun c390 => ?_)
                        · have h := h.1 c390
                          refine z_iconst (v := 0) dL_isTold_1182 rfl ?_
                          obtain ⟨hz370, h⟩ := h
                          exact z_zreturn ⟨_, _, rfl, rfl, h⟩ rfl (zbn hz370) (by show (k + 11) ≤ 339; omega) (by show (n + 66) ≤ 2266; omega) dL_isTold_1183
                        · have h := h.2 c390
                          refine z_aload_n 0 dL_isTold_1127 rfl rfl ?_
                          refine z_iconst (v := (-1)) dL_isTold_1128 rfl ?_
                          refine zz_fl ?_
                          refine z_callW (st := []) (w_L_errors h) zw_1301 zw_1299 zw_1300 zw_29 zy_L_errors rfl rfl ⟨Nat.le_of_ble_eq_true rfl, Nat.le_of_ble_eq_true rfl⟩ ⟨(by show (k + 11) + 1 ≤ 339; omega), (by show (n + 66) + 6 ≤ 2266; omega)⟩ (Nat.le_of_ble_eq_true rfl) dL_isTold_1129 (fun r372 C371 h => ?_)
                          refine z_widen (k' := (k + 12)) (n' := (n + 72)) (Nat.le_of_eq rfl) (Nat.le_of_eq rfl) ?_
                          refine zz_fl ?_
                          refine z_sipush (v := (-7100)) dL_isTold_1132 rfl ?_
                          refine z_icmp_ne 1182 dL_isTold_1135 (by decide) (fun c389 => ?_) (fun c389 => ?_)
                          · have h := h.1 c389
                            refine z_iconst (v := 0) dL_isTold_1182 rfl ?_
                            obtain ⟨hz373, h⟩ := h
                            exact z_zreturn ⟨_, _, rfl, rfl, h⟩ rfl (zbn hz373) (by show (k + 12) ≤ 339; omega) (by show (n + 72) ≤ 2266; omega) dL_isTold_1183
                          · have h := h.2 c389
                            refine z_aload_n 0 dL_isTold_1138 rfl rfl ?_
                            refine z_aload 1 dL_isTold_1139 rfl ?_
                            refine z_iconst (v := 0) dL_isTold_1141 rfl ?_
                            obtain ⟨hj375, h⟩ := h
                            refine z_iald (j := 0) hf327.1 hf327.2 rfl hj375.1 hj375.2 dL_isTold_1142 ?_
                            refine zz_fl ?_
                            refine z_callW (st := []) (w_L_stage h) zw_575 zw_573 zw_574 zw_29 zy_L_stage rfl rfl ⟨Nat.le_of_ble_eq_true rfl, Nat.le_of_ble_eq_true rfl⟩ ⟨(by show (k + 12) + 1 ≤ 339; omega), (by show (n + 72) + 6 ≤ 2266; omega)⟩ (Nat.le_of_ble_eq_true rfl) dL_isTold_1143 (fun r377 C376 h => ?_)
                            refine z_widen (k' := (k + 13)) (n' := (n + 78)) (Nat.le_of_eq rfl) (Nat.le_of_eq rfl) ?_
                            refine zz_fl ?_
                            refine z_sipush (v := (-7100)) dL_isTold_1146 rfl ?_
                            refine z_icmp_ne 1182 dL_isTold_1149 (by decide) (fun c388 => ?_) (fun c388 => ?_)
                            · have h := h.1 c388
                              refine z_iconst (v := 0) dL_isTold_1182 rfl ?_
                              obtain ⟨hz378, h⟩ := h
                              exact z_zreturn ⟨_, _, rfl, rfl, h⟩ rfl (zbn hz378) (by show (k + 13) ≤ 339; omega) (by show (n + 78) ≤ 2266; omega) dL_isTold_1183
                            · have h := h.2 c388
                              refine z_aload_n 0 dL_isTold_1152 rfl rfl ?_
                              refine z_ldcw zw_1360 dL_isTold_1153 ?_
                              refine zz_fl ?_
                              refine z_callW (st := []) (w_L_course h) zw_1179 zw_1177 zw_1178 zw_29 zy_L_course rfl rfl ⟨Nat.le_of_ble_eq_true rfl, Nat.le_of_ble_eq_true rfl⟩ ⟨(by show (k + 13) + 1 ≤ 339; omega), (by show (n + 78) + 6 ≤ 2266; omega)⟩ (Nat.le_of_ble_eq_true rfl) dL_isTold_1156 (fun r380 C379 h => ?_)
                              refine z_widen (k' := (k + 14)) (n' := (n + 84)) (Nat.le_of_eq rfl) (Nat.le_of_eq rfl) ?_
                              refine zz_fl ?_
                              refine z_sipush (v := (-7100)) dL_isTold_1159 rfl ?_
                              refine z_icmp_ne 1182 dL_isTold_1162 (by decide) (fun c387 => ?_) (fun c387 => ?_)
                              · have h := h.1 c387
                                refine z_iconst (v := 0) dL_isTold_1182 rfl ?_
                                obtain ⟨hz381, h⟩ := h
                                exact z_zreturn ⟨_, _, rfl, rfl, h⟩ rfl (zbn hz381) (by show (k + 14) ≤ 339; omega) (by show (n + 84) ≤ 2266; omega) dL_isTold_1183
                              · have h := h.2 c387
                                refine z_aload_n 0 dL_isTold_1165 rfl rfl ?_
                                refine z_ldcw zw_1361 dL_isTold_1166 ?_
                                refine zz_fl ?_
                                refine z_callW (st := []) (w_L_isIn h) zw_1280 zw_1278 zw_1279 zw_29 zy_L_isIn rfl rfl ⟨Nat.le_of_ble_eq_true rfl, Nat.le_of_ble_eq_true rfl⟩ ⟨(by show (k + 14) + 1 ≤ 339; omega), (by show (n + 84) + 6 ≤ 2266; omega)⟩ (Nat.le_of_ble_eq_true rfl) dL_isTold_1169 (fun r383 C382 h => ?_)
                                refine z_widen (k' := (k + 15)) (n' := (n + 90)) (Nat.le_of_eq rfl) (Nat.le_of_eq rfl) ?_
                                refine zz_fl ?_
                                refine z_sipush (v := (-7100)) dL_isTold_1172 rfl ?_
                                refine z_icmp_ne 1182 dL_isTold_1175 (by decide) (fun c386 => ?_) (fun c386 => ?_)
                                · have h := h.1 c386
                                  refine z_iconst (v := 0) dL_isTold_1182 rfl ?_
                                  obtain ⟨hz384, h⟩ := h
                                  exact z_zreturn ⟨_, _, rfl, rfl, h⟩ rfl (zbn hz384) (by show (k + 15) ≤ 339; omega) (by show (n + 90) ≤ 2266; omega) dL_isTold_1183
                                · have h := h.2 c386
                                  refine z_iconst (v := 1) dL_isTold_1178 rfl ?_
                                  refine z_goto 1183 dL_isTold_1179 (by decide) ?_
                                  obtain ⟨hz385, h⟩ := h
                                  exact z_zreturn ⟨_, _, rfl, rfl, h⟩ rfl (zbn hz385) (by show (k + 15) ≤ 339; omega) (by show (n + 90) ≤ 2266; omega) dL_isTold_1183
set_option maxRecDepth 20000 in
set_option maxHeartbeats 4000000 in
theorem w_L_isTold_J958 {E : zE}  {Q : Int32 → zS → zS → Prop} {X : String → zS → Prop} {K N : Nat} (hKC : K ≤ 339) (hNS : N ≤ 2266)  (a0 : Nat) (a12 : Nat) (l100 : Int32) (l101 : Int32) (S C : zS) (k n : Nat) (hk : k + 15 ≤ K) (hn : n + 90 ≤ N) (h : p_L_isTold_J958 E  Q X a0 a12 l100 l101 S C) : zJ E (RL, cL_isTold, 19, (some .boolean), false, [], zTr) ({ frames := 10, cells := 339, slots := 2266, locals := 173 } : Room) (zY E Q) (fun _ _ _ => False) 958 [(0, .ref a0), (12, .ref a12)] [.int l100, .int l101] (zPl E C) S k n := by
  unfold p_L_isTold_J958 at h
  refine z_icmp_ne 1182 dL_isTold_958 (by decide) (fun c405 => ?_) (fun c405 => ?_)
  · have h := h.1 c405
    refine z_iconst (v := 0) dL_isTold_1182 rfl ?_
    obtain ⟨hz316, h⟩ := h
    exact z_zreturn ⟨_, _, rfl, rfl, h⟩ rfl (zbn hz316) (by show k ≤ 339; omega) (by show n ≤ 2266; omega) dL_isTold_1183
  · have h := h.2 c405
    refine z_aload_n 0 dL_isTold_961 rfl rfl ?_
    obtain ⟨hf319, h⟩ := h
    refine zz_fl ?_
    refine z_callVI (ci := 10) (st := []) (w_X10_delay h) hf319.1 hf319.2 (Nat.le_of_ble_eq_true rfl) rfl zw_1347 zw_1344 zw_1345 zw_1346 zw_30 zy_X10_delay rfl rfl ⟨Nat.le_of_ble_eq_true rfl, Nat.le_of_ble_eq_true rfl⟩ ⟨(by show k ≤ 339; omega), (by show n ≤ 2266; omega)⟩ (Nat.le_of_ble_eq_true rfl) dL_isTold_962 (fun _ _ hx => hx.elim) (fun r318 C317 h => ?_)
    refine z_widen (k' := k) (n' := n) (Nat.le_of_eq rfl) (Nat.le_of_eq rfl) ?_
    refine zz_fl ?_
    refine z_aload 1 dL_isTold_965 rfl ?_
    refine z_bipush (v := 6) dL_isTold_967 rfl ?_
    obtain ⟨hf320, h⟩ := h
    obtain ⟨hj322, h⟩ := h
    refine z_iald (j := 6) hf320.1 hf320.2 rfl hj322.1 hj322.2 dL_isTold_969 ?_
    refine z_iconst (v := 1) dL_isTold_970 rfl ?_
    refine z_icmp_ne 982 dL_isTold_971 (by decide) (fun c404 => ?_) (fun c404 => ?_)
    · have h := h.1 c404
      refine z_iconst (v := 0) dL_isTold_982 rfl ?_
      refine w_L_isTold_J983 (K := K) (N := N) (by omega) (by omega) a0 a12 0 r318 S C317 k n (by omega) (by omega) h
    · have h := h.2 c404
      refine z_aload 1 dL_isTold_974 rfl ?_
      refine z_bipush (v := 11) dL_isTold_976 rfl ?_
      obtain ⟨hj403, h⟩ := h
      refine z_iald (j := 11) hf320.1 hf320.2 rfl hj403.1 hj403.2 dL_isTold_978 ?_
      refine z_goto 983 dL_isTold_979 (by decide) ?_
      refine w_L_isTold_J983 (K := K) (N := N) (by omega) (by omega) a0 a12 (gA S a12 11) r318 S C317 k n (by omega) (by omega) h
set_option maxRecDepth 20000 in
set_option maxHeartbeats 4000000 in
theorem w_L_isTold_J933 {E : zE}  {Q : Int32 → zS → zS → Prop} {X : String → zS → Prop} {K N : Nat} (hKC : K ≤ 339) (hNS : N ≤ 2266)  (a0 : Nat) (a12 : Nat) (l100 : Int32) (l101 : Int32) (S C : zS) (k n : Nat) (hk : k + 15 ≤ K) (hn : n + 90 ≤ N) (h : p_L_isTold_J933 E  Q X a0 a12 l100 l101 S C) : zJ E (RL, cL_isTold, 19, (some .boolean), false, [], zTr) ({ frames := 10, cells := 339, slots := 2266, locals := 173 } : Room) (zY E Q) (fun _ _ _ => False) 933 [(0, .ref a0), (12, .ref a12)] [.int l100, .int l101] (zPl E C) S k n := by
  unfold p_L_isTold_J933 at h
  refine z_icmp_ne 1182 dL_isTold_933 (by decide) (fun c409 => ?_) (fun c409 => ?_)
  · have h := h.1 c409
    refine z_iconst (v := 0) dL_isTold_1182 rfl ?_
    obtain ⟨hz309, h⟩ := h
    exact z_zreturn ⟨_, _, rfl, rfl, h⟩ rfl (zbn hz309) (by show k ≤ 339; omega) (by show n ≤ 2266; omega) dL_isTold_1183
  · have h := h.2 c409
    refine z_aload_n 0 dL_isTold_936 rfl rfl ?_
    obtain ⟨hf312, h⟩ := h
    refine zz_fl ?_
    refine z_callVI (ci := 10) (st := []) (w_X10_done h) hf312.1 hf312.2 (Nat.le_of_ble_eq_true rfl) rfl zw_1343 zw_1340 zw_1341 zw_1342 zw_30 zy_X10_done rfl rfl ⟨Nat.le_of_ble_eq_true rfl, Nat.le_of_ble_eq_true rfl⟩ ⟨(by show k ≤ 339; omega), (by show n ≤ 2266; omega)⟩ (Nat.le_of_ble_eq_true rfl) dL_isTold_937 (fun _ _ hx => hx.elim) (fun r311 C310 h => ?_)
    refine z_widen (k' := k) (n' := n) (Nat.le_of_eq rfl) (Nat.le_of_eq rfl) ?_
    refine zz_fl ?_
    refine z_aload 1 dL_isTold_940 rfl ?_
    refine z_bipush (v := 6) dL_isTold_942 rfl ?_
    obtain ⟨hf313, h⟩ := h
    obtain ⟨hj315, h⟩ := h
    refine z_iald (j := 6) hf313.1 hf313.2 rfl hj315.1 hj315.2 dL_isTold_944 ?_
    refine z_iconst (v := 1) dL_isTold_945 rfl ?_
    refine z_icmp_ne 957 dL_isTold_946 (by decide) (fun c408 => ?_) (fun c408 => ?_)
    · have h := h.1 c408
      refine z_iconst (v := (-1)) dL_isTold_957 rfl ?_
      refine w_L_isTold_J958 (K := K) (N := N) (by omega) (by omega) a0 a12 (-1) r311 S C310 k n (by omega) (by omega) h
    · have h := h.2 c408
      refine z_aload 1 dL_isTold_949 rfl ?_
      refine z_bipush (v := 10) dL_isTold_951 rfl ?_
      obtain ⟨hj407, h⟩ := h
      refine z_iald (j := 10) hf313.1 hf313.2 rfl hj407.1 hj407.2 dL_isTold_953 ?_
      refine z_goto 958 dL_isTold_954 (by decide) ?_
      refine w_L_isTold_J958 (K := K) (N := N) (by omega) (by omega) a0 a12 (gA S a12 10) r311 S C310 k n (by omega) (by omega) h
set_option maxRecDepth 20000 in
set_option maxHeartbeats 4000000 in
theorem w_L_isTold_J882 {E : zE}  {Q : Int32 → zS → zS → Prop} {X : String → zS → Prop} {K N : Nat} (hKC : K ≤ 339) (hNS : N ≤ 2266)  (a0 : Nat) (a12 : Nat) (S C : zS) (k n : Nat) (hk : k + 15 ≤ K) (hn : n + 90 ≤ N) (h : p_L_isTold_J882 E  Q X a0 a12 S C) : zJ E (RL, cL_isTold, 19, (some .boolean), false, [], zTr) ({ frames := 10, cells := 339, slots := 2266, locals := 173 } : Room) (zY E Q) (fun _ _ _ => False) 882 [(0, .ref a0), (12, .ref a12)] [] (zPl E C) S k n := by
  unfold p_L_isTold_J882 at h
  refine z_aload_n 0 dL_isTold_882 rfl rfl ?_
  obtain ⟨hf287, h⟩ := h
  refine zz_fl ?_
  refine z_callVI (ci := 10) (st := []) (w_X10_touches h) hf287.1 hf287.2 (Nat.le_of_ble_eq_true rfl) rfl zw_841 zw_838 zw_839 zw_840 zw_30 zy_X10_touches rfl rfl ⟨Nat.le_of_ble_eq_true rfl, Nat.le_of_ble_eq_true rfl⟩ ⟨(by show k ≤ 339; omega), (by show n ≤ 2266; omega)⟩ (Nat.le_of_ble_eq_true rfl) dL_isTold_883 (fun _ _ hx => hx.elim) (fun r286 C285 h => ?_)
  refine z_widen (k' := k) (n' := n) (Nat.le_of_eq rfl) (Nat.le_of_eq rfl) ?_
  refine zz_fl ?_
  refine z_aload 1 dL_isTold_886 rfl ?_
  refine z_iconst (v := 1) dL_isTold_888 rfl ?_
  obtain ⟨hf288, h⟩ := h
  obtain ⟨hj290, h⟩ := h
  refine z_iald (j := 1) hf288.1 hf288.2 rfl hj290.1 hj290.2 dL_isTold_889 ?_
  refine z_icmp_ne 1182 dL_isTold_890 (by decide) (fun c413 => ?_) (fun c413 => ?_)
  · have h := h.1 c413
    refine z_iconst (v := 0) dL_isTold_1182 rfl ?_
    obtain ⟨hz291, h⟩ := h
    exact z_zreturn ⟨_, _, rfl, rfl, h⟩ rfl (zbn hz291) (by show k ≤ 339; omega) (by show n ≤ 2266; omega) dL_isTold_1183
  · have h := h.2 c413
    refine z_aload_n 0 dL_isTold_893 rfl rfl ?_
    obtain ⟨hf294, h⟩ := h
    refine zz_fl ?_
    refine z_callVI (ci := 10) (st := []) (w_X10_today h) hf294.1 hf294.2 (Nat.le_of_ble_eq_true rfl) rfl zw_1331 zw_1328 zw_1329 zw_1330 zw_30 zy_X10_today rfl rfl ⟨Nat.le_of_ble_eq_true rfl, Nat.le_of_ble_eq_true rfl⟩ ⟨(by show k ≤ 339; omega), (by show n ≤ 2266; omega)⟩ (Nat.le_of_ble_eq_true rfl) dL_isTold_894 (fun _ _ hx => hx.elim) (fun r293 C292 h => ?_)
    refine z_widen (k' := k) (n' := n) (Nat.le_of_eq rfl) (Nat.le_of_eq rfl) ?_
    refine zz_fl ?_
    refine z_aload 1 dL_isTold_897 rfl ?_
    refine z_iconst (v := 2) dL_isTold_899 rfl ?_
    obtain ⟨hj296, h⟩ := h
    refine z_iald (j := 2) hf288.1 hf288.2 rfl hj296.1 hj296.2 dL_isTold_900 ?_
    refine z_icmp_ne 1182 dL_isTold_901 (by decide) (fun c412 => ?_) (fun c412 => ?_)
    · have h := h.1 c412
      refine z_iconst (v := 0) dL_isTold_1182 rfl ?_
      obtain ⟨hz297, h⟩ := h
      exact z_zreturn ⟨_, _, rfl, rfl, h⟩ rfl (zbn hz297) (by show k ≤ 339; omega) (by show n ≤ 2266; omega) dL_isTold_1183
    · have h := h.2 c412
      refine z_aload_n 0 dL_isTold_904 rfl rfl ?_
      obtain ⟨hf300, h⟩ := h
      refine zz_fl ?_
      refine z_callVI (ci := 10) (st := []) (w_X10_dropped h) hf300.1 hf300.2 (Nat.le_of_ble_eq_true rfl) rfl zw_1335 zw_1332 zw_1333 zw_1334 zw_30 zy_X10_dropped rfl rfl ⟨Nat.le_of_ble_eq_true rfl, Nat.le_of_ble_eq_true rfl⟩ ⟨(by show k ≤ 339; omega), (by show n ≤ 2266; omega)⟩ (Nat.le_of_ble_eq_true rfl) dL_isTold_905 (fun _ _ hx => hx.elim) (fun r299 C298 h => ?_)
      refine z_widen (k' := k) (n' := n) (Nat.le_of_eq rfl) (Nat.le_of_eq rfl) ?_
      refine zz_fl ?_
      refine z_aload 1 dL_isTold_908 rfl ?_
      refine z_iconst (v := 3) dL_isTold_910 rfl ?_
      obtain ⟨hj302, h⟩ := h
      refine z_iald (j := 3) hf288.1 hf288.2 rfl hj302.1 hj302.2 dL_isTold_911 ?_
      refine z_icmp_ne 1182 dL_isTold_912 (by decide) (fun c411 => ?_) (fun c411 => ?_)
      · have h := h.1 c411
        refine z_iconst (v := 0) dL_isTold_1182 rfl ?_
        obtain ⟨hz303, h⟩ := h
        exact z_zreturn ⟨_, _, rfl, rfl, h⟩ rfl (zbn hz303) (by show k ≤ 339; omega) (by show n ≤ 2266; omega) dL_isTold_1183
      · have h := h.2 c411
        refine z_aload_n 0 dL_isTold_915 rfl rfl ?_
        obtain ⟨hf306, h⟩ := h
        refine zz_fl ?_
        refine z_callVI (ci := 10) (st := []) (w_X10_isRinging h) hf306.1 hf306.2 (Nat.le_of_ble_eq_true rfl) rfl zw_1339 zw_1336 zw_1337 zw_1338 zw_30 zy_X10_isRinging rfl rfl ⟨Nat.le_of_ble_eq_true rfl, Nat.le_of_ble_eq_true rfl⟩ ⟨(by show k ≤ 339; omega), (by show n ≤ 2266; omega)⟩ (Nat.le_of_ble_eq_true rfl) dL_isTold_916 (fun _ _ hx => hx.elim) (fun r305 C304 h => ?_)
        refine z_widen (k' := k) (n' := n) (Nat.le_of_eq rfl) (Nat.le_of_eq rfl) ?_
        refine zz_fl ?_
        refine z_aload 1 dL_isTold_919 rfl ?_
        refine z_bipush (v := 6) dL_isTold_921 rfl ?_
        obtain ⟨hj308, h⟩ := h
        refine z_iald (j := 6) hf288.1 hf288.2 rfl hj308.1 hj308.2 dL_isTold_923 ?_
        refine z_iconst (v := 1) dL_isTold_924 rfl ?_
        refine z_icmp_ne 932 dL_isTold_925 (by decide) (fun c410 => ?_) (fun c410 => ?_)
        · have h := h.1 c410
          refine z_iconst (v := 0) dL_isTold_932 rfl ?_
          refine w_L_isTold_J933 (K := K) (N := N) (by omega) (by omega) a0 a12 0 r305 S C304 k n (by omega) (by omega) h
        · have h := h.2 c410
          refine z_iconst (v := 1) dL_isTold_928 rfl ?_
          refine z_goto 933 dL_isTold_929 (by decide) ?_
          refine w_L_isTold_J933 (K := K) (N := N) (by omega) (by omega) a0 a12 1 r305 S C304 k n (by omega) (by omega) h
set_option maxRecDepth 20000 in
set_option maxHeartbeats 4000000 in
theorem w_L_isTold {E : zE} {a0 : Nat} {l1 : Int32} {l2 : Int32} {a3 : Nat} {a4 : Nat} {a5 : Nat} {a6 : Nat} {a7 : Nat} {a8 : Nat} {a9 : Nat} {a10 : Nat} {a11 : Nat} {a12 : Nat} {S C : zS} {Q : Int32 → zS → zS → Prop} {X : String → zS → Prop} (h : p_L_isTold E a0 l1 l2 a3 a4 a5 a6 a7 a8 a9 a10 a11 a12 S C Q X) : zMY E yL_isTold cL_isTold 19 (some .boolean) ({ frames := 10, cells := 339, slots := 2266, locals := 173 } : Room) [.ref a0, .int l1, .int l2, .ref a3, .ref a4, .ref a5, .ref a6, .ref a7, .ref a8, .ref a9, .ref a10, .ref a11, .ref a12] (zPl E C) S (zY E Q) := by
  unfold p_L_isTold at h
  refine zMY_of RL (by decide) rfl (Nat.le_of_ble_eq_true rfl) ?_
  refine z_iconst (v := 0) dL_isTold_0 rfl ?_
  refine z_istore (lv' := [(13, .int 0), (0, .ref a0), (1, .int l1), (2, .int l2), (3, .ref a3), (4, .ref a4), (5, .ref a5), (6, .ref a6), (7, .ref a7), (8, .ref a8), (9, .ref a9), (10, .ref a10), (11, .ref a11), (12, .ref a12)]) dL_isTold_1 (Nat.le_of_ble_eq_true rfl) rfl ?_
  obtain ⟨m3, hm3, h⟩ := h
  refine z_sub [1, 2, 3, 4, 5, 6, 7, 8, 9, 10, 11, 12, 13, 0] rfl ?_
  refine w_L_isTold_L3 (K := 339 - 251) (N := 2266 - 1506) (by omega) (by omega) (fun S C k107 n107 hk107 hn107 h => ?_) (fun S C k109 n109 hk109 hn109 h => ?_) (fun a0 l2 a3 a4 a5 a6 a7 a8 a9 a10 a11 a12 S C k111 n111 hk111 hn111 h => ?_) m3 0 0 (by omega) (by omega) a0 l1 l2 a3 a4 a5 a6 a7 a8 a9 a10 a11 a12 0 S C h
  · refine z_iconst (v := 0) dL_isTold_285 rfl ?_
    obtain ⟨hz108, h⟩ := h
    exact z_zreturn ⟨_, _, rfl, rfl, h⟩ rfl (zbn hz108) (by show k107 ≤ 339; omega) (by show n107 ≤ 2266; omega) dL_isTold_286
  · refine z_iconst (v := 0) dL_isTold_314 rfl ?_
    obtain ⟨hz110, h⟩ := h
    exact z_zreturn ⟨_, _, rfl, rfl, h⟩ rfl (zbn hz110) (by show k109 ≤ 339; omega) (by show n109 ≤ 2266; omega) dL_isTold_315
  · refine z_iconst (v := 0) dL_isTold_322 rfl ?_
    refine z_istore (lv' := [(13, .int 0), (0, .ref a0), (2, .int l2), (3, .ref a3), (4, .ref a4), (5, .ref a5), (6, .ref a6), (7, .ref a7), (8, .ref a8), (9, .ref a9), (10, .ref a10), (11, .ref a11), (12, .ref a12)]) dL_isTold_323 (Nat.le_of_ble_eq_true rfl) rfl ?_
    obtain ⟨m325, hm325, h⟩ := h
    refine z_sub [1, 2, 3, 4, 5, 6, 7, 8, 9, 10, 11, 12, 0] rfl ?_
    refine w_L_isTold_L325 (K := 339 - 141) (N := 2266 - 846) (by omega) (by omega) (fun S C k196 n196 hk196 hn196 h => ?_) (fun S C k198 n198 hk198 hn198 h => ?_) (fun a0 a3 a4 a5 a6 a7 a8 a9 a10 a12 S C k200 n200 hk200 hn200 h => ?_) m325 k111 n111 (by omega) (by omega) a0 l2 a3 a4 a5 a6 a7 a8 a9 a10 a11 a12 0 S C h
    · refine z_iconst (v := 0) dL_isTold_554 rfl ?_
      obtain ⟨hz197, h⟩ := h
      exact z_zreturn ⟨_, _, rfl, rfl, h⟩ rfl (zbn hz197) (by show k196 ≤ 339; omega) (by show n196 ≤ 2266; omega) dL_isTold_555
    · refine z_iconst (v := 0) dL_isTold_615 rfl ?_
      obtain ⟨hz199, h⟩ := h
      exact z_zreturn ⟨_, _, rfl, rfl, h⟩ rfl (zbn hz199) (by show k198 ≤ 339; omega) (by show n198 ≤ 2266; omega) dL_isTold_616
    · refine z_iconst (v := 0) dL_isTold_623 rfl ?_
      refine z_istore (lv' := [(13, .int 0), (0, .ref a0), (3, .ref a3), (4, .ref a4), (5, .ref a5), (6, .ref a6), (7, .ref a7), (8, .ref a8), (9, .ref a9), (10, .ref a10), (12, .ref a12)]) dL_isTold_624 (Nat.le_of_ble_eq_true rfl) rfl ?_
      obtain ⟨m626, hm626, h⟩ := h
      refine z_sub [1, 2, 3, 4, 5, 6, 7, 8, 9, 10, 0] rfl ?_
      refine w_L_isTold_L626 (K := 339 - 85) (N := 2266 - 510) (by omega) (by omega) (fun S C k241 n241 hk241 hn241 h => ?_) (fun a0 a3 a4 a5 a8 a12 S C k243 n243 hk243 hn243 h => ?_) m626 k200 n200 (by omega) (by omega) a0 a3 a4 a5 a6 a7 a8 a9 a10 a12 0 S C h
      · refine z_iconst (v := 0) dL_isTold_733 rfl ?_
        obtain ⟨hz242, h⟩ := h
        exact z_zreturn ⟨_, _, rfl, rfl, h⟩ rfl (zbn hz242) (by show k241 ≤ 339; omega) (by show n241 ≤ 2266; omega) dL_isTold_734
      · refine z_aload 5 dL_isTold_741 rfl ?_
        refine z_iconst (v := 2) dL_isTold_743 rfl ?_
        obtain ⟨hf244, h⟩ := h
        obtain ⟨hj246, h⟩ := h
        refine z_iald (j := 2) hf244.1 hf244.2 rfl hj246.1 hj246.2 dL_isTold_744 ?_
        refine z_istore (lv' := [(13, .int (gA S a12 2)), (0, .ref a0), (3, .ref a3), (4, .ref a4), (5, .ref a5), (8, .ref a8), (12, .ref a12)]) dL_isTold_745 (Nat.le_of_ble_eq_true rfl) rfl ?_
        obtain ⟨m747, hm747, h⟩ := h
        refine z_sub [1, 2, 3, 4, 5, 6, 0] rfl ?_
        refine w_L_isTold_L747 (K := 339 - 15) (N := 2266 - 90) (by omega) (by omega) (fun S C k280 n280 hk280 hn280 h => ?_) (fun S C k282 n282 hk282 hn282 h => ?_) (fun a0 a12 S C k284 n284 hk284 hn284 h => ?_) m747 k243 n243 (by omega) (by omega) a0 a3 a4 a5 a8 a12 (gA S a12 2) S C h
        · refine z_iconst (v := 0) dL_isTold_825 rfl ?_
          obtain ⟨hz281, h⟩ := h
          exact z_zreturn ⟨_, _, rfl, rfl, h⟩ rfl (zbn hz281) (by show k280 ≤ 339; omega) (by show n280 ≤ 2266; omega) dL_isTold_826
        · refine z_iconst (v := 0) dL_isTold_868 rfl ?_
          obtain ⟨hz283, h⟩ := h
          exact z_zreturn ⟨_, _, rfl, rfl, h⟩ rfl (zbn hz283) (by show k282 ≤ 339; omega) (by show n282 ≤ 2266; omega) dL_isTold_869
        · refine w_L_isTold_J882 (K := 339) (N := 2266) (by omega) (by omega) a0 a12 S C k284 n284 (by omega) (by omega) h
