/-! the law: its turns -/
section LAW
variable {E : zE} {aa : Nat → Nat} {b L x : Nat} {xs : Nat → Int32} {tb : List ExceptionTableEntry}
set_option maxRecDepth 20000 in
set_option maxHeartbeats 4000000 in
theorem law_loop (hL : L ≤ 260) : ∀ (w t : Nat) (k n : Nat) (S C : zS), t ≤ 110 → 110 < t + w → k + (110 - t) * 384 ≤ 600130 → n + (110 - t) * 3664 ≤ 7301080 → TT E aa x S C → zJ E (RL, cL_law, 19, (some .boolean), false, tb, zScr E b L xs) room_1 (fun v _ _ => v = some (.int 1)) (fun _ _ _ => False) 131 [(0, .ref b), (1, .ref x), (2, .ref (aa 0)), (3, .ref (aa 1)), (4, .ref (aa 2)), (5, .ref (aa 3)), (6, .ref (aa 4)), (7, .ref (aa 5)), (8, .ref (aa 6)), (9, .ref (aa 7)), (10, .ref (aa 8)), (11, .ref (aa 9)), (12, .ref (aa 10)), (13, .int (nI t))] [] (zPl E C) S (k) (n)
  | 0, t, k, n, S, C, h1, h2, hk, hn, tt => by omega
  | w + 1, t, k, n, S, C, h1, h2, hk, hn, tt => by
    refine z_iload 13 dL_law_131 rfl ?_
    refine z_bipush (v := 110) dL_law_133 rfl ?_
    refine z_icmp_ge 384 dL_law_135 (by decide) (fun _ => ?_) (fun c => ?_)
    · refine z_iconst (v := 1) dL_law_384 rfl ?_
      exact z_zreturn rfl rfl (zbn (Or.inr rfl)) (show k ≤ 600130 by omega) (show n ≤ 7301080 by omega) dL_law_385
    have lt : t < 110 := (pk_le (A := True) (B := t < 110) 110 t (fun _ => trivial) (fun h => h)).2 c
    have e3 : (3 : Int32) * nI t = nI (3 * t) := pk_mul 3 t
    have e31 : (3 : Int32) * nI t + 1 = nI (3 * t + 1) := by rw [e3, nI_1]
    have e32 : (3 : Int32) * nI t + 2 = nI (3 * t + 2) := by rw [e3]; exact nI_add _ 2
    have app : zPl E C ++ ([] : va_W) = zPl E C := List.append_nil _
    rw [← app]
    refine z_aload_n 0 dL_law_138 rfl rfl ?_
    refine z_iconst (v := 3) dL_law_139 rfl ?_
    refine z_iload 13 dL_law_140 rfl ?_
    refine z_imul dL_law_142 ?_
    rw [e3]
    refine z_callC (Y := zPl E C) (X1 := []) (st := []) rfl (w_L_cell (E := E) (xs := xs) (b := b) (L := L) (j := 3 * t) (by omega) (by omega)) lw_w1.1 lw_w1.2.1 lw_w1.2.2.1 zw_29 lw_y1 rfl rfl ⟨Nat.le_of_ble_eq_true rfl, Nat.le_of_ble_eq_true rfl⟩ ⟨(by show k + 0 ≤ 600130; omega), (by show n + 0 ≤ 7301080; omega)⟩ (Nat.le_of_ble_eq_true rfl) dL_law_143 (fun v X9 S9 h9 => ?_)
    obtain ⟨ra, rfl, rfl, e9⟩ := h9
    rw [e9]
    show zJ E (RL, cL_law, 19, (some .boolean), false, tb, zScr E b L xs) room_1 (fun v _ _ => v = some (.int 1)) (fun _ _ _ => False) 146 [(0, .ref b), (1, .ref x), (2, .ref (aa 0)), (3, .ref (aa 1)), (4, .ref (aa 2)), (5, .ref (aa 3)), (6, .ref (aa 4)), (7, .ref (aa 5)), (8, .ref (aa 6)), (9, .ref (aa 7)), (10, .ref (aa 8)), (11, .ref (aa 9)), (12, .ref (aa 10)), (13, .int (nI t))] [.int ra] (zPl E C ++ []) S (k + 0) (n + 0)
    rw [List.append_nil, Nat.add_zero, Nat.add_zero]
    refine z_istore (lv' := [(14, .int ra), (0, .ref b), (1, .ref x), (2, .ref (aa 0)), (3, .ref (aa 1)), (4, .ref (aa 2)), (5, .ref (aa 3)), (6, .ref (aa 4)), (7, .ref (aa 5)), (8, .ref (aa 6)), (9, .ref (aa 7)), (10, .ref (aa 8)), (11, .ref (aa 9)), (12, .ref (aa 10)), (13, .int (nI t))]) dL_law_146 (Nat.le_of_ble_eq_true rfl) rfl ?_
    rw [← app]
    refine z_aload_n 1 dL_law_148 rfl rfl ?_
    refine z_iconst (v := 3) dL_law_149 rfl ?_
    refine z_iload 14 dL_law_150 rfl ?_
    refine z_imul dL_law_152 ?_
    refine z_iconst (v := 1) dL_law_153 rfl ?_
    refine z_iadd dL_law_154 ?_
    rw [e31]
    refine z_callC (Y := zPl E C) (X1 := []) (st := []) rfl (w_L_cell (E := E) (xs := xs) (b := b) (L := L) (j := 3 * t + 1) (by omega) (by omega)) lw_w1.1 lw_w1.2.1 lw_w1.2.2.1 zw_29 lw_y1 rfl rfl ⟨Nat.le_of_ble_eq_true rfl, Nat.le_of_ble_eq_true rfl⟩ ⟨(by show k + 0 ≤ 600130; omega), (by show n + 0 ≤ 7301080; omega)⟩ (Nat.le_of_ble_eq_true rfl) dL_law_155 (fun v X9 S9 h9 => ?_)
    obtain ⟨ru, rfl, rfl, e9⟩ := h9
    rw [e9]
    show zJ E (RL, cL_law, 19, (some .boolean), false, tb, zScr E b L xs) room_1 (fun v _ _ => v = some (.int 1)) (fun _ _ _ => False) 158 [(14, .int ra), (0, .ref b), (1, .ref x), (2, .ref (aa 0)), (3, .ref (aa 1)), (4, .ref (aa 2)), (5, .ref (aa 3)), (6, .ref (aa 4)), (7, .ref (aa 5)), (8, .ref (aa 6)), (9, .ref (aa 7)), (10, .ref (aa 8)), (11, .ref (aa 9)), (12, .ref (aa 10)), (13, .int (nI t))] [.int ru] (zPl E C ++ []) S (k + 0) (n + 0)
    rw [List.append_nil, Nat.add_zero, Nat.add_zero]
    refine z_istore (lv' := [(15, .int ru), (14, .int ra), (0, .ref b), (1, .ref x), (2, .ref (aa 0)), (3, .ref (aa 1)), (4, .ref (aa 2)), (5, .ref (aa 3)), (6, .ref (aa 4)), (7, .ref (aa 5)), (8, .ref (aa 6)), (9, .ref (aa 7)), (10, .ref (aa 8)), (11, .ref (aa 9)), (12, .ref (aa 10)), (13, .int (nI t))]) dL_law_158 (Nat.le_of_ble_eq_true rfl) rfl ?_
    rw [← app]
    refine z_aload_n 2 dL_law_160 rfl rfl ?_
    refine z_iconst (v := 3) dL_law_161 rfl ?_
    refine z_iload 15 dL_law_162 rfl ?_
    refine z_imul dL_law_164 ?_
    refine z_iconst (v := 2) dL_law_165 rfl ?_
    refine z_iadd dL_law_166 ?_
    rw [e32]
    refine z_callC (Y := zPl E C) (X1 := []) (st := []) rfl (w_L_cell (E := E) (xs := xs) (b := b) (L := L) (j := 3 * t + 2) (by omega) (by omega)) lw_w1.1 lw_w1.2.1 lw_w1.2.2.1 zw_29 lw_y1 rfl rfl ⟨Nat.le_of_ble_eq_true rfl, Nat.le_of_ble_eq_true rfl⟩ ⟨(by show k + 0 ≤ 600130; omega), (by show n + 0 ≤ 7301080; omega)⟩ (Nat.le_of_ble_eq_true rfl) dL_law_167 (fun v X9 S9 h9 => ?_)
    obtain ⟨rv, rfl, rfl, e9⟩ := h9
    rw [e9]
    show zJ E (RL, cL_law, 19, (some .boolean), false, tb, zScr E b L xs) room_1 (fun v _ _ => v = some (.int 1)) (fun _ _ _ => False) 170 [(15, .int ru), (14, .int ra), (0, .ref b), (1, .ref x), (2, .ref (aa 0)), (3, .ref (aa 1)), (4, .ref (aa 2)), (5, .ref (aa 3)), (6, .ref (aa 4)), (7, .ref (aa 5)), (8, .ref (aa 6)), (9, .ref (aa 7)), (10, .ref (aa 8)), (11, .ref (aa 9)), (12, .ref (aa 10)), (13, .int (nI t))] [.int rv] (zPl E C ++ []) S (k + 0) (n + 0)
    rw [List.append_nil, Nat.add_zero, Nat.add_zero]
    refine z_istore (lv' := [(16, .int rv), (15, .int ru), (14, .int ra), (0, .ref b), (1, .ref x), (2, .ref (aa 0)), (3, .ref (aa 1)), (4, .ref (aa 2)), (5, .ref (aa 3)), (6, .ref (aa 4)), (7, .ref (aa 5)), (8, .ref (aa 6)), (9, .ref (aa 7)), (10, .ref (aa 8)), (11, .ref (aa 9)), (12, .ref (aa 10)), (13, .int (nI t))]) dL_law_170 (Nat.le_of_ble_eq_true rfl) rfl ?_
    have tail : ∀ (lv17 : Int32) (S C : zS), TT E aa x S C → zJ E (RL, cL_law, 19, (some .boolean), false, tb, zScr E b L xs) room_1 (fun v _ _ => v = some (.int 1)) (fun _ _ _ => False) 335 [(17, .int lv17), (16, .int rv), (15, .int ru), (14, .int ra), (0, .ref b), (1, .ref x), (2, .ref (aa 0)), (3, .ref (aa 1)), (4, .ref (aa 2)), (5, .ref (aa 3)), (6, .ref (aa 4)), (7, .ref (aa 5)), (8, .ref (aa 6)), (9, .ref (aa 7)), (10, .ref (aa 8)), (11, .ref (aa 9)), (12, .ref (aa 10)), (13, .int (nI t))] [.int 1] (zPl E C) S (k + 45) (n + 1398) := by
      intro lv17 S C tt
      refine z_istore (lv' := [(18, .int 1), (17, .int lv17), (16, .int rv), (15, .int ru), (14, .int ra), (0, .ref b), (1, .ref x), (2, .ref (aa 0)), (3, .ref (aa 1)), (4, .ref (aa 2)), (5, .ref (aa 3)), (6, .ref (aa 4)), (7, .ref (aa 5)), (8, .ref (aa 6)), (9, .ref (aa 7)), (10, .ref (aa 8)), (11, .ref (aa 9)), (12, .ref (aa 10)), (13, .int (nI t))]) dL_law_335 (Nat.le_of_ble_eq_true rfl) rfl ?_
      refine z_iload 0 dL_law_337 rfl ?_
      refine z_if_eq 376 dL_law_339 (by decide) (fun c => absurd c (by decide)) (fun _ => ?_)
      refine z_aload_n 6 dL_law_342 rfl rfl ?_
      refine z_iload 18 dL_law_343 rfl ?_
      refine z_iload 4 dL_law_345 rfl ?_
      refine z_iconst (v := 5) dL_law_347 rfl ?_
      refine z_ishr dL_law_348 ?_
      refine z_iload 2 dL_law_349 rfl ?_
      refine z_ixor dL_law_351 ?_
      refine z_aload_n 7 dL_law_352 rfl rfl ?_
      refine z_aload_n 8 dL_law_353 rfl rfl ?_
      refine z_aload 9 dL_law_354 rfl ?_
      refine z_aload 10 dL_law_356 rfl ?_
      refine z_aload 11 dL_law_358 rfl ?_
      refine z_aload 12 dL_law_360 rfl ?_
      refine z_aload 13 dL_law_362 rfl ?_
      refine z_aload 14 dL_law_364 rfl ?_
      refine z_aload 16 dL_law_366 rfl ?_
      refine z_aload 17 dL_law_368 rfl ?_
      refine z_callY (Y := []) (st := []) (w_L_isTold (Q := fun r S C => r = 1 ∧ TT E aa x S C) (X := fun _ _ => False) (l_isTold tt (fun S C t => ⟨rfl, t⟩))) lw_w5.1 lw_w5.2.1 lw_w5.2.2 zw_29 lw_y5 rfl rfl ⟨Nat.le_of_ble_eq_true rfl, Nat.le_of_ble_eq_true rfl⟩ ⟨(by show _ + 339 ≤ 600130; omega), (by show _ + 2266 ≤ 7301080; omega)⟩ (Nat.le_of_ble_eq_true rfl) dL_law_370 (fun v X9 S9 h9 => ?_)
      obtain ⟨r9, C9, rfl, rfl, rfl, tt9⟩ := h9
      show zJ E (RL, cL_law, 19, (some .boolean), false, tb, zScr E b L xs) room_1 (fun v _ _ => v = some (.int 1)) (fun _ _ _ => False) 373 [(18, .int 1), (17, .int lv17), (16, .int rv), (15, .int ru), (14, .int ra), (0, .ref b), (1, .ref x), (2, .ref (aa 0)), (3, .ref (aa 1)), (4, .ref (aa 2)), (5, .ref (aa 3)), (6, .ref (aa 4)), (7, .ref (aa 5)), (8, .ref (aa 6)), (9, .ref (aa 7)), (10, .ref (aa 8)), (11, .ref (aa 9)), (12, .ref (aa 10)), (13, .int (nI t))] [.int 1] (zPl E C9) S9 (k + 45 + 339) (n + 1398 + 2266)
      refine z_if_ne 378 dL_law_373 (by decide) (fun _ => ?_) (fun c => absurd c (by decide))
      refine z_iinc (v := nI (t + 1)) (lv' := [(13, .int (nI (t + 1))), (18, .int 1), (17, .int lv17), (16, .int rv), (15, .int ru), (14, .int ra), (0, .ref b), (1, .ref x), (2, .ref (aa 0)), (3, .ref (aa 1)), (4, .ref (aa 2)), (5, .ref (aa 3)), (6, .ref (aa 4)), (7, .ref (aa 5)), (8, .ref (aa 6)), (9, .ref (aa 7)), (10, .ref (aa 8)), (11, .ref (aa 9)), (12, .ref (aa 10))]) 18 dL_law_378 rfl (nI_1 t) (Nat.le_of_ble_eq_true rfl) rfl ?_
      refine z_goto 131 dL_law_381 (by decide) ?_
      refine z_sub [6, 7, 8, 9, 10, 11, 12, 13, 14, 15, 16, 17, 18, 0] (lv' := [(0, .ref b), (1, .ref x), (2, .ref (aa 0)), (3, .ref (aa 1)), (4, .ref (aa 2)), (5, .ref (aa 3)), (6, .ref (aa 4)), (7, .ref (aa 5)), (8, .ref (aa 6)), (9, .ref (aa 7)), (10, .ref (aa 8)), (11, .ref (aa 9)), (12, .ref (aa 10)), (13, .int (nI (t + 1)))]) rfl ?_
      exact law_loop hL w (t + 1) _ _ S9 C9 (by omega) (by omega) (by omega) (by omega) tt9
    have at221 : ∀ (act : Nat) (S : zS), act < 44 → TT E aa x S C → zJ E (RL, cL_law, 19, (some .boolean), false, tb, zScr E b L xs) room_1 (fun v _ _ => v = some (.int 1)) (fun _ _ _ => False) 221 [(16, .int rv), (15, .int ru), (14, .int ra), (0, .ref b), (1, .ref x), (2, .ref (aa 0)), (3, .ref (aa 1)), (4, .ref (aa 2)), (5, .ref (aa 3)), (6, .ref (aa 4)), (7, .ref (aa 5)), (8, .ref (aa 6)), (9, .ref (aa 7)), (10, .ref (aa 8)), (11, .ref (aa 9)), (12, .ref (aa 10)), (13, .int (nI t))] [.int (nI act)] (zPl E C) S (k) (n) := by
      intro act S hact tt
      refine z_istore (lv' := [(17, .int (nI act)), (16, .int rv), (15, .int ru), (14, .int ra), (0, .ref b), (1, .ref x), (2, .ref (aa 0)), (3, .ref (aa 1)), (4, .ref (aa 2)), (5, .ref (aa 3)), (6, .ref (aa 4)), (7, .ref (aa 5)), (8, .ref (aa 6)), (9, .ref (aa 7)), (10, .ref (aa 8)), (11, .ref (aa 9)), (12, .ref (aa 10)), (13, .int (nI t))]) dL_law_221 (Nat.le_of_ble_eq_true rfl) rfl ?_
      refine z_iload 0 dL_law_223 rfl ?_
      refine z_bipush (v := 15) dL_law_225 rfl ?_
      refine z_icmp_ge 253 dL_law_227 (by decide) (fun c15 => ?_) (fun _ => ?_)
      · refine z_iload 0 dL_law_253 rfl ?_
        refine z_bipush (v := 26) dL_law_255 rfl ?_
        have h15 : 15 ≤ act := (pk_le (A := 15 ≤ act) (B := True) 15 act (fun h => h) (fun _ => trivial)).1 c15
        refine z_icmp_ge 290 dL_law_257 (by decide) (fun c26 => ?_) (fun _ => ?_)
        · have h26 : 26 ≤ act := (pk_le (A := 26 ≤ act) (B := True) 26 act (fun h => h) (fun _ => trivial)).1 c26
          have at308 : ∀ a : Nat, zJ E (RL, cL_law, 19, (some .boolean), false, tb, zScr E b L xs) room_1 (fun v _ _ => v = some (.int 1)) (fun _ _ _ => False) 308 [(17, .int (nI act)), (16, .int rv), (15, .int ru), (14, .int ra), (0, .ref b), (1, .ref x), (2, .ref (aa 0)), (3, .ref (aa 1)), (4, .ref (aa 2)), (5, .ref (aa 3)), (6, .ref (aa 4)), (7, .ref (aa 5)), (8, .ref (aa 6)), (9, .ref (aa 7)), (10, .ref (aa 8)), (11, .ref (aa 9)), (12, .ref (aa 10)), (13, .int (nI t))] [.int (nI a), .ref x] (zPl E C) S (k) (n) := by
            intro a
            refine z_iload 2 dL_law_308 rfl ?_
            refine z_iload 1 dL_law_310 rfl ?_
            refine z_aload_n 6 dL_law_312 rfl rfl ?_
            refine z_aload_n 7 dL_law_313 rfl rfl ?_
            refine z_aload 8 dL_law_314 rfl ?_
            refine z_aload 9 dL_law_316 rfl ?_
            refine z_aload 10 dL_law_318 rfl ?_
            refine z_aload 11 dL_law_320 rfl ?_
            refine z_aload 12 dL_law_322 rfl ?_
            refine z_aload 13 dL_law_324 rfl ?_
            refine z_aload 14 dL_law_326 rfl ?_
            refine z_aload 15 dL_law_328 rfl ?_
            refine z_aload 16 dL_law_330 rfl ?_
            refine z_callY (Y := []) (st := []) (w_L_rings (Q := fun r S C => r = 1 ∧ TT E aa x S C) (X := fun _ _ => False) (l_rings tt (fun S C t => ⟨rfl, t⟩))) lw_w4.1 lw_w4.2.1 lw_w4.2.2 zw_29 lw_y4 rfl rfl ⟨Nat.le_of_ble_eq_true rfl, Nat.le_of_ble_eq_true rfl⟩ ⟨(by show _ + 25 ≤ 600130; omega), (by show _ + 150 ≤ 7301080; omega)⟩ (Nat.le_of_ble_eq_true rfl) dL_law_332 (fun v X9 S9 h9 => ?_)
            obtain ⟨r9, C9, rfl, rfl, rfl, tt9⟩ := h9
            exact z_widen (show k + 25 ≤ k + 45 by omega) (show n + 150 ≤ n + 1398 by omega) (tail _ S9 C9 tt9)
          refine z_aload_n 5 dL_law_290 rfl rfl ?_
          refine z_iload 0 dL_law_291 rfl ?_
          refine z_bipush (v := 32) dL_law_293 rfl ?_
          refine z_icmp_ge 306 dL_law_295 (by decide) (fun _ => ?_) (fun _ => ?_)
          · refine z_bipush (v := 6) dL_law_306 rfl ?_
            exact at308 6
          · refine z_iload 0 dL_law_298 rfl ?_
            refine z_bipush (v := 26) dL_law_300 rfl ?_
            refine z_isub dL_law_302 ?_
            refine z_goto 308 dL_law_303 (by decide) ?_
            rw [show (nI act - 26 : Int32) = nI (act - 26) from pk_sub (b := 26) (by omega)]
            exact at308 (act - 26)
        · refine z_aload_n 5 dL_law_260 rfl rfl ?_
          refine z_iload 0 dL_law_261 rfl ?_
          refine z_bipush (v := 15) dL_law_263 rfl ?_
          refine z_isub dL_law_265 ?_
          refine z_iload 2 dL_law_266 rfl ?_
          refine z_iload 1 dL_law_268 rfl ?_
          refine z_aload_n 6 dL_law_270 rfl rfl ?_
          refine z_aload_n 7 dL_law_271 rfl rfl ?_
          refine z_aload 8 dL_law_272 rfl ?_
          refine z_aload 9 dL_law_274 rfl ?_
          refine z_aload 10 dL_law_276 rfl ?_
          refine z_aload 11 dL_law_278 rfl ?_
          refine z_aload 15 dL_law_280 rfl ?_
          refine z_aload 16 dL_law_282 rfl ?_
          refine z_callY (Y := []) (st := []) (w_L_bells (Q := fun r S C => r = 1 ∧ TT E aa x S C) (X := fun _ _ => False) (l_bells tt (fun S C t => ⟨rfl, t⟩))) lw_w3.1 lw_w3.2.1 lw_w3.2.2 zw_29 lw_y3 rfl rfl ⟨Nat.le_of_ble_eq_true rfl, Nat.le_of_ble_eq_true rfl⟩ ⟨(by show _ + 12 ≤ 600130; omega), (by show _ + 102 ≤ 7301080; omega)⟩ (Nat.le_of_ble_eq_true rfl) dL_law_284 (fun v X9 S9 h9 => ?_)
          obtain ⟨r9, C9, rfl, rfl, rfl, tt9⟩ := h9
          refine z_goto 335 dL_law_287 (by decide) ?_
          exact z_widen (show k + 12 ≤ k + 45 by omega) (show n + 102 ≤ n + 1398 by omega) (tail _ S9 C9 tt9)
      · refine z_aload_n 5 dL_law_230 rfl rfl ?_
        refine z_iload 0 dL_law_231 rfl ?_
        refine z_iload 2 dL_law_233 rfl ?_
        refine z_iload 1 dL_law_235 rfl ?_
        refine z_aload_n 6 dL_law_237 rfl rfl ?_
        refine z_aload_n 7 dL_law_238 rfl rfl ?_
        refine z_aload 8 dL_law_239 rfl ?_
        refine z_aload 10 dL_law_241 rfl ?_
        refine z_aload 15 dL_law_243 rfl ?_
        refine z_aload 16 dL_law_245 rfl ?_
        refine z_callY (Y := []) (st := []) (w_L_methods (Q := fun r S C => r = 1 ∧ TT E aa x S C) (X := fun _ _ => False) (l_methods hact tt (fun S C t => ⟨rfl, t⟩))) lw_w2.1 lw_w2.2.1 lw_w2.2.2 zw_29 lw_y2 rfl rfl ⟨Nat.le_of_ble_eq_true rfl, Nat.le_of_ble_eq_true rfl⟩ ⟨(by show _ + 45 ≤ 600130; omega), (by show _ + 1398 ≤ 7301080; omega)⟩ (Nat.le_of_ble_eq_true rfl) dL_law_247 (fun v X9 S9 h9 => ?_)
        obtain ⟨r9, C9, rfl, rfl, rfl, tt9⟩ := h9
        refine z_goto 335 dL_law_250 (by decide) ?_
        exact tail _ S9 C9 tt9
    refine z_iload 16 dL_law_172 rfl ?_
    refine z_iconst (v := 2) dL_law_174 rfl ?_
    refine z_icmp_ge 182 dL_law_175 (by decide) (fun _ => ?_) (fun _ => ?_)
    · refine z_iload 16 dL_law_182 rfl ?_
      refine z_iconst (v := 2) dL_law_184 rfl ?_
      refine z_icmp_ne 192 dL_law_185 (by decide) (fun _ => ?_) (fun _ => ?_)
      · refine z_iload 16 dL_law_192 rfl ?_
        refine z_iconst (v := 3) dL_law_194 rfl ?_
        refine z_icmp_ne 203 dL_law_195 (by decide) (fun _ => ?_) (fun _ => ?_)
        · refine z_iload 16 dL_law_203 rfl ?_
          refine z_iconst (v := 4) dL_law_205 rfl ?_
          refine z_icmp_ne 214 dL_law_206 (by decide) (fun _ => ?_) (fun _ => ?_)
          · refine z_iload 2 dL_law_214 rfl ?_
            refine z_bipush (v := 44) dL_law_216 rfl ?_
            refine z_callSI (st := []) (w_L_low (Q := fun r S1 => ∃ j, j < 44 ∧ r = nI j ∧ S1 = S) (X := fun _ _ => False) (l_low (n := 44) (by decide) (by decide) (fun j hj => ⟨j, hj, rfl, rfl⟩))) zw_313 zw_311 zw_312 zw_29 zy_L_low rfl rfl ⟨Nat.le_of_ble_eq_true rfl, Nat.le_of_ble_eq_true rfl⟩ ⟨(by show k + 0 ≤ 600130; omega), (by show n + 0 ≤ 7301080; omega)⟩ (Nat.le_of_ble_eq_true rfl) dL_law_218 (fun _ _ hx => hx.elim) (fun r S1 h => ?_)
            obtain ⟨j, hj, rfl, e9⟩ := h
            rw [e9]
            exact at221 j _ hj tt
          · refine z_bipush (v := 20) dL_law_209 rfl ?_
            refine z_goto 221 dL_law_211 (by decide) ?_
            exact at221 20 _ (by decide) tt
        · refine z_bipush (v := 14) dL_law_198 rfl ?_
          refine z_goto 221 dL_law_200 (by decide) ?_
          exact at221 14 _ (by decide) tt
      · refine z_iconst (v := 4) dL_law_188 rfl ?_
        refine z_goto 221 dL_law_189 (by decide) ?_
        exact at221 4 _ (by decide) tt
    · refine z_iconst (v := 0) dL_law_178 rfl ?_
      refine z_goto 221 dL_law_179 (by decide) ?_
      exact at221 0 _ (by decide) tt
set_option maxRecDepth 20000 in
set_option maxHeartbeats 4000000 in
theorem law_start {S C : zS} (hL : L ≤ 260) (h : RA aa L0 S) (hc : RZ E x ZI C) : zJ E (RL, cL_law, 19, (some .boolean), false, tb, zScr E b L xs) room_1 (fun v _ _ => v = some (.int 1)) (fun _ _ _ => False) 69 [(12, .ref (aa 10)), (11, .ref (aa 9)), (10, .ref (aa 8)), (9, .ref (aa 7)), (8, .ref (aa 6)), (7, .ref (aa 5)), (6, .ref (aa 4)), (5, .ref (aa 3)), (4, .ref (aa 2)), (3, .ref (aa 1)), (2, .ref (aa 0)), (1, .ref x), (0, .ref b)] [] (zPl E C) S (183) (3587) := by
  refine z_aload 0 dL_law_69 rfl ?_
  refine z_bipush (v := 12) dL_law_71 rfl ?_
  refine z_sipush (v := 200) dL_law_73 rfl ?_
  refine z_iast (j := 12) (h.o 10).1 (h.o 10).2 rfl (h.i0 10 12).1 (h.i0 10 12).2 dL_law_76 ?_
  have h0 : RA aa (up L0 10 12 200) (sA S (aa 10) 12 200) := h.uA 10 12 200
  generalize sA S (aa 10) 12 200 = S0 at h0 ⊢
  refine z_iconst (v := 0) dL_law_77 rfl ?_
  refine z_istore (lv' := [(13, .int 0), (12, .ref (aa 10)), (11, .ref (aa 9)), (10, .ref (aa 8)), (9, .ref (aa 7)), (8, .ref (aa 6)), (7, .ref (aa 5)), (6, .ref (aa 4)), (5, .ref (aa 3)), (4, .ref (aa 2)), (3, .ref (aa 1)), (2, .ref (aa 0)), (1, .ref x), (0, .ref b)]) dL_law_78 (Nat.le_of_ble_eq_true rfl) rfl ?_
  refine z_iload 0 dL_law_80 rfl ?_
  refine z_iconst (v := 4) dL_law_82 rfl ?_
  refine z_icmp_ge 99 dL_law_83 (by decide) (fun c => absurd c (by decide)) (fun _ => ?_)
  refine z_aload 6 dL_law_86 rfl ?_
  refine z_iload 0 dL_law_88 rfl ?_
  refine z_bipush (v := 6) dL_law_90 rfl ?_
  refine z_iast (j := 0) (h0.o 5).1 (h0.o 5).2 rfl (h0.i0 5 0).1 (h0.i0 5 0).2 dL_law_92 ?_
  have h1 := h0.uA 5 0 6
  replace h1 : RA aa _ (sA S0 (aa 5) 0 6) := h1
  generalize sA S0 (aa 5) 0 6 = S1 at h1 ⊢
  refine z_iinc (v := 1) (lv' := [(13, .int 1), (12, .ref (aa 10)), (11, .ref (aa 9)), (10, .ref (aa 8)), (9, .ref (aa 7)), (8, .ref (aa 6)), (7, .ref (aa 5)), (6, .ref (aa 4)), (5, .ref (aa 3)), (4, .ref (aa 2)), (3, .ref (aa 1)), (2, .ref (aa 0)), (1, .ref x), (0, .ref b)]) 0 dL_law_93 rfl (by decide) (Nat.le_of_ble_eq_true rfl) rfl ?_
  refine z_goto 80 dL_law_96 (by decide) ?_
  refine z_iload 0 dL_law_80 rfl ?_
  refine z_iconst (v := 4) dL_law_82 rfl ?_
  refine z_icmp_ge 99 dL_law_83 (by decide) (fun c => absurd c (by decide)) (fun _ => ?_)
  refine z_aload 6 dL_law_86 rfl ?_
  refine z_iload 0 dL_law_88 rfl ?_
  refine z_bipush (v := 6) dL_law_90 rfl ?_
  refine z_iast (j := 1) (h1.o 5).1 (h1.o 5).2 rfl (h1.i0 5 1).1 (h1.i0 5 1).2 dL_law_92 ?_
  have h2 := h1.uA 5 1 6
  replace h2 : RA aa _ (sA S1 (aa 5) 1 6) := h2
  generalize sA S1 (aa 5) 1 6 = S2 at h2 ⊢
  refine z_iinc (v := 2) (lv' := [(13, .int 2), (12, .ref (aa 10)), (11, .ref (aa 9)), (10, .ref (aa 8)), (9, .ref (aa 7)), (8, .ref (aa 6)), (7, .ref (aa 5)), (6, .ref (aa 4)), (5, .ref (aa 3)), (4, .ref (aa 2)), (3, .ref (aa 1)), (2, .ref (aa 0)), (1, .ref x), (0, .ref b)]) 0 dL_law_93 rfl (by decide) (Nat.le_of_ble_eq_true rfl) rfl ?_
  refine z_goto 80 dL_law_96 (by decide) ?_
  refine z_iload 0 dL_law_80 rfl ?_
  refine z_iconst (v := 4) dL_law_82 rfl ?_
  refine z_icmp_ge 99 dL_law_83 (by decide) (fun c => absurd c (by decide)) (fun _ => ?_)
  refine z_aload 6 dL_law_86 rfl ?_
  refine z_iload 0 dL_law_88 rfl ?_
  refine z_bipush (v := 6) dL_law_90 rfl ?_
  refine z_iast (j := 2) (h2.o 5).1 (h2.o 5).2 rfl (h2.i0 5 2).1 (h2.i0 5 2).2 dL_law_92 ?_
  have h3 := h2.uA 5 2 6
  replace h3 : RA aa _ (sA S2 (aa 5) 2 6) := h3
  generalize sA S2 (aa 5) 2 6 = S3 at h3 ⊢
  refine z_iinc (v := 3) (lv' := [(13, .int 3), (12, .ref (aa 10)), (11, .ref (aa 9)), (10, .ref (aa 8)), (9, .ref (aa 7)), (8, .ref (aa 6)), (7, .ref (aa 5)), (6, .ref (aa 4)), (5, .ref (aa 3)), (4, .ref (aa 2)), (3, .ref (aa 1)), (2, .ref (aa 0)), (1, .ref x), (0, .ref b)]) 0 dL_law_93 rfl (by decide) (Nat.le_of_ble_eq_true rfl) rfl ?_
  refine z_goto 80 dL_law_96 (by decide) ?_
  refine z_iload 0 dL_law_80 rfl ?_
  refine z_iconst (v := 4) dL_law_82 rfl ?_
  refine z_icmp_ge 99 dL_law_83 (by decide) (fun c => absurd c (by decide)) (fun _ => ?_)
  refine z_aload 6 dL_law_86 rfl ?_
  refine z_iload 0 dL_law_88 rfl ?_
  refine z_bipush (v := 6) dL_law_90 rfl ?_
  refine z_iast (j := 3) (h3.o 5).1 (h3.o 5).2 rfl (h3.i0 5 3).1 (h3.i0 5 3).2 dL_law_92 ?_
  have h4 := h3.uA 5 3 6
  replace h4 : RA aa _ (sA S3 (aa 5) 3 6) := h4
  generalize sA S3 (aa 5) 3 6 = S4 at h4 ⊢
  refine z_iinc (v := 4) (lv' := [(13, .int 4), (12, .ref (aa 10)), (11, .ref (aa 9)), (10, .ref (aa 8)), (9, .ref (aa 7)), (8, .ref (aa 6)), (7, .ref (aa 5)), (6, .ref (aa 4)), (5, .ref (aa 3)), (4, .ref (aa 2)), (3, .ref (aa 1)), (2, .ref (aa 0)), (1, .ref x), (0, .ref b)]) 0 dL_law_93 rfl (by decide) (Nat.le_of_ble_eq_true rfl) rfl ?_
  refine z_goto 80 dL_law_96 (by decide) ?_
  refine z_iload 0 dL_law_80 rfl ?_
  refine z_iconst (v := 4) dL_law_82 rfl ?_
  refine z_icmp_ge 99 dL_law_83 (by decide) (fun _ => ?_) (fun c => absurd (by decide) c)
  have tt : TT E aa x S4 C := ⟨L1, ZI, h4, LZ_I, hc, NB_I⟩
  refine z_aload_n 12 dL_law_99 rfl rfl ?_
  refine z_iconst (v := 0) dL_law_100 rfl ?_
  refine z_iconst (v := 0) dL_law_101 rfl ?_
  refine z_aload_n 11 dL_law_102 rfl rfl ?_
  refine z_aload_n 10 dL_law_103 rfl rfl ?_
  refine z_aload 9 dL_law_104 rfl ?_
  refine z_aload 8 dL_law_106 rfl ?_
  refine z_aload 7 dL_law_108 rfl ?_
  refine z_aload 6 dL_law_110 rfl ?_
  refine z_aload 5 dL_law_112 rfl ?_
  refine z_aload 4 dL_law_114 rfl ?_
  refine z_aload 2 dL_law_116 rfl ?_
  refine z_aload 1 dL_law_118 rfl ?_
  refine z_callY (Y := []) (st := []) (w_L_isTold (Q := fun r S C => r = 1 ∧ TT E aa x S C) (X := fun _ _ => False) (l_isTold tt (fun S C t => ⟨rfl, t⟩))) lw_w5.1 lw_w5.2.1 lw_w5.2.2 zw_29 lw_y5 rfl rfl ⟨Nat.le_of_ble_eq_true rfl, Nat.le_of_ble_eq_true rfl⟩ ⟨(by show _ + 339 ≤ 600130; omega), (by show _ + 2266 ≤ 7301080; omega)⟩ (Nat.le_of_ble_eq_true rfl) dL_law_120 (fun v X9 S9 h9 => ?_)
  obtain ⟨r9, C9, rfl, rfl, rfl, tt9⟩ := h9
  show zJ E (RL, cL_law, 19, (some .boolean), false, tb, zScr E b L xs) room_1 (fun v _ _ => v = some (.int 1)) (fun _ _ _ => False) 123 [(13, .int 4), (12, .ref (aa 10)), (11, .ref (aa 9)), (10, .ref (aa 8)), (9, .ref (aa 7)), (8, .ref (aa 6)), (7, .ref (aa 5)), (6, .ref (aa 4)), (5, .ref (aa 3)), (4, .ref (aa 2)), (3, .ref (aa 1)), (2, .ref (aa 0)), (1, .ref x), (0, .ref b)] [.int 1] (zPl E C9) S9 (183 + 339) (3587 + 2266)
  refine z_if_ne 128 dL_law_123 (by decide) (fun _ => ?_) (fun c => absurd c (by decide))
  refine z_iconst (v := 0) dL_law_128 rfl ?_
  refine z_istore (lv' := [(13, .int 0), (12, .ref (aa 10)), (11, .ref (aa 9)), (10, .ref (aa 8)), (9, .ref (aa 7)), (8, .ref (aa 6)), (7, .ref (aa 5)), (6, .ref (aa 4)), (5, .ref (aa 3)), (4, .ref (aa 2)), (3, .ref (aa 1)), (2, .ref (aa 0)), (1, .ref x), (0, .ref b)]) dL_law_129 (Nat.le_of_ble_eq_true rfl) rfl ?_
  refine z_sub [13, 12, 11, 10, 9, 8, 7, 6, 5, 4, 3, 2, 1, 0] (lv' := [(0, .ref b), (1, .ref x), (2, .ref (aa 0)), (3, .ref (aa 1)), (4, .ref (aa 2)), (5, .ref (aa 3)), (6, .ref (aa 4)), (7, .ref (aa 5)), (8, .ref (aa 6)), (9, .ref (aa 7)), (10, .ref (aa 8)), (11, .ref (aa 9)), (12, .ref (aa 10)), (13, .int (nI 0))]) rfl ?_
  exact law_loop hL 111 0 _ _ S9 C9 (by decide) (by decide) (by decide) (by decide) tt9
end LAW
section ZB
variable {E : zE} {I : zI} {R : Room} {Q : Option Value → va_W → zS → Prop} {XC : String → va_W → zS → Prop} {pc : Nat} {lv : List (Nat × Value)} {st : List Value} {k n : Nat}
theorem z_open {Sc : zS} (kk : zJ E I R Q XC pc lv st (zPl E Sc) zS0 k n) : zJ E I R Q XC pc lv st [] Sc k n := by
  intro p e s m args below meth c0 H locs ls A C0 K h1 h2 hS hP hD hl
  have e9 : zPl E Sc ++ zPl E zS0 = [] ++ zPl E Sc := List.append_nil _
  exact kk p e s m args below meth c0 H locs ls A C0 K h1 h2 hS (by rw [e9]; exact hP) (by rw [e9]; exact hD) hl
end ZB
set_option maxRecDepth 20000 in
set_option maxHeartbeats 4000000 in
theorem law_body {E : zE} {b L : Nat} {xs : Nat → Int32} {tb : List ExceptionTableEntry} (hL : L ≤ 260) : zJ E (RL, cL_law, 19, (some .boolean), false, tb, zScr E b L xs) room_1 (fun v _ _ => v = some (.int 1)) (fun _ _ _ => False) 0 [(0, .ref b)] [] ([]) zS0 (0) (0) := by
  refine z_new (c := 10) (ty0 := tyX10) (Nat.le_of_ble_eq_true rfl) rfl zU_X10 tyX10_ok z0_X10 lw_w6.1 lw_w6.2.1 lw_w6.2.2.1 (Nat.le_of_ble_eq_true rfl) (Nat.le_of_ble_eq_true rfl) dL_law_0 (fun x hx1 => ?_)
  refine z_widen (k' := 1) (n' := 14) (Nat.le_refl _) (Nat.le_refl _) ?_
  refine z_dup dL_law_3 rfl ?_
  refine z_callIV (st := [.ref x]) (w_X10_init (Q := fun Sc => RZ E x ZI Sc) (X := (fun _ _ => False)) (j_init x)) lw_w6.2.2.2.2.2.1 lw_w6.2.2.2.1 lw_w6.2.2.2.2.1 lw_w6.2.2.1 rfl zy_X10_init rfl rfl ⟨Nat.le_of_ble_eq_true rfl, Nat.le_of_ble_eq_true rfl⟩ ⟨Nat.le_of_ble_eq_true rfl, Nat.le_of_ble_eq_true rfl⟩ (Nat.le_of_ble_eq_true rfl) dL_law_4 (fun _ _ hx => hx.elim) (fun Sc h => ?_)
  refine z_widen (k' := 172) (n' := 3389) (Nat.le_refl _) (Nat.le_refl _) ?_
  refine z_astore_n (lv' := [(1, .ref x), (0, .ref b)]) dL_law_7 rfl (Nat.le_of_ble_eq_true rfl) rfl ?_
  refine z_open ?_
  refine z_iconst (v := 3) dL_law_8 rfl ?_
  refine z_newl (N := 3) lw_w6.2.2.2.2.2.2.1 rfl (by decide) (Nat.le_of_ble_eq_true rfl) (Nat.le_of_ble_eq_true rfl) dL_law_9 (fun q0 m0 => ?_)
  refine z_widen (k' := 173) (n' := 3392) (Nat.le_refl _) (Nat.le_refl _) ?_
  refine z_astore_n (lv' := [(2, .ref q0), (1, .ref x), (0, .ref b)]) dL_law_11 rfl (Nat.le_of_ble_eq_true rfl) rfl ?_
  have r0 := RAp.z.s m0
  refine z_iconst (v := 4) dL_law_12 rfl ?_
  refine z_newa (c := 12) (N := 4) (Or.inl ⟨rfl, rfl⟩) lw_w6.2.2.2.2.2.2.2 rfl (by decide) (Nat.le_of_ble_eq_true rfl) (Nat.le_of_ble_eq_true rfl) dL_law_13 (fun q1 m1 => ?_)
  refine z_widen (k' := 174) (n' := 3396) (Nat.le_refl _) (Nat.le_refl _) ?_
  refine z_astore_n (lv' := [(3, .ref q1), (2, .ref q0), (1, .ref x), (0, .ref b)]) dL_law_15 rfl (Nat.le_of_ble_eq_true rfl) rfl ?_
  have r1 := r0.s m1
  refine z_bipush (v := 61) dL_law_16 rfl ?_
  refine z_newa (c := 12) (N := 61) (Or.inl ⟨rfl, rfl⟩) lw_w6.2.2.2.2.2.2.2 rfl (by decide) (Nat.le_of_ble_eq_true rfl) (Nat.le_of_ble_eq_true rfl) dL_law_18 (fun q2 m2 => ?_)
  refine z_widen (k' := 175) (n' := 3457) (Nat.le_refl _) (Nat.le_refl _) ?_
  refine z_astore (lv' := [(4, .ref q2), (3, .ref q1), (2, .ref q0), (1, .ref x), (0, .ref b)]) dL_law_20 (Nat.le_of_ble_eq_true rfl) rfl ?_
  have r2 := r1.s m2
  refine z_bipush (v := 12) dL_law_22 rfl ?_
  refine z_newa (c := 12) (N := 12) (Or.inl ⟨rfl, rfl⟩) lw_w6.2.2.2.2.2.2.2 rfl (by decide) (Nat.le_of_ble_eq_true rfl) (Nat.le_of_ble_eq_true rfl) dL_law_24 (fun q3 m3 => ?_)
  refine z_widen (k' := 176) (n' := 3469) (Nat.le_refl _) (Nat.le_refl _) ?_
  refine z_astore (lv' := [(5, .ref q3), (4, .ref q2), (3, .ref q1), (2, .ref q0), (1, .ref x), (0, .ref b)]) dL_law_26 (Nat.le_of_ble_eq_true rfl) rfl ?_
  have r3 := r2.s m3
  refine z_bipush (v := 6) dL_law_28 rfl ?_
  refine z_newa (c := 12) (N := 6) (Or.inl ⟨rfl, rfl⟩) lw_w6.2.2.2.2.2.2.2 rfl (by decide) (Nat.le_of_ble_eq_true rfl) (Nat.le_of_ble_eq_true rfl) dL_law_30 (fun q4 m4 => ?_)
  refine z_widen (k' := 177) (n' := 3475) (Nat.le_refl _) (Nat.le_refl _) ?_
  refine z_astore (lv' := [(6, .ref q4), (5, .ref q3), (4, .ref q2), (3, .ref q1), (2, .ref q0), (1, .ref x), (0, .ref b)]) dL_law_32 (Nat.le_of_ble_eq_true rfl) rfl ?_
  have r4 := r3.s m4
  refine z_iconst (v := 4) dL_law_34 rfl ?_
  refine z_newa (c := 12) (N := 4) (Or.inl ⟨rfl, rfl⟩) lw_w6.2.2.2.2.2.2.2 rfl (by decide) (Nat.le_of_ble_eq_true rfl) (Nat.le_of_ble_eq_true rfl) dL_law_35 (fun q5 m5 => ?_)
  refine z_widen (k' := 178) (n' := 3479) (Nat.le_refl _) (Nat.le_refl _) ?_
  refine z_astore (lv' := [(7, .ref q5), (6, .ref q4), (5, .ref q3), (4, .ref q2), (3, .ref q1), (2, .ref q0), (1, .ref x), (0, .ref b)]) dL_law_37 (Nat.le_of_ble_eq_true rfl) rfl ?_
  have r5 := r4.s m5
  refine z_bipush (v := 12) dL_law_39 rfl ?_
  refine z_newa (c := 12) (N := 12) (Or.inl ⟨rfl, rfl⟩) lw_w6.2.2.2.2.2.2.2 rfl (by decide) (Nat.le_of_ble_eq_true rfl) (Nat.le_of_ble_eq_true rfl) dL_law_41 (fun q6 m6 => ?_)
  refine z_widen (k' := 179) (n' := 3491) (Nat.le_refl _) (Nat.le_refl _) ?_
  refine z_astore (lv' := [(8, .ref q6), (7, .ref q5), (6, .ref q4), (5, .ref q3), (4, .ref q2), (3, .ref q1), (2, .ref q0), (1, .ref x), (0, .ref b)]) dL_law_43 (Nat.le_of_ble_eq_true rfl) rfl ?_
  have r6 := r5.s m6
  refine z_bipush (v := 6) dL_law_45 rfl ?_
  refine z_newa (c := 12) (N := 6) (Or.inl ⟨rfl, rfl⟩) lw_w6.2.2.2.2.2.2.2 rfl (by decide) (Nat.le_of_ble_eq_true rfl) (Nat.le_of_ble_eq_true rfl) dL_law_47 (fun q7 m7 => ?_)
  refine z_widen (k' := 180) (n' := 3497) (Nat.le_refl _) (Nat.le_refl _) ?_
  refine z_astore (lv' := [(9, .ref q7), (8, .ref q6), (7, .ref q5), (6, .ref q4), (5, .ref q3), (4, .ref q2), (3, .ref q1), (2, .ref q0), (1, .ref x), (0, .ref b)]) dL_law_49 (Nat.le_of_ble_eq_true rfl) rfl ?_
  have r7 := r6.s m7
  refine z_bipush (v := 48) dL_law_51 rfl ?_
  refine z_newl (N := 48) lw_w6.2.2.2.2.2.2.1 rfl (by decide) (Nat.le_of_ble_eq_true rfl) (Nat.le_of_ble_eq_true rfl) dL_law_53 (fun q8 m8 => ?_)
  refine z_widen (k' := 181) (n' := 3545) (Nat.le_refl _) (Nat.le_refl _) ?_
  refine z_astore (lv' := [(10, .ref q8), (9, .ref q7), (8, .ref q6), (7, .ref q5), (6, .ref q4), (5, .ref q3), (4, .ref q2), (3, .ref q1), (2, .ref q0), (1, .ref x), (0, .ref b)]) dL_law_55 (Nat.le_of_ble_eq_true rfl) rfl ?_
  have r8 := r7.s m8
  refine z_bipush (v := 16) dL_law_57 rfl ?_
  refine z_newa (c := 12) (N := 16) (Or.inl ⟨rfl, rfl⟩) lw_w6.2.2.2.2.2.2.2 rfl (by decide) (Nat.le_of_ble_eq_true rfl) (Nat.le_of_ble_eq_true rfl) dL_law_59 (fun q9 m9 => ?_)
  refine z_widen (k' := 182) (n' := 3561) (Nat.le_refl _) (Nat.le_refl _) ?_
  refine z_astore (lv' := [(11, .ref q9), (10, .ref q8), (9, .ref q7), (8, .ref q6), (7, .ref q5), (6, .ref q4), (5, .ref q3), (4, .ref q2), (3, .ref q1), (2, .ref q0), (1, .ref x), (0, .ref b)]) dL_law_61 (Nat.le_of_ble_eq_true rfl) rfl ?_
  have r9 := r8.s m9
  refine z_bipush (v := 26) dL_law_63 rfl ?_
  refine z_newa (c := 12) (N := 26) (Or.inl ⟨rfl, rfl⟩) lw_w6.2.2.2.2.2.2.2 rfl (by decide) (Nat.le_of_ble_eq_true rfl) (Nat.le_of_ble_eq_true rfl) dL_law_65 (fun q10 m10 => ?_)
  refine z_widen (k' := 183) (n' := 3587) (Nat.le_refl _) (Nat.le_refl _) ?_
  refine z_astore (lv' := [(12, .ref q10), (11, .ref q9), (10, .ref q8), (9, .ref q7), (8, .ref q6), (7, .ref q5), (6, .ref q4), (5, .ref q3), (4, .ref q2), (3, .ref q1), (2, .ref q0), (1, .ref x), (0, .ref b)]) dL_law_67 (Nat.le_of_ble_eq_true rfl) rfl ?_
  have r10 := r9.s m10
  exact law_start hL r10.e h
