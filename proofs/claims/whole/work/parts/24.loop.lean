def SIM (E : zE) (x m : Nat) (RR : zS → zS → Prop) : Prop := sim_change E x m RR ∧ sim_dropChanges E x m RR ∧ sim_method E x m RR ∧ sim_setCall E x m RR ∧ sim_stage E x m RR ∧ sim_changeAt E x m RR ∧ sim_head E x m RR ∧ sim_course E x m RR ∧ sim_isFalse E x m RR ∧ sim_falseRows E x m RR ∧ sim_lead E x m RR ∧ sim_dropLeads E x m RR ∧ sim_touch E x m RR ∧ sim_compose E x m RR ∧ sim_touches E x m RR ∧ sim_leads E x m RR ∧ sim_leadAt E x m RR ∧ sim_rows E x m RR ∧ sim_rowAt E x m RR ∧ sim_bellAt E x m RR ∧ sim_isTrue E x m RR ∧ sim_comesRound E x m RR ∧ sim_firstRepeat E x m RR ∧ sim_takeOut E x m RR ∧ sim_bringIn E x m RR ∧ sim_mend E x m RR ∧ sim_wear E x m RR ∧ sim_isIn E x m RR ∧ sim_setBand E x m RR ∧ sim_plan E x m RR ∧ sim_planned E x m RR ∧ sim_plannedAt E x m RR ∧ sim_rota E x m RR ∧ sim_pass E x m RR ∧ sim_today E x m RR ∧ sim_dropped E x m RR ∧ sim_ring E x m RR ∧ sim_stand E x m RR ∧ sim_isRinging E x m RR ∧ sim_pull E x m RR ∧ sim_due E x m RR ∧ sim_setPatience E x m RR ∧ sim_done E x m RR ∧ sim_delay E x m RR ∧ sim_late E x m RR ∧ sim_early E x m RR ∧ sim_errors E x m RR ∧ sim_wrong E x m RR ∧ sim_rung E x m RR ∧ sim_latest E x m RR
theorem law_gt {L ii : Nat} (hL : L ≤ 2048) (hi : ii ≤ 4096) : (nI L - 4 < nI ii ↔ L < ii + 4) := by
  rw [Int32.lt_iff_toInt_lt, show (4 : Int32) = nI 4 from rfl, pk_sub_toInt (by omega) (by omega), nI_toInt (by omega)]
  omega
set_option maxRecDepth 20000 in
set_option maxHeartbeats 4000000 in
theorem law_end {E : zE} {b L x m q ii : Nat} {xs : Nat → Int32} {tb : List ExceptionTableEntry} {Q : Option Value → va_W → zS → Prop} {XC : String → va_W → zS → Prop} {X : va_W} {S : zS} {k n : Nat} (h : zJ E (RL, cL_law, 7, (some .boolean), false, tb, zScr E b L xs) room_1 Q XC 23 [(0, .ref b), (1, .ref x), (2, .ref m), (3, .ref q), (4, .int (nI (ii + 4)))] [] X S k n) : zJ E (RL, cL_law, 7, (some .boolean), false, tb, zScr E b L xs) room_1 Q XC 2818 [(0, .ref b), (1, .ref x), (2, .ref m), (3, .ref q), (4, .int (nI ii))] [] X S k n := by
  refine z_iinc (v := nI (ii + 4)) (lv' := [(4, .int (nI (ii + 4))), (0, .ref b), (1, .ref x), (2, .ref m), (3, .ref q)]) 4 dL_law_2818 rfl (show nI ii + 4 = nI (ii + 4) from nI_add ii 4) (Nat.le_of_ble_eq_true rfl) rfl ?_
  refine z_goto 23 dL_law_2821 (by decide) ?_
  exact z_sub [1, 2, 3, 4, 0] rfl h
set_option maxRecDepth 20000 in
set_option maxHeartbeats 4000000 in
theorem law_loop {E : zE} {b L x m q : Nat} {xs : Nat → Int32} {tb : List ExceptionTableEntry} {RR : zS → zS → Prop} (hsim : SIM E x m RR) (hx : ∀ Sc Sm, RR Sc Sm → (x ∈ gL Sc ∧ gK Sc x = 10) ∧ (m ∈ gL Sm ∧ gK Sm m = 11)) (hL : L ≤ 2048) : ∀ (w ii k n : Nat) (f : Nat → Int64) (Sc Sm : zS), RR Sc Sm → L ≤ ii + 4 * w → ii ≤ 2052 → k + w * 16 ≤ room_1.cells → n + w * 480 ≤ room_1.slots →
    zJ E (RL, cL_law, 7, (some .boolean), false, tb, zScr E b L xs) room_1 (fun v _ _ => v = some (.int 1)) (fun _ _ _ => False) 23 [(0, .ref b), (1, .ref x), (2, .ref m), (3, .ref q), (4, .int (nI ii))] [] (zPl E Sm ++ [(q, zcl E f)]) Sc k n := by
  obtain ⟨h0, h1, h2, h3, h4, h5, h6, h7, h8, h9, h10, h11, h12, h13, h14, h15, h16, h17, h18, h19, h20, h21, h22, h23, h24, h25, h26, h27, h28, h29, h30, h31, h32, h33, h34, h35, h36, h37, h38, h39, h40, h41, h42, h43, h44, h45, h46, h47, h48, h49⟩ := hsim
  intro w
  induction w with
  | zero =>
    intro ii k n f Sc Sm hR hw hii hk hn
    refine z_iload 4 dL_law_23 rfl ?_
    refine z_aload_n 0 dL_law_25 rfl rfl ?_
    refine z_slen rfl dL_law_26 ?_
    refine z_iconst (v := 4) dL_law_27 rfl ?_
    refine z_isub dL_law_28 ?_
    refine z_icmp_gt 2824 dL_law_29 (by decide) (fun c => ?_) (fun c => ?_)
    · refine z_iconst (v := 1) dL_law_2824 rfl ?_
      exact z_zreturn rfl rfl (by decide) (by omega) (by omega) dL_law_2825
    · exact absurd ((law_gt hL (by omega)).mpr (by omega)) c
  | succ w ih =>
    intro ii k n f Sc Sm hR hw hii hk hn
    refine z_iload 4 dL_law_23 rfl ?_
    refine z_aload_n 0 dL_law_25 rfl rfl ?_
    refine z_slen rfl dL_law_26 ?_
    refine z_iconst (v := 4) dL_law_27 rfl ?_
    refine z_isub dL_law_28 ?_
    refine z_icmp_gt 2824 dL_law_29 (by decide) (fun c => ?_) (fun c => ?_)
    · refine z_iconst (v := 1) dL_law_2824 rfl ?_
      exact z_zreturn rfl rfl (by decide) (by omega) (by omega) dL_law_2825
    · have hi : ii + 3 < L := by
        rcases Nat.lt_or_ge (ii + 3) L with g | g
        · exact g
        · exact absurd ((law_gt hL (by omega)).mpr (by omega)) c
      have hk1 : k + 16 ≤ room_1.cells := by omega
      have hn1 : n + 480 ≤ room_1.slots := by omega
      have hend : ∀ (f1 : Nat → Int64) (S1 S2 : zS), RR S1 S2 → zJ E (RL, cL_law, 7, (some .boolean), false, tb, zScr E b L xs) room_1 (fun v _ _ => v = some (.int 1)) (fun _ _ _ => False) 2818 [(0, .ref b), (1, .ref x), (2, .ref m), (3, .ref q), (4, .int (nI ii))] [] (zPl E S2 ++ [(q, zcl E f1)]) S1 (k + 16) (n + 480) := fun f1 S1 S2 hR1 => law_end (ih (ii + 4) (k + 16) (n + 480) f1 S1 S2 hR1 (by omega) (by omega) (by omega) (by omega))
      refine z_aload_n 0 dL_law_32 rfl rfl ?_
      refine z_iload 4 dL_law_33 rfl ?_
      refine z_sld (j := ii) rfl rfl (by omega) (by omega) dL_law_35 ?_
      refine z_bipush (v := 63) dL_law_36 rfl ?_
      refine z_iand dL_law_38 ?_
      obtain ⟨j, hj, hw9⟩ := pk_andE (xs ii) (m := 63) 6 (by decide)
      rw [hw9]
      have hj9 : j = 0 ∨ j = 1 ∨ j = 2 ∨ j = 3 ∨ j = 4 ∨ j = 5 ∨ j = 6 ∨ j = 7 ∨ j = 8 ∨ j = 9 ∨ j = 10 ∨ j = 11 ∨ j = 12 ∨ j = 13 ∨ j = 14 ∨ j = 15 ∨ j = 16 ∨ j = 17 ∨ j = 18 ∨ j = 19 ∨ j = 20 ∨ j = 21 ∨ j = 22 ∨ j = 23 ∨ j = 24 ∨ j = 25 ∨ j = 26 ∨ j = 27 ∨ j = 28 ∨ j = 29 ∨ j = 30 ∨ j = 31 ∨ j = 32 ∨ j = 33 ∨ j = 34 ∨ j = 35 ∨ j = 36 ∨ j = 37 ∨ j = 38 ∨ j = 39 ∨ j = 40 ∨ j = 41 ∨ j = 42 ∨ j = 43 ∨ j = 44 ∨ j = 45 ∨ j = 46 ∨ j = 47 ∨ j = 48 ∨ j = 49 ∨ 50 ≤ j := by omega
      rcases hj9 with rfl | rfl | rfl | rfl | rfl | rfl | rfl | rfl | rfl | rfl | rfl | rfl | rfl | rfl | rfl | rfl | rfl | rfl | rfl | rfl | rfl | rfl | rfl | rfl | rfl | rfl | rfl | rfl | rfl | rfl | rfl | rfl | rfl | rfl | rfl | rfl | rfl | rfl | rfl | rfl | rfl | rfl | rfl | rfl | rfl | rfl | rfl | rfl | rfl | rfl | h50
      · refine z_swIn (off := 213) 252 dL_law_39 (by decide) (by decide) (by decide) (by decide) ?_
        exact lc_change h0 hx hi hL hk1 hn1 hR hend
      · refine z_swIn (off := 269) 308 dL_law_39 (by decide) (by decide) (by decide) (by decide) ?_
        exact lc_dropChanges h1 hx hi hL hk1 hn1 hR hend
      · refine z_swIn (off := 282) 321 dL_law_39 (by decide) (by decide) (by decide) (by decide) ?_
        exact lc_method h2 hx hi hL hk1 hn1 hR hend
      · refine z_swIn (off := 338) 377 dL_law_39 (by decide) (by decide) (by decide) (by decide) ?_
        exact lc_setCall h3 hx hi hL hk1 hn1 hR hend
      · refine z_swIn (off := 418) 457 dL_law_39 (by decide) (by decide) (by decide) (by decide) ?_
        exact lc_stage h4 hx hi hL hk1 hn1 hR hend
      · refine z_swIn (off := 474) 513 dL_law_39 (by decide) (by decide) (by decide) (by decide) ?_
        exact lc_changeAt h5 hx hi hL hk1 hn1 hR hend
      · refine z_swIn (off := 554) 593 dL_law_39 (by decide) (by decide) (by decide) (by decide) ?_
        exact lc_head h6 hx hi hL hk1 hn1 hR hend
      · refine z_swIn (off := 622) 661 dL_law_39 (by decide) (by decide) (by decide) (by decide) ?_
        exact lc_course h7 hx hi hL hk1 hn1 hR hend
      · refine z_swIn (off := 678) 717 dL_law_39 (by decide) (by decide) (by decide) (by decide) ?_
        exact lc_isFalse h8 hx hi hL hk1 hn1 hR hend
      · refine z_swIn (off := 753) 792 dL_law_39 (by decide) (by decide) (by decide) (by decide) ?_
        exact lc_falseRows h9 hx hi hL hk1 hn1 hR hend
      · refine z_swIn (off := 809) 848 dL_law_39 (by decide) (by decide) (by decide) (by decide) ?_
        exact lc_lead h10 hx hi hL hk1 hn1 hR hend
      · refine z_swIn (off := 877) 916 dL_law_39 (by decide) (by decide) (by decide) (by decide) ?_
        exact lc_dropLeads h11 hx hi hL hk1 hn1 hR hend
      · refine z_swIn (off := 890) 929 dL_law_39 (by decide) (by decide) (by decide) (by decide) ?_
        exact lc_touch h12 hx hi hL hk1 hn1 hR hend
      · refine z_swIn (off := 934) 973 dL_law_39 (by decide) (by decide) (by decide) (by decide) ?_
        exact lc_compose h13 hx hi hL hk1 hn1 hR hend
      · refine z_swIn (off := 1002) 1041 dL_law_39 (by decide) (by decide) (by decide) (by decide) ?_
        exact lc_touches h14 hx hi hL hk1 hn1 hR hend
      · refine z_swIn (off := 1015) 1054 dL_law_39 (by decide) (by decide) (by decide) (by decide) ?_
        exact lc_leads h15 hx hi hL hk1 hn1 hR hend
      · refine z_swIn (off := 1071) 1110 dL_law_39 (by decide) (by decide) (by decide) (by decide) ?_
        exact lc_leadAt h16 hx hi hL hk1 hn1 hR hend
      · refine z_swIn (off := 1139) 1178 dL_law_39 (by decide) (by decide) (by decide) (by decide) ?_
        exact lc_rows h17 hx hi hL hk1 hn1 hR hend
      · refine z_swIn (off := 1195) 1234 dL_law_39 (by decide) (by decide) (by decide) (by decide) ?_
        exact lc_rowAt h18 hx hi hL hk1 hn1 hR hend
      · refine z_swIn (off := 1263) 1302 dL_law_39 (by decide) (by decide) (by decide) (by decide) ?_
        exact lc_bellAt h19 hx hi hL hk1 hn1 hR hend
      · refine z_swIn (off := 1343) 1382 dL_law_39 (by decide) (by decide) (by decide) (by decide) ?_
        exact lc_isTrue h20 hx hi hL hk1 hn1 hR hend
      · refine z_swIn (off := 1406) 1445 dL_law_39 (by decide) (by decide) (by decide) (by decide) ?_
        exact lc_comesRound h21 hx hi hL hk1 hn1 hR hend
      · refine z_swIn (off := 1469) 1508 dL_law_39 (by decide) (by decide) (by decide) (by decide) ?_
        exact lc_firstRepeat h22 hx hi hL hk1 hn1 hR hend
      · refine z_swIn (off := 1525) 1564 dL_law_39 (by decide) (by decide) (by decide) (by decide) ?_
        exact lc_takeOut h23 hx hi hL hk1 hn1 hR hend
      · refine z_swIn (off := 1581) 1620 dL_law_39 (by decide) (by decide) (by decide) (by decide) ?_
        exact lc_bringIn h24 hx hi hL hk1 hn1 hR hend
      · refine z_swIn (off := 1644) 1683 dL_law_39 (by decide) (by decide) (by decide) (by decide) ?_
        exact lc_mend h25 hx hi hL hk1 hn1 hR hend
      · refine z_swIn (off := 1712) 1751 dL_law_39 (by decide) (by decide) (by decide) (by decide) ?_
        exact lc_wear h26 hx hi hL hk1 hn1 hR hend
      · refine z_swIn (off := 1780) 1819 dL_law_39 (by decide) (by decide) (by decide) (by decide) ?_
        exact lc_isIn h27 hx hi hL hk1 hn1 hR hend
      · refine z_swIn (off := 1843) 1882 dL_law_39 (by decide) (by decide) (by decide) (by decide) ?_
        exact lc_setBand h28 hx hi hL hk1 hn1 hR hend
      · refine z_swIn (off := 1911) 1950 dL_law_39 (by decide) (by decide) (by decide) (by decide) ?_
        exact lc_plan h29 hx hi hL hk1 hn1 hR hend
      · refine z_swIn (off := 1979) 2018 dL_law_39 (by decide) (by decide) (by decide) (by decide) ?_
        exact lc_planned h30 hx hi hL hk1 hn1 hR hend
      · refine z_swIn (off := 2035) 2074 dL_law_39 (by decide) (by decide) (by decide) (by decide) ?_
        exact lc_plannedAt h31 hx hi hL hk1 hn1 hR hend
      · refine z_swIn (off := 2103) 2142 dL_law_39 (by decide) (by decide) (by decide) (by decide) ?_
        exact lc_rota h32 hx hi hL hk1 hn1 hR hend
      · refine z_swIn (off := 2159) 2198 dL_law_39 (by decide) (by decide) (by decide) (by decide) ?_
        exact lc_pass h33 hx hi hL hk1 hn1 hR hend
      · refine z_swIn (off := 2203) 2242 dL_law_39 (by decide) (by decide) (by decide) (by decide) ?_
        exact lc_today h34 hx hi hL hk1 hn1 hR hend
      · refine z_swIn (off := 2216) 2255 dL_law_39 (by decide) (by decide) (by decide) (by decide) ?_
        exact lc_dropped h35 hx hi hL hk1 hn1 hR hend
      · refine z_swIn (off := 2229) 2268 dL_law_39 (by decide) (by decide) (by decide) (by decide) ?_
        exact lc_ring h36 hx hi hL hk1 hn1 hR hend
      · refine z_swIn (off := 2309) 2348 dL_law_39 (by decide) (by decide) (by decide) (by decide) ?_
        exact lc_stand h37 hx hi hL hk1 hn1 hR hend
      · refine z_swIn (off := 2353) 2392 dL_law_39 (by decide) (by decide) (by decide) (by decide) ?_
        exact lc_isRinging h38 hx hi hL hk1 hn1 hR hend
      · refine z_swIn (off := 2366) 2405 dL_law_39 (by decide) (by decide) (by decide) (by decide) ?_
        exact lc_pull h39 hx hi hL hk1 hn1 hR hend
      · refine z_swIn (off := 2434) 2473 dL_law_39 (by decide) (by decide) (by decide) (by decide) ?_
        exact lc_due h40 hx hi hL hk1 hn1 hR hend
      · refine z_swIn (off := 2490) 2529 dL_law_39 (by decide) (by decide) (by decide) (by decide) ?_
        exact lc_setPatience h41 hx hi hL hk1 hn1 hR hend
      · refine z_swIn (off := 2546) 2585 dL_law_39 (by decide) (by decide) (by decide) (by decide) ?_
        exact lc_done h42 hx hi hL hk1 hn1 hR hend
      · refine z_swIn (off := 2559) 2598 dL_law_39 (by decide) (by decide) (by decide) (by decide) ?_
        exact lc_delay h43 hx hi hL hk1 hn1 hR hend
      · refine z_swIn (off := 2572) 2611 dL_law_39 (by decide) (by decide) (by decide) (by decide) ?_
        exact lc_late h44 hx hi hL hk1 hn1 hR hend
      · refine z_swIn (off := 2628) 2667 dL_law_39 (by decide) (by decide) (by decide) (by decide) ?_
        exact lc_early h45 hx hi hL hk1 hn1 hR hend
      · refine z_swIn (off := 2684) 2723 dL_law_39 (by decide) (by decide) (by decide) (by decide) ?_
        exact lc_errors h46 hx hi hL hk1 hn1 hR hend
      · refine z_swIn (off := 2740) 2779 dL_law_39 (by decide) (by decide) (by decide) (by decide) ?_
        exact lc_wrong h47 hx hi hL hk1 hn1 hR hend
      · refine z_swIn (off := 2753) 2792 dL_law_39 (by decide) (by decide) (by decide) (by decide) ?_
        exact lc_rung h48 hx hi hL hk1 hn1 hR hend
      · refine z_swIn (off := 2766) 2805 dL_law_39 (by decide) (by decide) (by decide) (by decide) ?_
        exact lc_latest h49 hx hi hL hk1 hn1 hR hend
      · refine z_swOut 2818 dL_law_39 (Or.inr (by rw [nI_toInt (by omega)]; omega)) (by decide) ?_
        exact z_widen (Nat.le_add_right _ _) (Nat.le_add_right _ _) (hend f Sc Sm hR)
