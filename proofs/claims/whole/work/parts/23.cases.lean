theorem zlc (x : Int64) : lg_cmp x x = 0 := by
  unfold lg_cmp
  simp
set_option maxRecDepth 20000 in
set_option maxHeartbeats 4000000 in
theorem lc_change {E : zE} {b L x m q ii : Nat} {xs : Nat → Int32} {tb : List ExceptionTableEntry} {RR : zS → zS → Prop} {Q : Option Value → va_W → zS → Prop} {XC : String → va_W → zS → Prop} (hsim : sim_change E x m RR) (hx : ∀ Sc Sm, RR Sc Sm → (x ∈ gL Sc ∧ gK Sc x = 10) ∧ (m ∈ gL Sm ∧ gK Sm m = 11)) (hi : ii + 3 < L) (hL : L ≤ 2048) {k n : Nat} (hk : k + 16 ≤ room_1.cells) (hn : n + 480 ≤ room_1.slots) {f : Nat → Int64} {Sc Sm : zS} (hR : RR Sc Sm)
    (hend : ∀ (f1 : Nat → Int64) (S1 S2 : zS), RR S1 S2 → zJ E (RL, cL_law, 7, (some .boolean), false, tb, zScr E b L xs) room_1 Q XC 2818 [(0, .ref b), (1, .ref x), (2, .ref m), (3, .ref q), (4, .int (nI ii))] [] (zPl E S2 ++ [(q, zcl E f1)]) S1 (k + 16) (n + 480)) : zJ E (RL, cL_law, 7, (some .boolean), false, tb, zScr E b L xs) room_1 Q XC 252 [(0, .ref b), (1, .ref x), (2, .ref m), (3, .ref q), (4, .int (nI ii))] [] (zPl E Sm ++ [(q, zcl E f)]) Sc k n := by
  have hx1 := hx Sc Sm hR
  refine z_aload_n 1 dL_law_252 rfl rfl ?_
  refine z_aload_n 0 dL_law_253 rfl rfl ?_
  refine z_iload 4 dL_law_254 rfl ?_
  refine z_iconst (v := 1) dL_law_256 rfl ?_
  refine z_iadd dL_law_257 ?_
  refine z_sld (j := ii + 1) rfl (show nI ii + 1 = nI (ii + 1) from nI_add ii 1) (by omega) (by omega) dL_law_258 ?_
  refine z_aload_n 3 dL_law_259 rfl rfl ?_
  refine z_callX (Y := zPl E Sm) (X1 := [(q, zcl E f)]) (st := []) (w_L_change (PM := pm_change E m RR (xs (ii + 1)) Sm) hx1.1 (hsim Sc Sm hR (xs (ii + 1)))) zw_404 zw_402 zw_403 zw_62 zy_L_change rfl rfl ⟨Nat.le_of_ble_eq_true rfl, Nat.le_of_ble_eq_true rfl⟩ ⟨Nat.le_trans (Nat.add_le_add_left (Nat.le_of_ble_eq_true rfl) _) hk, Nat.le_trans (Nat.add_le_add_left (Nat.le_of_ble_eq_true rfl) _) hn⟩ (Nat.le_of_ble_eq_true rfl) dL_law_260 (fun v X1 S1 h => ?_)
  obtain ⟨k9, r9, f1, rfl, rfl, h0, h⟩ := h
  refine z_widen (k' := k + 16) (n' := n + 480) (Nat.add_le_add_left (Nat.le_of_ble_eq_true rfl) _) (Nat.add_le_add_left (Nat.le_of_ble_eq_true rfl) _) ?_
  refine z_rot ?_
  refine z_istore (lv' := [(5, .int k9), (0, .ref b), (1, .ref x), (2, .ref m), (3, .ref q), (4, .int (nI ii))]) dL_law_263 (Nat.le_of_ble_eq_true rfl) rfl ?_
  refine z_aload_n 3 dL_law_265 rfl rfl ?_
  refine z_aload_n 1 dL_law_266 rfl rfl ?_
  refine z_iload 5 dL_law_267 rfl ?_
  refine z_iconst (v := 1) dL_law_269 rfl ?_
  refine z_iadd dL_law_270 ?_
  refine z_sld (j := ii + 1) rfl (show nI ii + 1 = nI (ii + 1) from nI_add ii 1) (by omega) (by omega) dL_law_271 ?_
  refine z_callVI (ci := 11) (st := []) (w_X11_change h) hx1.2.1 hx1.2.2 (Nat.le_of_ble_eq_true rfl) rfl zw_1432 zw_1429 zw_1430 zw_1431 zw_74 zy_X11_change rfl rfl ⟨Nat.le_of_ble_eq_true rfl, Nat.le_of_ble_eq_true rfl⟩ ⟨hk, hn⟩ (Nat.le_of_ble_eq_true rfl) dL_law_272 (fun _ _ hx => hx.elim) (fun b9 S2 h => ?_)
  refine z_widen (k' := k + 16) (n' := n + 480) (Nat.le_refl _) (Nat.le_refl _) ?_
  refine z_istore (lv' := [(6, .int b9), (5, .int k9), (0, .ref b), (1, .ref x), (2, .ref m), (3, .ref q), (4, .int (nI ii))]) dL_law_275 (Nat.le_of_ble_eq_true rfl) rfl ?_
  refine z_aload_n 4 dL_law_277 rfl rfl ?_
  have hx2 := hx S1 S2 h.2.2
  refine z_callVI (ci := 11) (st := []) (w_X11_thrown (Q := fun r S => r = gI S2 1100 m ∧ S2 = S) (X := fun _ _ => False) ⟨hx2.2, rfl, rfl⟩) hx2.2.1 hx2.2.2 (Nat.le_of_ble_eq_true rfl) rfl zw_1428 zw_1425 zw_1426 zw_1427 zw_74 zy_X11_thrown rfl rfl ⟨Nat.le_of_ble_eq_true rfl, Nat.le_of_ble_eq_true rfl⟩ ⟨hk, hn⟩ (Nat.le_of_ble_eq_true rfl) dL_law_278 (fun _ _ hx => hx.elim) (fun t9 S3 h3 => ?_)
  obtain ⟨rfl, rfl⟩ := h3
  refine z_widen (k' := k + 16) (n' := n + 480) (Nat.le_refl _) (Nat.le_refl _) ?_
  refine z_rotB ?_
  refine z_iload 1 dL_law_281 rfl ?_
  refine z_icmp_eq 288 dL_law_283 (by decide) (fun c1 => ?_) (fun c1 => ?_)
  rotate_left
  · exact absurd h.1 c1
  refine z_iload 1 dL_law_288 rfl ?_
  refine z_if_ne 305 dL_law_290 (by decide) (fun c2 => ?_) (fun c2 => ?_)
  · refine z_goto 2818 dL_law_305 (by decide) ?_
    refine z_sub [2, 3, 4, 5, 6] (lv' := [(0, .ref b), (1, .ref x), (2, .ref m), (3, .ref q), (4, .int (nI ii))]) rfl ?_
    exact hend f1 S1 S2 h.2.2
  have hv := h0 c2
  have hb9 := h.2.1 c2
  refine z_aload_n 5 dL_law_293 rfl rfl ?_
  refine z_iconst (v := 0) dL_law_294 rfl ?_
  refine z_laldX dL_law_295 ?_
  rw [hv]
  refine z_iload 0 dL_law_296 rfl ?_
  refine z_i2l dL_law_298 rfl ?_
  refine z_lcmp dL_law_299 ?_
  refine z_if_eq 305 dL_law_300 (by decide) (fun c4 => ?_) (fun c4 => ?_)
  rotate_left
  · exact absurd (by rw [hb9]; exact zlc _) c4
  refine z_goto 2818 dL_law_305 (by decide) ?_
  refine z_sub [2, 3, 4, 5, 6] (lv' := [(0, .ref b), (1, .ref x), (2, .ref m), (3, .ref q), (4, .int (nI ii))]) rfl ?_
  exact hend f1 S1 S2 h.2.2
set_option maxRecDepth 20000 in
set_option maxHeartbeats 4000000 in
theorem lc_dropChanges {E : zE} {b L x m q ii : Nat} {xs : Nat → Int32} {tb : List ExceptionTableEntry} {RR : zS → zS → Prop} {Q : Option Value → va_W → zS → Prop} {XC : String → va_W → zS → Prop} (hsim : sim_dropChanges E x m RR) (hx : ∀ Sc Sm, RR Sc Sm → (x ∈ gL Sc ∧ gK Sc x = 10) ∧ (m ∈ gL Sm ∧ gK Sm m = 11)) (hi : ii + 3 < L) (hL : L ≤ 2048) {k n : Nat} (hk : k + 16 ≤ room_1.cells) (hn : n + 480 ≤ room_1.slots) {f : Nat → Int64} {Sc Sm : zS} (hR : RR Sc Sm)
    (hend : ∀ (f1 : Nat → Int64) (S1 S2 : zS), RR S1 S2 → zJ E (RL, cL_law, 7, (some .boolean), false, tb, zScr E b L xs) room_1 Q XC 2818 [(0, .ref b), (1, .ref x), (2, .ref m), (3, .ref q), (4, .int (nI ii))] [] (zPl E S2 ++ [(q, zcl E f1)]) S1 (k + 16) (n + 480)) : zJ E (RL, cL_law, 7, (some .boolean), false, tb, zScr E b L xs) room_1 Q XC 308 [(0, .ref b), (1, .ref x), (2, .ref m), (3, .ref q), (4, .int (nI ii))] [] (zPl E Sm ++ [(q, zcl E f)]) Sc k n := by
  have hx1 := hx Sc Sm hR
  refine z_aload_n 1 dL_law_308 rfl rfl ?_
  refine z_callVI (ci := 10) (st := []) (w_X10_dropChanges (hsim Sc Sm hR)) hx1.1.1 hx1.1.2 (Nat.le_of_ble_eq_true rfl) rfl zw_344 zw_341 zw_342 zw_343 zw_63 zy_X10_dropChanges rfl rfl ⟨Nat.le_of_ble_eq_true rfl, Nat.le_of_ble_eq_true rfl⟩ ⟨Nat.le_trans (Nat.le_add_right _ _) hk, Nat.le_trans (Nat.le_add_right _ _) hn⟩ (Nat.le_of_ble_eq_true rfl) dL_law_309 (fun _ _ hx => hx.elim) (fun r9 S1 h => ?_)
  refine z_widen (k' := k + 16) (n' := n + 480) (Nat.le_add_right _ _) (Nat.le_add_right _ _) ?_
  refine z_rot ?_
  refine z_aload_n 2 dL_law_312 rfl rfl ?_
  refine z_callVI (ci := 11) (st := [.int r9]) (w_X11_dropChanges h) hx1.2.1 hx1.2.2 (Nat.le_of_ble_eq_true rfl) rfl zw_1439 zw_1436 zw_1437 zw_1438 zw_74 zy_X11_dropChanges rfl rfl ⟨Nat.le_of_ble_eq_true rfl, Nat.le_of_ble_eq_true rfl⟩ ⟨hk, hn⟩ (Nat.le_of_ble_eq_true rfl) dL_law_313 (fun _ _ hx => hx.elim) (fun b9 S2 h => ?_)
  refine z_widen (k' := k + 16) (n' := n + 480) (Nat.le_refl _) (Nat.le_refl _) ?_
  refine z_rotB ?_
  refine z_icmp_eq 2818 dL_law_316 (by decide) (fun c1 => ?_) (fun c1 => ?_)
  rotate_left
  · exact absurd h.1 c1
  exact hend f S1 S2 h.2
set_option maxRecDepth 20000 in
set_option maxHeartbeats 4000000 in
theorem lc_method {E : zE} {b L x m q ii : Nat} {xs : Nat → Int32} {tb : List ExceptionTableEntry} {RR : zS → zS → Prop} {Q : Option Value → va_W → zS → Prop} {XC : String → va_W → zS → Prop} (hsim : sim_method E x m RR) (hx : ∀ Sc Sm, RR Sc Sm → (x ∈ gL Sc ∧ gK Sc x = 10) ∧ (m ∈ gL Sm ∧ gK Sm m = 11)) (hi : ii + 3 < L) (hL : L ≤ 2048) {k n : Nat} (hk : k + 16 ≤ room_1.cells) (hn : n + 480 ≤ room_1.slots) {f : Nat → Int64} {Sc Sm : zS} (hR : RR Sc Sm)
    (hend : ∀ (f1 : Nat → Int64) (S1 S2 : zS), RR S1 S2 → zJ E (RL, cL_law, 7, (some .boolean), false, tb, zScr E b L xs) room_1 Q XC 2818 [(0, .ref b), (1, .ref x), (2, .ref m), (3, .ref q), (4, .int (nI ii))] [] (zPl E S2 ++ [(q, zcl E f1)]) S1 (k + 16) (n + 480)) : zJ E (RL, cL_law, 7, (some .boolean), false, tb, zScr E b L xs) room_1 Q XC 321 [(0, .ref b), (1, .ref x), (2, .ref m), (3, .ref q), (4, .int (nI ii))] [] (zPl E Sm ++ [(q, zcl E f)]) Sc k n := by
  have hx1 := hx Sc Sm hR
  refine z_aload_n 1 dL_law_321 rfl rfl ?_
  refine z_aload_n 0 dL_law_322 rfl rfl ?_
  refine z_iload 4 dL_law_323 rfl ?_
  refine z_iconst (v := 1) dL_law_325 rfl ?_
  refine z_iadd dL_law_326 ?_
  refine z_sld (j := ii + 1) rfl (show nI ii + 1 = nI (ii + 1) from nI_add ii 1) (by omega) (by omega) dL_law_327 ?_
  refine z_aload_n 3 dL_law_328 rfl rfl ?_
  refine z_callX (Y := zPl E Sm) (X1 := [(q, zcl E f)]) (st := []) (w_L_method (PM := pm_method E m RR (xs (ii + 1)) Sm) hx1.1 (hsim Sc Sm hR (xs (ii + 1)))) zw_500 zw_498 zw_499 zw_62 zy_L_method rfl rfl ⟨Nat.le_of_ble_eq_true rfl, Nat.le_of_ble_eq_true rfl⟩ ⟨Nat.le_trans (Nat.add_le_add_left (Nat.le_of_ble_eq_true rfl) _) hk, Nat.le_trans (Nat.add_le_add_left (Nat.le_of_ble_eq_true rfl) _) hn⟩ (Nat.le_of_ble_eq_true rfl) dL_law_329 (fun v X1 S1 h => ?_)
  obtain ⟨k9, r9, f1, rfl, rfl, h0, h⟩ := h
  refine z_widen (k' := k + 16) (n' := n + 480) (Nat.add_le_add_left (Nat.le_of_ble_eq_true rfl) _) (Nat.add_le_add_left (Nat.le_of_ble_eq_true rfl) _) ?_
  refine z_rot ?_
  refine z_istore (lv' := [(5, .int k9), (0, .ref b), (1, .ref x), (2, .ref m), (3, .ref q), (4, .int (nI ii))]) dL_law_332 (Nat.le_of_ble_eq_true rfl) rfl ?_
  refine z_aload_n 3 dL_law_334 rfl rfl ?_
  refine z_aload_n 1 dL_law_335 rfl rfl ?_
  refine z_iload 5 dL_law_336 rfl ?_
  refine z_iconst (v := 1) dL_law_338 rfl ?_
  refine z_iadd dL_law_339 ?_
  refine z_sld (j := ii + 1) rfl (show nI ii + 1 = nI (ii + 1) from nI_add ii 1) (by omega) (by omega) dL_law_340 ?_
  refine z_callVI (ci := 11) (st := []) (w_X11_method h) hx1.2.1 hx1.2.2 (Nat.le_of_ble_eq_true rfl) rfl zw_1443 zw_1440 zw_1441 zw_1442 zw_74 zy_X11_method rfl rfl ⟨Nat.le_of_ble_eq_true rfl, Nat.le_of_ble_eq_true rfl⟩ ⟨hk, hn⟩ (Nat.le_of_ble_eq_true rfl) dL_law_341 (fun _ _ hx => hx.elim) (fun b9 S2 h => ?_)
  refine z_widen (k' := k + 16) (n' := n + 480) (Nat.le_refl _) (Nat.le_refl _) ?_
  refine z_istore (lv' := [(6, .int b9), (5, .int k9), (0, .ref b), (1, .ref x), (2, .ref m), (3, .ref q), (4, .int (nI ii))]) dL_law_344 (Nat.le_of_ble_eq_true rfl) rfl ?_
  refine z_aload_n 4 dL_law_346 rfl rfl ?_
  have hx2 := hx S1 S2 h.2.2
  refine z_callVI (ci := 11) (st := []) (w_X11_thrown (Q := fun r S => r = gI S2 1100 m ∧ S2 = S) (X := fun _ _ => False) ⟨hx2.2, rfl, rfl⟩) hx2.2.1 hx2.2.2 (Nat.le_of_ble_eq_true rfl) rfl zw_1428 zw_1425 zw_1426 zw_1427 zw_74 zy_X11_thrown rfl rfl ⟨Nat.le_of_ble_eq_true rfl, Nat.le_of_ble_eq_true rfl⟩ ⟨hk, hn⟩ (Nat.le_of_ble_eq_true rfl) dL_law_347 (fun _ _ hx => hx.elim) (fun t9 S3 h3 => ?_)
  obtain ⟨rfl, rfl⟩ := h3
  refine z_widen (k' := k + 16) (n' := n + 480) (Nat.le_refl _) (Nat.le_refl _) ?_
  refine z_rotB ?_
  refine z_iload 1 dL_law_350 rfl ?_
  refine z_icmp_eq 357 dL_law_352 (by decide) (fun c1 => ?_) (fun c1 => ?_)
  rotate_left
  · exact absurd h.1 c1
  refine z_iload 1 dL_law_357 rfl ?_
  refine z_if_ne 374 dL_law_359 (by decide) (fun c2 => ?_) (fun c2 => ?_)
  · refine z_goto 2818 dL_law_374 (by decide) ?_
    refine z_sub [2, 3, 4, 5, 6] (lv' := [(0, .ref b), (1, .ref x), (2, .ref m), (3, .ref q), (4, .int (nI ii))]) rfl ?_
    exact hend f1 S1 S2 h.2.2
  have hv := h0 c2
  have hb9 := h.2.1 c2
  refine z_aload_n 5 dL_law_362 rfl rfl ?_
  refine z_iconst (v := 0) dL_law_363 rfl ?_
  refine z_laldX dL_law_364 ?_
  rw [hv]
  refine z_iload 0 dL_law_365 rfl ?_
  refine z_i2l dL_law_367 rfl ?_
  refine z_lcmp dL_law_368 ?_
  refine z_if_eq 374 dL_law_369 (by decide) (fun c4 => ?_) (fun c4 => ?_)
  rotate_left
  · exact absurd (by rw [hb9]; exact zlc _) c4
  refine z_goto 2818 dL_law_374 (by decide) ?_
  refine z_sub [2, 3, 4, 5, 6] (lv' := [(0, .ref b), (1, .ref x), (2, .ref m), (3, .ref q), (4, .int (nI ii))]) rfl ?_
  exact hend f1 S1 S2 h.2.2
set_option maxRecDepth 20000 in
set_option maxHeartbeats 4000000 in
theorem lc_setCall {E : zE} {b L x m q ii : Nat} {xs : Nat → Int32} {tb : List ExceptionTableEntry} {RR : zS → zS → Prop} {Q : Option Value → va_W → zS → Prop} {XC : String → va_W → zS → Prop} (hsim : sim_setCall E x m RR) (hx : ∀ Sc Sm, RR Sc Sm → (x ∈ gL Sc ∧ gK Sc x = 10) ∧ (m ∈ gL Sm ∧ gK Sm m = 11)) (hi : ii + 3 < L) (hL : L ≤ 2048) {k n : Nat} (hk : k + 16 ≤ room_1.cells) (hn : n + 480 ≤ room_1.slots) {f : Nat → Int64} {Sc Sm : zS} (hR : RR Sc Sm)
    (hend : ∀ (f1 : Nat → Int64) (S1 S2 : zS), RR S1 S2 → zJ E (RL, cL_law, 7, (some .boolean), false, tb, zScr E b L xs) room_1 Q XC 2818 [(0, .ref b), (1, .ref x), (2, .ref m), (3, .ref q), (4, .int (nI ii))] [] (zPl E S2 ++ [(q, zcl E f1)]) S1 (k + 16) (n + 480)) : zJ E (RL, cL_law, 7, (some .boolean), false, tb, zScr E b L xs) room_1 Q XC 377 [(0, .ref b), (1, .ref x), (2, .ref m), (3, .ref q), (4, .int (nI ii))] [] (zPl E Sm ++ [(q, zcl E f)]) Sc k n := by
  have hx1 := hx Sc Sm hR
  refine z_aload_n 1 dL_law_377 rfl rfl ?_
  refine z_aload_n 0 dL_law_378 rfl rfl ?_
  refine z_iload 4 dL_law_379 rfl ?_
  refine z_iconst (v := 1) dL_law_381 rfl ?_
  refine z_iadd dL_law_382 ?_
  refine z_sld (j := ii + 1) rfl (show nI ii + 1 = nI (ii + 1) from nI_add ii 1) (by omega) (by omega) dL_law_383 ?_
  refine z_aload_n 0 dL_law_384 rfl rfl ?_
  refine z_iload 4 dL_law_385 rfl ?_
  refine z_iconst (v := 2) dL_law_387 rfl ?_
  refine z_iadd dL_law_388 ?_
  refine z_sld (j := ii + 2) rfl (show nI ii + 2 = nI (ii + 2) from nI_add ii 2) (by omega) (by omega) dL_law_389 ?_
  refine z_aload_n 0 dL_law_390 rfl rfl ?_
  refine z_iload 4 dL_law_391 rfl ?_
  refine z_iconst (v := 3) dL_law_393 rfl ?_
  refine z_iadd dL_law_394 ?_
  refine z_sld (j := ii + 3) rfl (show nI ii + 3 = nI (ii + 3) from nI_add ii 3) (by omega) (by omega) dL_law_395 ?_
  refine z_aload_n 3 dL_law_396 rfl rfl ?_
  refine z_callX (Y := zPl E Sm) (X1 := [(q, zcl E f)]) (st := []) (w_L_setCall (PM := pm_setCall E m RR (xs (ii + 1)) (xs (ii + 2)) (xs (ii + 3)) Sm) hx1.1 (hsim Sc Sm hR (xs (ii + 1)) (xs (ii + 2)) (xs (ii + 3)))) zw_650 zw_648 zw_649 zw_62 zy_L_setCall rfl rfl ⟨Nat.le_of_ble_eq_true rfl, Nat.le_of_ble_eq_true rfl⟩ ⟨Nat.le_trans (Nat.add_le_add_left (Nat.le_of_ble_eq_true rfl) _) hk, Nat.le_trans (Nat.add_le_add_left (Nat.le_of_ble_eq_true rfl) _) hn⟩ (Nat.le_of_ble_eq_true rfl) dL_law_397 (fun v X1 S1 h => ?_)
  obtain ⟨k9, r9, f1, rfl, rfl, h0, h⟩ := h
  refine z_widen (k' := k + 16) (n' := n + 480) (Nat.add_le_add_left (Nat.le_of_ble_eq_true rfl) _) (Nat.add_le_add_left (Nat.le_of_ble_eq_true rfl) _) ?_
  refine z_rot ?_
  refine z_istore (lv' := [(5, .int k9), (0, .ref b), (1, .ref x), (2, .ref m), (3, .ref q), (4, .int (nI ii))]) dL_law_400 (Nat.le_of_ble_eq_true rfl) rfl ?_
  refine z_aload_n 3 dL_law_402 rfl rfl ?_
  refine z_aload_n 1 dL_law_403 rfl rfl ?_
  refine z_iload 5 dL_law_404 rfl ?_
  refine z_iconst (v := 1) dL_law_406 rfl ?_
  refine z_iadd dL_law_407 ?_
  refine z_sld (j := ii + 1) rfl (show nI ii + 1 = nI (ii + 1) from nI_add ii 1) (by omega) (by omega) dL_law_408 ?_
  refine z_aload_n 1 dL_law_409 rfl rfl ?_
  refine z_iload 5 dL_law_410 rfl ?_
  refine z_iconst (v := 2) dL_law_412 rfl ?_
  refine z_iadd dL_law_413 ?_
  refine z_sld (j := ii + 2) rfl (show nI ii + 2 = nI (ii + 2) from nI_add ii 2) (by omega) (by omega) dL_law_414 ?_
  refine z_aload_n 1 dL_law_415 rfl rfl ?_
  refine z_iload 5 dL_law_416 rfl ?_
  refine z_iconst (v := 3) dL_law_418 rfl ?_
  refine z_iadd dL_law_419 ?_
  refine z_sld (j := ii + 3) rfl (show nI ii + 3 = nI (ii + 3) from nI_add ii 3) (by omega) (by omega) dL_law_420 ?_
  refine z_callVI (ci := 11) (st := []) (w_X11_setCall h) hx1.2.1 hx1.2.2 (Nat.le_of_ble_eq_true rfl) rfl zw_1450 zw_1447 zw_1448 zw_1449 zw_74 zy_X11_setCall rfl rfl ⟨Nat.le_of_ble_eq_true rfl, Nat.le_of_ble_eq_true rfl⟩ ⟨hk, hn⟩ (Nat.le_of_ble_eq_true rfl) dL_law_421 (fun _ _ hx => hx.elim) (fun b9 S2 h => ?_)
  refine z_widen (k' := k + 16) (n' := n + 480) (Nat.le_refl _) (Nat.le_refl _) ?_
  refine z_istore (lv' := [(6, .int b9), (5, .int k9), (0, .ref b), (1, .ref x), (2, .ref m), (3, .ref q), (4, .int (nI ii))]) dL_law_424 (Nat.le_of_ble_eq_true rfl) rfl ?_
  refine z_aload_n 4 dL_law_426 rfl rfl ?_
  have hx2 := hx S1 S2 h.2.2
  refine z_callVI (ci := 11) (st := []) (w_X11_thrown (Q := fun r S => r = gI S2 1100 m ∧ S2 = S) (X := fun _ _ => False) ⟨hx2.2, rfl, rfl⟩) hx2.2.1 hx2.2.2 (Nat.le_of_ble_eq_true rfl) rfl zw_1428 zw_1425 zw_1426 zw_1427 zw_74 zy_X11_thrown rfl rfl ⟨Nat.le_of_ble_eq_true rfl, Nat.le_of_ble_eq_true rfl⟩ ⟨hk, hn⟩ (Nat.le_of_ble_eq_true rfl) dL_law_427 (fun _ _ hx => hx.elim) (fun t9 S3 h3 => ?_)
  obtain ⟨rfl, rfl⟩ := h3
  refine z_widen (k' := k + 16) (n' := n + 480) (Nat.le_refl _) (Nat.le_refl _) ?_
  refine z_rotB ?_
  refine z_iload 1 dL_law_430 rfl ?_
  refine z_icmp_eq 437 dL_law_432 (by decide) (fun c1 => ?_) (fun c1 => ?_)
  rotate_left
  · exact absurd h.1 c1
  refine z_iload 1 dL_law_437 rfl ?_
  refine z_if_ne 454 dL_law_439 (by decide) (fun c2 => ?_) (fun c2 => ?_)
  · refine z_goto 2818 dL_law_454 (by decide) ?_
    refine z_sub [2, 3, 4, 5, 6] (lv' := [(0, .ref b), (1, .ref x), (2, .ref m), (3, .ref q), (4, .int (nI ii))]) rfl ?_
    exact hend f1 S1 S2 h.2.2
  have hv := h0 c2
  have hb9 := h.2.1 c2
  refine z_aload_n 5 dL_law_442 rfl rfl ?_
  refine z_iconst (v := 0) dL_law_443 rfl ?_
  refine z_laldX dL_law_444 ?_
  rw [hv]
  refine z_iload 0 dL_law_445 rfl ?_
  refine z_i2l dL_law_447 rfl ?_
  refine z_lcmp dL_law_448 ?_
  refine z_if_eq 454 dL_law_449 (by decide) (fun c4 => ?_) (fun c4 => ?_)
  rotate_left
  · exact absurd (by rw [hb9]; exact zlc _) c4
  refine z_goto 2818 dL_law_454 (by decide) ?_
  refine z_sub [2, 3, 4, 5, 6] (lv' := [(0, .ref b), (1, .ref x), (2, .ref m), (3, .ref q), (4, .int (nI ii))]) rfl ?_
  exact hend f1 S1 S2 h.2.2
set_option maxRecDepth 20000 in
set_option maxHeartbeats 4000000 in
theorem lc_stage {E : zE} {b L x m q ii : Nat} {xs : Nat → Int32} {tb : List ExceptionTableEntry} {RR : zS → zS → Prop} {Q : Option Value → va_W → zS → Prop} {XC : String → va_W → zS → Prop} (hsim : sim_stage E x m RR) (hx : ∀ Sc Sm, RR Sc Sm → (x ∈ gL Sc ∧ gK Sc x = 10) ∧ (m ∈ gL Sm ∧ gK Sm m = 11)) (hi : ii + 3 < L) (hL : L ≤ 2048) {k n : Nat} (hk : k + 16 ≤ room_1.cells) (hn : n + 480 ≤ room_1.slots) {f : Nat → Int64} {Sc Sm : zS} (hR : RR Sc Sm)
    (hend : ∀ (f1 : Nat → Int64) (S1 S2 : zS), RR S1 S2 → zJ E (RL, cL_law, 7, (some .boolean), false, tb, zScr E b L xs) room_1 Q XC 2818 [(0, .ref b), (1, .ref x), (2, .ref m), (3, .ref q), (4, .int (nI ii))] [] (zPl E S2 ++ [(q, zcl E f1)]) S1 (k + 16) (n + 480)) : zJ E (RL, cL_law, 7, (some .boolean), false, tb, zScr E b L xs) room_1 Q XC 457 [(0, .ref b), (1, .ref x), (2, .ref m), (3, .ref q), (4, .int (nI ii))] [] (zPl E Sm ++ [(q, zcl E f)]) Sc k n := by
  have hx1 := hx Sc Sm hR
  refine z_aload_n 1 dL_law_457 rfl rfl ?_
  refine z_aload_n 0 dL_law_458 rfl rfl ?_
  refine z_iload 4 dL_law_459 rfl ?_
  refine z_iconst (v := 1) dL_law_461 rfl ?_
  refine z_iadd dL_law_462 ?_
  refine z_sld (j := ii + 1) rfl (show nI ii + 1 = nI (ii + 1) from nI_add ii 1) (by omega) (by omega) dL_law_463 ?_
  refine z_aload_n 3 dL_law_464 rfl rfl ?_
  refine z_callX (Y := zPl E Sm) (X1 := [(q, zcl E f)]) (st := []) (w_L_stage (PM := pm_stage E m RR (xs (ii + 1)) Sm) hx1.1 (hsim Sc Sm hR (xs (ii + 1)))) zw_771 zw_769 zw_770 zw_62 zy_L_stage rfl rfl ⟨Nat.le_of_ble_eq_true rfl, Nat.le_of_ble_eq_true rfl⟩ ⟨Nat.le_trans (Nat.add_le_add_left (Nat.le_of_ble_eq_true rfl) _) hk, Nat.le_trans (Nat.add_le_add_left (Nat.le_of_ble_eq_true rfl) _) hn⟩ (Nat.le_of_ble_eq_true rfl) dL_law_465 (fun v X1 S1 h => ?_)
  obtain ⟨k9, r9, f1, rfl, rfl, h0, h⟩ := h
  refine z_widen (k' := k + 16) (n' := n + 480) (Nat.add_le_add_left (Nat.le_of_ble_eq_true rfl) _) (Nat.add_le_add_left (Nat.le_of_ble_eq_true rfl) _) ?_
  refine z_rot ?_
  refine z_istore (lv' := [(5, .int k9), (0, .ref b), (1, .ref x), (2, .ref m), (3, .ref q), (4, .int (nI ii))]) dL_law_468 (Nat.le_of_ble_eq_true rfl) rfl ?_
  refine z_aload_n 3 dL_law_470 rfl rfl ?_
  refine z_aload_n 1 dL_law_471 rfl rfl ?_
  refine z_iload 5 dL_law_472 rfl ?_
  refine z_iconst (v := 1) dL_law_474 rfl ?_
  refine z_iadd dL_law_475 ?_
  refine z_sld (j := ii + 1) rfl (show nI ii + 1 = nI (ii + 1) from nI_add ii 1) (by omega) (by omega) dL_law_476 ?_
  refine z_callVI (ci := 11) (st := []) (w_X11_stage h) hx1.2.1 hx1.2.2 (Nat.le_of_ble_eq_true rfl) rfl zw_1503 zw_1500 zw_1501 zw_1502 zw_74 zy_X11_stage rfl rfl ⟨Nat.le_of_ble_eq_true rfl, Nat.le_of_ble_eq_true rfl⟩ ⟨hk, hn⟩ (Nat.le_of_ble_eq_true rfl) dL_law_477 (fun _ _ hx => hx.elim) (fun b9 S2 h => ?_)
  refine z_widen (k' := k + 16) (n' := n + 480) (Nat.le_refl _) (Nat.le_refl _) ?_
  refine z_istore (lv' := [(6, .int b9), (5, .int k9), (0, .ref b), (1, .ref x), (2, .ref m), (3, .ref q), (4, .int (nI ii))]) dL_law_480 (Nat.le_of_ble_eq_true rfl) rfl ?_
  refine z_aload_n 4 dL_law_482 rfl rfl ?_
  have hx2 := hx S1 S2 h.2.2
  refine z_callVI (ci := 11) (st := []) (w_X11_thrown (Q := fun r S => r = gI S2 1100 m ∧ S2 = S) (X := fun _ _ => False) ⟨hx2.2, rfl, rfl⟩) hx2.2.1 hx2.2.2 (Nat.le_of_ble_eq_true rfl) rfl zw_1428 zw_1425 zw_1426 zw_1427 zw_74 zy_X11_thrown rfl rfl ⟨Nat.le_of_ble_eq_true rfl, Nat.le_of_ble_eq_true rfl⟩ ⟨hk, hn⟩ (Nat.le_of_ble_eq_true rfl) dL_law_483 (fun _ _ hx => hx.elim) (fun t9 S3 h3 => ?_)
  obtain ⟨rfl, rfl⟩ := h3
  refine z_widen (k' := k + 16) (n' := n + 480) (Nat.le_refl _) (Nat.le_refl _) ?_
  refine z_rotB ?_
  refine z_iload 1 dL_law_486 rfl ?_
  refine z_icmp_eq 493 dL_law_488 (by decide) (fun c1 => ?_) (fun c1 => ?_)
  rotate_left
  · exact absurd h.1 c1
  refine z_iload 1 dL_law_493 rfl ?_
  refine z_if_ne 510 dL_law_495 (by decide) (fun c2 => ?_) (fun c2 => ?_)
  · refine z_goto 2818 dL_law_510 (by decide) ?_
    refine z_sub [2, 3, 4, 5, 6] (lv' := [(0, .ref b), (1, .ref x), (2, .ref m), (3, .ref q), (4, .int (nI ii))]) rfl ?_
    exact hend f1 S1 S2 h.2.2
  have hv := h0 c2
  have hb9 := h.2.1 c2
  refine z_aload_n 5 dL_law_498 rfl rfl ?_
  refine z_iconst (v := 0) dL_law_499 rfl ?_
  refine z_laldX dL_law_500 ?_
  rw [hv]
  refine z_iload 0 dL_law_501 rfl ?_
  refine z_i2l dL_law_503 rfl ?_
  refine z_lcmp dL_law_504 ?_
  refine z_if_eq 510 dL_law_505 (by decide) (fun c4 => ?_) (fun c4 => ?_)
  rotate_left
  · exact absurd (by rw [hb9]; exact zlc _) c4
  refine z_goto 2818 dL_law_510 (by decide) ?_
  refine z_sub [2, 3, 4, 5, 6] (lv' := [(0, .ref b), (1, .ref x), (2, .ref m), (3, .ref q), (4, .int (nI ii))]) rfl ?_
  exact hend f1 S1 S2 h.2.2
set_option maxRecDepth 20000 in
set_option maxHeartbeats 4000000 in
theorem lc_changeAt {E : zE} {b L x m q ii : Nat} {xs : Nat → Int32} {tb : List ExceptionTableEntry} {RR : zS → zS → Prop} {Q : Option Value → va_W → zS → Prop} {XC : String → va_W → zS → Prop} (hsim : sim_changeAt E x m RR) (hx : ∀ Sc Sm, RR Sc Sm → (x ∈ gL Sc ∧ gK Sc x = 10) ∧ (m ∈ gL Sm ∧ gK Sm m = 11)) (hi : ii + 3 < L) (hL : L ≤ 2048) {k n : Nat} (hk : k + 16 ≤ room_1.cells) (hn : n + 480 ≤ room_1.slots) {f : Nat → Int64} {Sc Sm : zS} (hR : RR Sc Sm)
    (hend : ∀ (f1 : Nat → Int64) (S1 S2 : zS), RR S1 S2 → zJ E (RL, cL_law, 7, (some .boolean), false, tb, zScr E b L xs) room_1 Q XC 2818 [(0, .ref b), (1, .ref x), (2, .ref m), (3, .ref q), (4, .int (nI ii))] [] (zPl E S2 ++ [(q, zcl E f1)]) S1 (k + 16) (n + 480)) : zJ E (RL, cL_law, 7, (some .boolean), false, tb, zScr E b L xs) room_1 Q XC 513 [(0, .ref b), (1, .ref x), (2, .ref m), (3, .ref q), (4, .int (nI ii))] [] (zPl E Sm ++ [(q, zcl E f)]) Sc k n := by
  have hx1 := hx Sc Sm hR
  refine z_aload_n 1 dL_law_513 rfl rfl ?_
  refine z_aload_n 0 dL_law_514 rfl rfl ?_
  refine z_iload 4 dL_law_515 rfl ?_
  refine z_iconst (v := 1) dL_law_517 rfl ?_
  refine z_iadd dL_law_518 ?_
  refine z_sld (j := ii + 1) rfl (show nI ii + 1 = nI (ii + 1) from nI_add ii 1) (by omega) (by omega) dL_law_519 ?_
  refine z_aload_n 0 dL_law_520 rfl rfl ?_
  refine z_iload 4 dL_law_521 rfl ?_
  refine z_iconst (v := 2) dL_law_523 rfl ?_
  refine z_iadd dL_law_524 ?_
  refine z_sld (j := ii + 2) rfl (show nI ii + 2 = nI (ii + 2) from nI_add ii 2) (by omega) (by omega) dL_law_525 ?_
  refine z_aload_n 0 dL_law_526 rfl rfl ?_
  refine z_iload 4 dL_law_527 rfl ?_
  refine z_iconst (v := 3) dL_law_529 rfl ?_
  refine z_iadd dL_law_530 ?_
  refine z_sld (j := ii + 3) rfl (show nI ii + 3 = nI (ii + 3) from nI_add ii 3) (by omega) (by omega) dL_law_531 ?_
  refine z_aload_n 3 dL_law_532 rfl rfl ?_
  refine z_callX (Y := zPl E Sm) (X1 := [(q, zcl E f)]) (st := []) (w_L_changeAt (PM := pm_changeAt E m RR (xs (ii + 1)) (xs (ii + 2)) (xs (ii + 3)) Sm) hx1.1 (hsim Sc Sm hR (xs (ii + 1)) (xs (ii + 2)) (xs (ii + 3)))) zw_778 zw_776 zw_777 zw_62 zy_L_changeAt rfl rfl ⟨Nat.le_of_ble_eq_true rfl, Nat.le_of_ble_eq_true rfl⟩ ⟨Nat.le_trans (Nat.add_le_add_left (Nat.le_of_ble_eq_true rfl) _) hk, Nat.le_trans (Nat.add_le_add_left (Nat.le_of_ble_eq_true rfl) _) hn⟩ (Nat.le_of_ble_eq_true rfl) dL_law_533 (fun v X1 S1 h => ?_)
  obtain ⟨k9, r9, f1, rfl, rfl, h0, h⟩ := h
  refine z_widen (k' := k + 16) (n' := n + 480) (Nat.add_le_add_left (Nat.le_of_ble_eq_true rfl) _) (Nat.add_le_add_left (Nat.le_of_ble_eq_true rfl) _) ?_
  refine z_rot ?_
  refine z_istore (lv' := [(5, .int k9), (0, .ref b), (1, .ref x), (2, .ref m), (3, .ref q), (4, .int (nI ii))]) dL_law_536 (Nat.le_of_ble_eq_true rfl) rfl ?_
  refine z_aload_n 3 dL_law_538 rfl rfl ?_
  refine z_aload_n 1 dL_law_539 rfl rfl ?_
  refine z_iload 5 dL_law_540 rfl ?_
  refine z_iconst (v := 1) dL_law_542 rfl ?_
  refine z_iadd dL_law_543 ?_
  refine z_sld (j := ii + 1) rfl (show nI ii + 1 = nI (ii + 1) from nI_add ii 1) (by omega) (by omega) dL_law_544 ?_
  refine z_aload_n 1 dL_law_545 rfl rfl ?_
  refine z_iload 5 dL_law_546 rfl ?_
  refine z_iconst (v := 2) dL_law_548 rfl ?_
  refine z_iadd dL_law_549 ?_
  refine z_sld (j := ii + 2) rfl (show nI ii + 2 = nI (ii + 2) from nI_add ii 2) (by omega) (by omega) dL_law_550 ?_
  refine z_aload_n 1 dL_law_551 rfl rfl ?_
  refine z_iload 5 dL_law_552 rfl ?_
  refine z_iconst (v := 3) dL_law_554 rfl ?_
  refine z_iadd dL_law_555 ?_
  refine z_sld (j := ii + 3) rfl (show nI ii + 3 = nI (ii + 3) from nI_add ii 3) (by omega) (by omega) dL_law_556 ?_
  refine z_callVI (ci := 11) (st := []) (w_X11_changeAt h) hx1.2.1 hx1.2.2 (Nat.le_of_ble_eq_true rfl) rfl zw_1511 zw_1508 zw_1509 zw_1510 zw_74 zy_X11_changeAt rfl rfl ⟨Nat.le_of_ble_eq_true rfl, Nat.le_of_ble_eq_true rfl⟩ ⟨hk, hn⟩ (Nat.le_of_ble_eq_true rfl) dL_law_557 (fun _ _ hx => hx.elim) (fun b9 S2 h => ?_)
  refine z_widen (k' := k + 16) (n' := n + 480) (Nat.le_refl _) (Nat.le_refl _) ?_
  refine z_istore (lv' := [(6, .int b9), (5, .int k9), (0, .ref b), (1, .ref x), (2, .ref m), (3, .ref q), (4, .int (nI ii))]) dL_law_560 (Nat.le_of_ble_eq_true rfl) rfl ?_
  refine z_aload_n 4 dL_law_562 rfl rfl ?_
  have hx2 := hx S1 S2 h.2.2
  refine z_callVI (ci := 11) (st := []) (w_X11_thrown (Q := fun r S => r = gI S2 1100 m ∧ S2 = S) (X := fun _ _ => False) ⟨hx2.2, rfl, rfl⟩) hx2.2.1 hx2.2.2 (Nat.le_of_ble_eq_true rfl) rfl zw_1428 zw_1425 zw_1426 zw_1427 zw_74 zy_X11_thrown rfl rfl ⟨Nat.le_of_ble_eq_true rfl, Nat.le_of_ble_eq_true rfl⟩ ⟨hk, hn⟩ (Nat.le_of_ble_eq_true rfl) dL_law_563 (fun _ _ hx => hx.elim) (fun t9 S3 h3 => ?_)
  obtain ⟨rfl, rfl⟩ := h3
  refine z_widen (k' := k + 16) (n' := n + 480) (Nat.le_refl _) (Nat.le_refl _) ?_
  refine z_rotB ?_
  refine z_iload 1 dL_law_566 rfl ?_
  refine z_icmp_eq 573 dL_law_568 (by decide) (fun c1 => ?_) (fun c1 => ?_)
  rotate_left
  · exact absurd h.1 c1
  refine z_iload 1 dL_law_573 rfl ?_
  refine z_if_ne 590 dL_law_575 (by decide) (fun c2 => ?_) (fun c2 => ?_)
  · refine z_goto 2818 dL_law_590 (by decide) ?_
    refine z_sub [2, 3, 4, 5, 6] (lv' := [(0, .ref b), (1, .ref x), (2, .ref m), (3, .ref q), (4, .int (nI ii))]) rfl ?_
    exact hend f1 S1 S2 h.2.2
  have hv := h0 c2
  have hb9 := h.2.1 c2
  refine z_aload_n 5 dL_law_578 rfl rfl ?_
  refine z_iconst (v := 0) dL_law_579 rfl ?_
  refine z_laldX dL_law_580 ?_
  rw [hv]
  refine z_iload 0 dL_law_581 rfl ?_
  refine z_i2l dL_law_583 rfl ?_
  refine z_lcmp dL_law_584 ?_
  refine z_if_eq 590 dL_law_585 (by decide) (fun c4 => ?_) (fun c4 => ?_)
  rotate_left
  · exact absurd (by rw [hb9]; exact zlc _) c4
  refine z_goto 2818 dL_law_590 (by decide) ?_
  refine z_sub [2, 3, 4, 5, 6] (lv' := [(0, .ref b), (1, .ref x), (2, .ref m), (3, .ref q), (4, .int (nI ii))]) rfl ?_
  exact hend f1 S1 S2 h.2.2
set_option maxRecDepth 20000 in
set_option maxHeartbeats 4000000 in
theorem lc_head {E : zE} {b L x m q ii : Nat} {xs : Nat → Int32} {tb : List ExceptionTableEntry} {RR : zS → zS → Prop} {Q : Option Value → va_W → zS → Prop} {XC : String → va_W → zS → Prop} (hsim : sim_head E x m RR) (hx : ∀ Sc Sm, RR Sc Sm → (x ∈ gL Sc ∧ gK Sc x = 10) ∧ (m ∈ gL Sm ∧ gK Sm m = 11)) (hi : ii + 3 < L) (hL : L ≤ 2048) {k n : Nat} (hk : k + 16 ≤ room_1.cells) (hn : n + 480 ≤ room_1.slots) {f : Nat → Int64} {Sc Sm : zS} (hR : RR Sc Sm)
    (hend : ∀ (f1 : Nat → Int64) (S1 S2 : zS), RR S1 S2 → zJ E (RL, cL_law, 7, (some .boolean), false, tb, zScr E b L xs) room_1 Q XC 2818 [(0, .ref b), (1, .ref x), (2, .ref m), (3, .ref q), (4, .int (nI ii))] [] (zPl E S2 ++ [(q, zcl E f1)]) S1 (k + 16) (n + 480)) : zJ E (RL, cL_law, 7, (some .boolean), false, tb, zScr E b L xs) room_1 Q XC 593 [(0, .ref b), (1, .ref x), (2, .ref m), (3, .ref q), (4, .int (nI ii))] [] (zPl E Sm ++ [(q, zcl E f)]) Sc k n := by
  have hx1 := hx Sc Sm hR
  refine z_aload_n 1 dL_law_593 rfl rfl ?_
  refine z_aload_n 0 dL_law_594 rfl rfl ?_
  refine z_iload 4 dL_law_595 rfl ?_
  refine z_iconst (v := 1) dL_law_597 rfl ?_
  refine z_iadd dL_law_598 ?_
  refine z_sld (j := ii + 1) rfl (show nI ii + 1 = nI (ii + 1) from nI_add ii 1) (by omega) (by omega) dL_law_599 ?_
  refine z_aload_n 0 dL_law_600 rfl rfl ?_
  refine z_iload 4 dL_law_601 rfl ?_
  refine z_iconst (v := 2) dL_law_603 rfl ?_
  refine z_iadd dL_law_604 ?_
  refine z_sld (j := ii + 2) rfl (show nI ii + 2 = nI (ii + 2) from nI_add ii 2) (by omega) (by omega) dL_law_605 ?_
  refine z_aload_n 3 dL_law_606 rfl rfl ?_
  refine z_callX (Y := zPl E Sm) (X1 := [(q, zcl E f)]) (st := []) (w_L_head (PM := pm_head E m RR (xs (ii + 1)) (xs (ii + 2)) Sm) hx1.1 (hsim Sc Sm hR (xs (ii + 1)) (xs (ii + 2)))) zw_786 zw_784 zw_785 zw_62 zy_L_head rfl rfl ⟨Nat.le_of_ble_eq_true rfl, Nat.le_of_ble_eq_true rfl⟩ ⟨Nat.le_trans (Nat.add_le_add_left (Nat.le_of_ble_eq_true rfl) _) hk, Nat.le_trans (Nat.add_le_add_left (Nat.le_of_ble_eq_true rfl) _) hn⟩ (Nat.le_of_ble_eq_true rfl) dL_law_607 (fun v X1 S1 h => ?_)
  obtain ⟨k9, r9, f1, rfl, rfl, h0, h⟩ := h
  refine z_widen (k' := k + 16) (n' := n + 480) (Nat.add_le_add_left (Nat.le_of_ble_eq_true rfl) _) (Nat.add_le_add_left (Nat.le_of_ble_eq_true rfl) _) ?_
  refine z_rot ?_
  refine z_istore (lv' := [(5, .int k9), (0, .ref b), (1, .ref x), (2, .ref m), (3, .ref q), (4, .int (nI ii))]) dL_law_610 (Nat.le_of_ble_eq_true rfl) rfl ?_
  refine z_aload_n 3 dL_law_612 rfl rfl ?_
  refine z_aload_n 1 dL_law_613 rfl rfl ?_
  refine z_iload 5 dL_law_614 rfl ?_
  refine z_iconst (v := 1) dL_law_616 rfl ?_
  refine z_iadd dL_law_617 ?_
  refine z_sld (j := ii + 1) rfl (show nI ii + 1 = nI (ii + 1) from nI_add ii 1) (by omega) (by omega) dL_law_618 ?_
  refine z_aload_n 1 dL_law_619 rfl rfl ?_
  refine z_iload 5 dL_law_620 rfl ?_
  refine z_iconst (v := 2) dL_law_622 rfl ?_
  refine z_iadd dL_law_623 ?_
  refine z_sld (j := ii + 2) rfl (show nI ii + 2 = nI (ii + 2) from nI_add ii 2) (by omega) (by omega) dL_law_624 ?_
  refine z_callVI (ci := 11) (st := []) (w_X11_head h) hx1.2.1 hx1.2.2 (Nat.le_of_ble_eq_true rfl) rfl zw_1518 zw_1515 zw_1516 zw_1517 zw_74 zy_X11_head rfl rfl ⟨Nat.le_of_ble_eq_true rfl, Nat.le_of_ble_eq_true rfl⟩ ⟨hk, hn⟩ (Nat.le_of_ble_eq_true rfl) dL_law_625 (fun _ _ hx => hx.elim) (fun b9 S2 h => ?_)
  refine z_widen (k' := k + 16) (n' := n + 480) (Nat.le_refl _) (Nat.le_refl _) ?_
  refine z_istore (lv' := [(6, .int b9), (5, .int k9), (0, .ref b), (1, .ref x), (2, .ref m), (3, .ref q), (4, .int (nI ii))]) dL_law_628 (Nat.le_of_ble_eq_true rfl) rfl ?_
  refine z_aload_n 4 dL_law_630 rfl rfl ?_
  have hx2 := hx S1 S2 h.2.2
  refine z_callVI (ci := 11) (st := []) (w_X11_thrown (Q := fun r S => r = gI S2 1100 m ∧ S2 = S) (X := fun _ _ => False) ⟨hx2.2, rfl, rfl⟩) hx2.2.1 hx2.2.2 (Nat.le_of_ble_eq_true rfl) rfl zw_1428 zw_1425 zw_1426 zw_1427 zw_74 zy_X11_thrown rfl rfl ⟨Nat.le_of_ble_eq_true rfl, Nat.le_of_ble_eq_true rfl⟩ ⟨hk, hn⟩ (Nat.le_of_ble_eq_true rfl) dL_law_631 (fun _ _ hx => hx.elim) (fun t9 S3 h3 => ?_)
  obtain ⟨rfl, rfl⟩ := h3
  refine z_widen (k' := k + 16) (n' := n + 480) (Nat.le_refl _) (Nat.le_refl _) ?_
  refine z_rotB ?_
  refine z_iload 1 dL_law_634 rfl ?_
  refine z_icmp_eq 641 dL_law_636 (by decide) (fun c1 => ?_) (fun c1 => ?_)
  rotate_left
  · exact absurd h.1 c1
  refine z_iload 1 dL_law_641 rfl ?_
  refine z_if_ne 658 dL_law_643 (by decide) (fun c2 => ?_) (fun c2 => ?_)
  · refine z_goto 2818 dL_law_658 (by decide) ?_
    refine z_sub [2, 3, 4, 5, 6] (lv' := [(0, .ref b), (1, .ref x), (2, .ref m), (3, .ref q), (4, .int (nI ii))]) rfl ?_
    exact hend f1 S1 S2 h.2.2
  have hv := h0 c2
  have hb9 := h.2.1 c2
  refine z_aload_n 5 dL_law_646 rfl rfl ?_
  refine z_iconst (v := 0) dL_law_647 rfl ?_
  refine z_laldX dL_law_648 ?_
  rw [hv]
  refine z_iload 0 dL_law_649 rfl ?_
  refine z_i2l dL_law_651 rfl ?_
  refine z_lcmp dL_law_652 ?_
  refine z_if_eq 658 dL_law_653 (by decide) (fun c4 => ?_) (fun c4 => ?_)
  rotate_left
  · exact absurd (by rw [hb9]; exact zlc _) c4
  refine z_goto 2818 dL_law_658 (by decide) ?_
  refine z_sub [2, 3, 4, 5, 6] (lv' := [(0, .ref b), (1, .ref x), (2, .ref m), (3, .ref q), (4, .int (nI ii))]) rfl ?_
  exact hend f1 S1 S2 h.2.2
set_option maxRecDepth 20000 in
set_option maxHeartbeats 4000000 in
theorem lc_course {E : zE} {b L x m q ii : Nat} {xs : Nat → Int32} {tb : List ExceptionTableEntry} {RR : zS → zS → Prop} {Q : Option Value → va_W → zS → Prop} {XC : String → va_W → zS → Prop} (hsim : sim_course E x m RR) (hx : ∀ Sc Sm, RR Sc Sm → (x ∈ gL Sc ∧ gK Sc x = 10) ∧ (m ∈ gL Sm ∧ gK Sm m = 11)) (hi : ii + 3 < L) (hL : L ≤ 2048) {k n : Nat} (hk : k + 16 ≤ room_1.cells) (hn : n + 480 ≤ room_1.slots) {f : Nat → Int64} {Sc Sm : zS} (hR : RR Sc Sm)
    (hend : ∀ (f1 : Nat → Int64) (S1 S2 : zS), RR S1 S2 → zJ E (RL, cL_law, 7, (some .boolean), false, tb, zScr E b L xs) room_1 Q XC 2818 [(0, .ref b), (1, .ref x), (2, .ref m), (3, .ref q), (4, .int (nI ii))] [] (zPl E S2 ++ [(q, zcl E f1)]) S1 (k + 16) (n + 480)) : zJ E (RL, cL_law, 7, (some .boolean), false, tb, zScr E b L xs) room_1 Q XC 661 [(0, .ref b), (1, .ref x), (2, .ref m), (3, .ref q), (4, .int (nI ii))] [] (zPl E Sm ++ [(q, zcl E f)]) Sc k n := by
  have hx1 := hx Sc Sm hR
  refine z_aload_n 1 dL_law_661 rfl rfl ?_
  refine z_aload_n 0 dL_law_662 rfl rfl ?_
  refine z_iload 4 dL_law_663 rfl ?_
  refine z_iconst (v := 1) dL_law_665 rfl ?_
  refine z_iadd dL_law_666 ?_
  refine z_sld (j := ii + 1) rfl (show nI ii + 1 = nI (ii + 1) from nI_add ii 1) (by omega) (by omega) dL_law_667 ?_
  refine z_aload_n 3 dL_law_668 rfl rfl ?_
  refine z_callX (Y := zPl E Sm) (X1 := [(q, zcl E f)]) (st := []) (w_L_course (PM := pm_course E m RR (xs (ii + 1)) Sm) hx1.1 (hsim Sc Sm hR (xs (ii + 1)))) zw_800 zw_798 zw_799 zw_62 zy_L_course rfl rfl ⟨Nat.le_of_ble_eq_true rfl, Nat.le_of_ble_eq_true rfl⟩ ⟨Nat.le_trans (Nat.add_le_add_left (Nat.le_of_ble_eq_true rfl) _) hk, Nat.le_trans (Nat.add_le_add_left (Nat.le_of_ble_eq_true rfl) _) hn⟩ (Nat.le_of_ble_eq_true rfl) dL_law_669 (fun v X1 S1 h => ?_)
  obtain ⟨k9, r9, f1, rfl, rfl, h0, h⟩ := h
  refine z_widen (k' := k + 16) (n' := n + 480) (Nat.add_le_add_left (Nat.le_of_ble_eq_true rfl) _) (Nat.add_le_add_left (Nat.le_of_ble_eq_true rfl) _) ?_
  refine z_rot ?_
  refine z_istore (lv' := [(5, .int k9), (0, .ref b), (1, .ref x), (2, .ref m), (3, .ref q), (4, .int (nI ii))]) dL_law_672 (Nat.le_of_ble_eq_true rfl) rfl ?_
  refine z_aload_n 3 dL_law_674 rfl rfl ?_
  refine z_aload_n 1 dL_law_675 rfl rfl ?_
  refine z_iload 5 dL_law_676 rfl ?_
  refine z_iconst (v := 1) dL_law_678 rfl ?_
  refine z_iadd dL_law_679 ?_
  refine z_sld (j := ii + 1) rfl (show nI ii + 1 = nI (ii + 1) from nI_add ii 1) (by omega) (by omega) dL_law_680 ?_
  refine z_callVI (ci := 11) (st := []) (w_X11_course h) hx1.2.1 hx1.2.2 (Nat.le_of_ble_eq_true rfl) rfl zw_1529 zw_1526 zw_1527 zw_1528 zw_74 zy_X11_course rfl rfl ⟨Nat.le_of_ble_eq_true rfl, Nat.le_of_ble_eq_true rfl⟩ ⟨hk, hn⟩ (Nat.le_of_ble_eq_true rfl) dL_law_681 (fun _ _ hx => hx.elim) (fun b9 S2 h => ?_)
  refine z_widen (k' := k + 16) (n' := n + 480) (Nat.le_refl _) (Nat.le_refl _) ?_
  refine z_istore (lv' := [(6, .int b9), (5, .int k9), (0, .ref b), (1, .ref x), (2, .ref m), (3, .ref q), (4, .int (nI ii))]) dL_law_684 (Nat.le_of_ble_eq_true rfl) rfl ?_
  refine z_aload_n 4 dL_law_686 rfl rfl ?_
  have hx2 := hx S1 S2 h.2.2
  refine z_callVI (ci := 11) (st := []) (w_X11_thrown (Q := fun r S => r = gI S2 1100 m ∧ S2 = S) (X := fun _ _ => False) ⟨hx2.2, rfl, rfl⟩) hx2.2.1 hx2.2.2 (Nat.le_of_ble_eq_true rfl) rfl zw_1428 zw_1425 zw_1426 zw_1427 zw_74 zy_X11_thrown rfl rfl ⟨Nat.le_of_ble_eq_true rfl, Nat.le_of_ble_eq_true rfl⟩ ⟨hk, hn⟩ (Nat.le_of_ble_eq_true rfl) dL_law_687 (fun _ _ hx => hx.elim) (fun t9 S3 h3 => ?_)
  obtain ⟨rfl, rfl⟩ := h3
  refine z_widen (k' := k + 16) (n' := n + 480) (Nat.le_refl _) (Nat.le_refl _) ?_
  refine z_rotB ?_
  refine z_iload 1 dL_law_690 rfl ?_
  refine z_icmp_eq 697 dL_law_692 (by decide) (fun c1 => ?_) (fun c1 => ?_)
  rotate_left
  · exact absurd h.1 c1
  refine z_iload 1 dL_law_697 rfl ?_
  refine z_if_ne 714 dL_law_699 (by decide) (fun c2 => ?_) (fun c2 => ?_)
  · refine z_goto 2818 dL_law_714 (by decide) ?_
    refine z_sub [2, 3, 4, 5, 6] (lv' := [(0, .ref b), (1, .ref x), (2, .ref m), (3, .ref q), (4, .int (nI ii))]) rfl ?_
    exact hend f1 S1 S2 h.2.2
  have hv := h0 c2
  have hb9 := h.2.1 c2
  refine z_aload_n 5 dL_law_702 rfl rfl ?_
  refine z_iconst (v := 0) dL_law_703 rfl ?_
  refine z_laldX dL_law_704 ?_
  rw [hv]
  refine z_iload 0 dL_law_705 rfl ?_
  refine z_i2l dL_law_707 rfl ?_
  refine z_lcmp dL_law_708 ?_
  refine z_if_eq 714 dL_law_709 (by decide) (fun c4 => ?_) (fun c4 => ?_)
  rotate_left
  · exact absurd (by rw [hb9]; exact zlc _) c4
  refine z_goto 2818 dL_law_714 (by decide) ?_
  refine z_sub [2, 3, 4, 5, 6] (lv' := [(0, .ref b), (1, .ref x), (2, .ref m), (3, .ref q), (4, .int (nI ii))]) rfl ?_
  exact hend f1 S1 S2 h.2.2
set_option maxRecDepth 20000 in
set_option maxHeartbeats 4000000 in
theorem lc_isFalse {E : zE} {b L x m q ii : Nat} {xs : Nat → Int32} {tb : List ExceptionTableEntry} {RR : zS → zS → Prop} {Q : Option Value → va_W → zS → Prop} {XC : String → va_W → zS → Prop} (hsim : sim_isFalse E x m RR) (hx : ∀ Sc Sm, RR Sc Sm → (x ∈ gL Sc ∧ gK Sc x = 10) ∧ (m ∈ gL Sm ∧ gK Sm m = 11)) (hi : ii + 3 < L) (hL : L ≤ 2048) {k n : Nat} (hk : k + 16 ≤ room_1.cells) (hn : n + 480 ≤ room_1.slots) {f : Nat → Int64} {Sc Sm : zS} (hR : RR Sc Sm)
    (hend : ∀ (f1 : Nat → Int64) (S1 S2 : zS), RR S1 S2 → zJ E (RL, cL_law, 7, (some .boolean), false, tb, zScr E b L xs) room_1 Q XC 2818 [(0, .ref b), (1, .ref x), (2, .ref m), (3, .ref q), (4, .int (nI ii))] [] (zPl E S2 ++ [(q, zcl E f1)]) S1 (k + 16) (n + 480)) : zJ E (RL, cL_law, 7, (some .boolean), false, tb, zScr E b L xs) room_1 Q XC 717 [(0, .ref b), (1, .ref x), (2, .ref m), (3, .ref q), (4, .int (nI ii))] [] (zPl E Sm ++ [(q, zcl E f)]) Sc k n := by
  have hx1 := hx Sc Sm hR
  refine z_aload_n 1 dL_law_717 rfl rfl ?_
  refine z_aload_n 0 dL_law_718 rfl rfl ?_
  refine z_iload 4 dL_law_719 rfl ?_
  refine z_iconst (v := 1) dL_law_721 rfl ?_
  refine z_iadd dL_law_722 ?_
  refine z_sld (j := ii + 1) rfl (show nI ii + 1 = nI (ii + 1) from nI_add ii 1) (by omega) (by omega) dL_law_723 ?_
  refine z_aload_n 0 dL_law_724 rfl rfl ?_
  refine z_iload 4 dL_law_725 rfl ?_
  refine z_iconst (v := 2) dL_law_727 rfl ?_
  refine z_iadd dL_law_728 ?_
  refine z_sld (j := ii + 2) rfl (show nI ii + 2 = nI (ii + 2) from nI_add ii 2) (by omega) (by omega) dL_law_729 ?_
  refine z_aload_n 3 dL_law_730 rfl rfl ?_
  refine z_callX (Y := zPl E Sm) (X1 := [(q, zcl E f)]) (st := []) (w_L_isFalse (PM := pm_isFalse E m RR (xs (ii + 1)) (xs (ii + 2)) Sm) hx1.1 (hsim Sc Sm hR (xs (ii + 1)) (xs (ii + 2)))) zw_812 zw_810 zw_811 zw_62 zy_L_isFalse rfl rfl ⟨Nat.le_of_ble_eq_true rfl, Nat.le_of_ble_eq_true rfl⟩ ⟨Nat.le_trans (Nat.add_le_add_left (Nat.le_of_ble_eq_true rfl) _) hk, Nat.le_trans (Nat.add_le_add_left (Nat.le_of_ble_eq_true rfl) _) hn⟩ (Nat.le_of_ble_eq_true rfl) dL_law_731 (fun v X1 S1 h => ?_)
  obtain ⟨k9, r9, f1, rfl, rfl, h0, h⟩ := h
  refine z_widen (k' := k + 16) (n' := n + 480) (Nat.add_le_add_left (Nat.le_of_ble_eq_true rfl) _) (Nat.add_le_add_left (Nat.le_of_ble_eq_true rfl) _) ?_
  refine z_rot ?_
  refine z_istore (lv' := [(5, .int k9), (0, .ref b), (1, .ref x), (2, .ref m), (3, .ref q), (4, .int (nI ii))]) dL_law_734 (Nat.le_of_ble_eq_true rfl) rfl ?_
  refine z_aload_n 3 dL_law_736 rfl rfl ?_
  refine z_aload_n 1 dL_law_737 rfl rfl ?_
  refine z_iload 5 dL_law_738 rfl ?_
  refine z_iconst (v := 1) dL_law_740 rfl ?_
  refine z_iadd dL_law_741 ?_
  refine z_sld (j := ii + 1) rfl (show nI ii + 1 = nI (ii + 1) from nI_add ii 1) (by omega) (by omega) dL_law_742 ?_
  refine z_aload_n 1 dL_law_743 rfl rfl ?_
  refine z_iload 5 dL_law_744 rfl ?_
  refine z_iconst (v := 2) dL_law_746 rfl ?_
  refine z_iadd dL_law_747 ?_
  refine z_sld (j := ii + 2) rfl (show nI ii + 2 = nI (ii + 2) from nI_add ii 2) (by omega) (by omega) dL_law_748 ?_
  refine z_callVI (ci := 11) (st := []) (w_X11_isFalse h) hx1.2.1 hx1.2.2 (Nat.le_of_ble_eq_true rfl) rfl zw_1533 zw_1530 zw_1531 zw_1532 zw_74 zy_X11_isFalse rfl rfl ⟨Nat.le_of_ble_eq_true rfl, Nat.le_of_ble_eq_true rfl⟩ ⟨hk, hn⟩ (Nat.le_of_ble_eq_true rfl) dL_law_749 (fun _ _ hx => hx.elim) (fun b9 S2 h => ?_)
  refine z_widen (k' := k + 16) (n' := n + 480) (Nat.le_refl _) (Nat.le_refl _) ?_
  refine z_istore (lv' := [(6, .int b9), (5, .int k9), (0, .ref b), (1, .ref x), (2, .ref m), (3, .ref q), (4, .int (nI ii))]) dL_law_752 (Nat.le_of_ble_eq_true rfl) rfl ?_
  refine z_aload_n 4 dL_law_754 rfl rfl ?_
  have hx2 := hx S1 S2 h.2.2
  refine z_callVI (ci := 11) (st := []) (w_X11_thrown (Q := fun r S => r = gI S2 1100 m ∧ S2 = S) (X := fun _ _ => False) ⟨hx2.2, rfl, rfl⟩) hx2.2.1 hx2.2.2 (Nat.le_of_ble_eq_true rfl) rfl zw_1428 zw_1425 zw_1426 zw_1427 zw_74 zy_X11_thrown rfl rfl ⟨Nat.le_of_ble_eq_true rfl, Nat.le_of_ble_eq_true rfl⟩ ⟨hk, hn⟩ (Nat.le_of_ble_eq_true rfl) dL_law_755 (fun _ _ hx => hx.elim) (fun t9 S3 h3 => ?_)
  obtain ⟨rfl, rfl⟩ := h3
  refine z_widen (k' := k + 16) (n' := n + 480) (Nat.le_refl _) (Nat.le_refl _) ?_
  refine z_rotB ?_
  refine z_iload 1 dL_law_758 rfl ?_
  refine z_icmp_eq 765 dL_law_760 (by decide) (fun c1 => ?_) (fun c1 => ?_)
  rotate_left
  · exact absurd h.1 c1
  refine z_iload 1 dL_law_765 rfl ?_
  refine z_if_ne 789 dL_law_767 (by decide) (fun c2 => ?_) (fun c2 => ?_)
  · refine z_goto 2818 dL_law_789 (by decide) ?_
    refine z_sub [2, 3, 4, 5, 6] (lv' := [(0, .ref b), (1, .ref x), (2, .ref m), (3, .ref q), (4, .int (nI ii))]) rfl ?_
    exact hend f1 S1 S2 h.2.2
  have hv := h0 c2
  have hb9 := h.2.1 c2
  refine z_aload_n 5 dL_law_770 rfl rfl ?_
  refine z_iconst (v := 0) dL_law_771 rfl ?_
  refine z_laldX dL_law_772 ?_
  rw [hv]
  refine z_iload 0 dL_law_773 rfl ?_
  refine z_if_eq 782 dL_law_775 (by decide) (fun c3 => ?_) (fun c3 => ?_)
  · refine z_lconst (v := 0) dL_law_782 rfl ?_
    refine z_lcmp dL_law_783 ?_
    refine z_if_eq 789 dL_law_784 (by decide) (fun c4 => ?_) (fun c4 => ?_)
    rotate_left
    · exact absurd (by rw [hb9]; simp [c3, zlc]) c4
    refine z_goto 2818 dL_law_789 (by decide) ?_
    refine z_sub [2, 3, 4, 5, 6] (lv' := [(0, .ref b), (1, .ref x), (2, .ref m), (3, .ref q), (4, .int (nI ii))]) rfl ?_
    exact hend f1 S1 S2 h.2.2
  · refine z_lconst (v := 1) dL_law_778 rfl ?_
    refine z_goto 783 dL_law_779 (by decide) ?_
    refine z_lcmp dL_law_783 ?_
    refine z_if_eq 789 dL_law_784 (by decide) (fun c4 => ?_) (fun c4 => ?_)
    rotate_left
    · exact absurd (by rw [hb9]; simp [c3, zlc]) c4
    refine z_goto 2818 dL_law_789 (by decide) ?_
    refine z_sub [2, 3, 4, 5, 6] (lv' := [(0, .ref b), (1, .ref x), (2, .ref m), (3, .ref q), (4, .int (nI ii))]) rfl ?_
    exact hend f1 S1 S2 h.2.2
set_option maxRecDepth 20000 in
set_option maxHeartbeats 4000000 in
theorem lc_falseRows {E : zE} {b L x m q ii : Nat} {xs : Nat → Int32} {tb : List ExceptionTableEntry} {RR : zS → zS → Prop} {Q : Option Value → va_W → zS → Prop} {XC : String → va_W → zS → Prop} (hsim : sim_falseRows E x m RR) (hx : ∀ Sc Sm, RR Sc Sm → (x ∈ gL Sc ∧ gK Sc x = 10) ∧ (m ∈ gL Sm ∧ gK Sm m = 11)) (hi : ii + 3 < L) (hL : L ≤ 2048) {k n : Nat} (hk : k + 16 ≤ room_1.cells) (hn : n + 480 ≤ room_1.slots) {f : Nat → Int64} {Sc Sm : zS} (hR : RR Sc Sm)
    (hend : ∀ (f1 : Nat → Int64) (S1 S2 : zS), RR S1 S2 → zJ E (RL, cL_law, 7, (some .boolean), false, tb, zScr E b L xs) room_1 Q XC 2818 [(0, .ref b), (1, .ref x), (2, .ref m), (3, .ref q), (4, .int (nI ii))] [] (zPl E S2 ++ [(q, zcl E f1)]) S1 (k + 16) (n + 480)) : zJ E (RL, cL_law, 7, (some .boolean), false, tb, zScr E b L xs) room_1 Q XC 792 [(0, .ref b), (1, .ref x), (2, .ref m), (3, .ref q), (4, .int (nI ii))] [] (zPl E Sm ++ [(q, zcl E f)]) Sc k n := by
  have hx1 := hx Sc Sm hR
  refine z_aload_n 1 dL_law_792 rfl rfl ?_
  refine z_aload_n 0 dL_law_793 rfl rfl ?_
  refine z_iload 4 dL_law_794 rfl ?_
  refine z_iconst (v := 1) dL_law_796 rfl ?_
  refine z_iadd dL_law_797 ?_
  refine z_sld (j := ii + 1) rfl (show nI ii + 1 = nI (ii + 1) from nI_add ii 1) (by omega) (by omega) dL_law_798 ?_
  refine z_aload_n 3 dL_law_799 rfl rfl ?_
  refine z_callX (Y := zPl E Sm) (X1 := [(q, zcl E f)]) (st := []) (w_L_falseRows (PM := pm_falseRows E m RR (xs (ii + 1)) Sm) hx1.1 (hsim Sc Sm hR (xs (ii + 1)))) zw_823 zw_821 zw_822 zw_62 zy_L_falseRows rfl rfl ⟨Nat.le_of_ble_eq_true rfl, Nat.le_of_ble_eq_true rfl⟩ ⟨Nat.le_trans (Nat.add_le_add_left (Nat.le_of_ble_eq_true rfl) _) hk, Nat.le_trans (Nat.add_le_add_left (Nat.le_of_ble_eq_true rfl) _) hn⟩ (Nat.le_of_ble_eq_true rfl) dL_law_800 (fun v X1 S1 h => ?_)
  obtain ⟨k9, r9, f1, rfl, rfl, h0, h⟩ := h
  refine z_widen (k' := k + 16) (n' := n + 480) (Nat.add_le_add_left (Nat.le_of_ble_eq_true rfl) _) (Nat.add_le_add_left (Nat.le_of_ble_eq_true rfl) _) ?_
  refine z_rot ?_
  refine z_istore (lv' := [(5, .int k9), (0, .ref b), (1, .ref x), (2, .ref m), (3, .ref q), (4, .int (nI ii))]) dL_law_803 (Nat.le_of_ble_eq_true rfl) rfl ?_
  refine z_aload_n 3 dL_law_805 rfl rfl ?_
  refine z_aload_n 1 dL_law_806 rfl rfl ?_
  refine z_iload 5 dL_law_807 rfl ?_
  refine z_iconst (v := 1) dL_law_809 rfl ?_
  refine z_iadd dL_law_810 ?_
  refine z_sld (j := ii + 1) rfl (show nI ii + 1 = nI (ii + 1) from nI_add ii 1) (by omega) (by omega) dL_law_811 ?_
  refine z_callVI (ci := 11) (st := []) (w_X11_falseRows h) hx1.2.1 hx1.2.2 (Nat.le_of_ble_eq_true rfl) rfl zw_1552 zw_1549 zw_1550 zw_1551 zw_74 zy_X11_falseRows rfl rfl ⟨Nat.le_of_ble_eq_true rfl, Nat.le_of_ble_eq_true rfl⟩ ⟨hk, hn⟩ (Nat.le_of_ble_eq_true rfl) dL_law_812 (fun _ _ hx => hx.elim) (fun b9 S2 h => ?_)
  refine z_widen (k' := k + 16) (n' := n + 480) (Nat.le_refl _) (Nat.le_refl _) ?_
  refine z_istore (lv' := [(6, .int b9), (5, .int k9), (0, .ref b), (1, .ref x), (2, .ref m), (3, .ref q), (4, .int (nI ii))]) dL_law_815 (Nat.le_of_ble_eq_true rfl) rfl ?_
  refine z_aload_n 4 dL_law_817 rfl rfl ?_
  have hx2 := hx S1 S2 h.2.2
  refine z_callVI (ci := 11) (st := []) (w_X11_thrown (Q := fun r S => r = gI S2 1100 m ∧ S2 = S) (X := fun _ _ => False) ⟨hx2.2, rfl, rfl⟩) hx2.2.1 hx2.2.2 (Nat.le_of_ble_eq_true rfl) rfl zw_1428 zw_1425 zw_1426 zw_1427 zw_74 zy_X11_thrown rfl rfl ⟨Nat.le_of_ble_eq_true rfl, Nat.le_of_ble_eq_true rfl⟩ ⟨hk, hn⟩ (Nat.le_of_ble_eq_true rfl) dL_law_818 (fun _ _ hx => hx.elim) (fun t9 S3 h3 => ?_)
  obtain ⟨rfl, rfl⟩ := h3
  refine z_widen (k' := k + 16) (n' := n + 480) (Nat.le_refl _) (Nat.le_refl _) ?_
  refine z_rotB ?_
  refine z_iload 1 dL_law_821 rfl ?_
  refine z_icmp_eq 828 dL_law_823 (by decide) (fun c1 => ?_) (fun c1 => ?_)
  rotate_left
  · exact absurd h.1 c1
  refine z_iload 1 dL_law_828 rfl ?_
  refine z_if_ne 845 dL_law_830 (by decide) (fun c2 => ?_) (fun c2 => ?_)
  · refine z_goto 2818 dL_law_845 (by decide) ?_
    refine z_sub [2, 3, 4, 5, 6] (lv' := [(0, .ref b), (1, .ref x), (2, .ref m), (3, .ref q), (4, .int (nI ii))]) rfl ?_
    exact hend f1 S1 S2 h.2.2
  have hv := h0 c2
  have hb9 := h.2.1 c2
  refine z_aload_n 5 dL_law_833 rfl rfl ?_
  refine z_iconst (v := 0) dL_law_834 rfl ?_
  refine z_laldX dL_law_835 ?_
  rw [hv]
  refine z_iload 0 dL_law_836 rfl ?_
  refine z_i2l dL_law_838 rfl ?_
  refine z_lcmp dL_law_839 ?_
  refine z_if_eq 845 dL_law_840 (by decide) (fun c4 => ?_) (fun c4 => ?_)
  rotate_left
  · exact absurd (by rw [hb9]; exact zlc _) c4
  refine z_goto 2818 dL_law_845 (by decide) ?_
  refine z_sub [2, 3, 4, 5, 6] (lv' := [(0, .ref b), (1, .ref x), (2, .ref m), (3, .ref q), (4, .int (nI ii))]) rfl ?_
  exact hend f1 S1 S2 h.2.2
set_option maxRecDepth 20000 in
set_option maxHeartbeats 4000000 in
theorem lc_lead {E : zE} {b L x m q ii : Nat} {xs : Nat → Int32} {tb : List ExceptionTableEntry} {RR : zS → zS → Prop} {Q : Option Value → va_W → zS → Prop} {XC : String → va_W → zS → Prop} (hsim : sim_lead E x m RR) (hx : ∀ Sc Sm, RR Sc Sm → (x ∈ gL Sc ∧ gK Sc x = 10) ∧ (m ∈ gL Sm ∧ gK Sm m = 11)) (hi : ii + 3 < L) (hL : L ≤ 2048) {k n : Nat} (hk : k + 16 ≤ room_1.cells) (hn : n + 480 ≤ room_1.slots) {f : Nat → Int64} {Sc Sm : zS} (hR : RR Sc Sm)
    (hend : ∀ (f1 : Nat → Int64) (S1 S2 : zS), RR S1 S2 → zJ E (RL, cL_law, 7, (some .boolean), false, tb, zScr E b L xs) room_1 Q XC 2818 [(0, .ref b), (1, .ref x), (2, .ref m), (3, .ref q), (4, .int (nI ii))] [] (zPl E S2 ++ [(q, zcl E f1)]) S1 (k + 16) (n + 480)) : zJ E (RL, cL_law, 7, (some .boolean), false, tb, zScr E b L xs) room_1 Q XC 848 [(0, .ref b), (1, .ref x), (2, .ref m), (3, .ref q), (4, .int (nI ii))] [] (zPl E Sm ++ [(q, zcl E f)]) Sc k n := by
  have hx1 := hx Sc Sm hR
  refine z_aload_n 1 dL_law_848 rfl rfl ?_
  refine z_aload_n 0 dL_law_849 rfl rfl ?_
  refine z_iload 4 dL_law_850 rfl ?_
  refine z_iconst (v := 1) dL_law_852 rfl ?_
  refine z_iadd dL_law_853 ?_
  refine z_sld (j := ii + 1) rfl (show nI ii + 1 = nI (ii + 1) from nI_add ii 1) (by omega) (by omega) dL_law_854 ?_
  refine z_aload_n 0 dL_law_855 rfl rfl ?_
  refine z_iload 4 dL_law_856 rfl ?_
  refine z_iconst (v := 2) dL_law_858 rfl ?_
  refine z_iadd dL_law_859 ?_
  refine z_sld (j := ii + 2) rfl (show nI ii + 2 = nI (ii + 2) from nI_add ii 2) (by omega) (by omega) dL_law_860 ?_
  refine z_aload_n 3 dL_law_861 rfl rfl ?_
  refine z_callX (Y := zPl E Sm) (X1 := [(q, zcl E f)]) (st := []) (w_L_lead (PM := pm_lead E m RR (xs (ii + 1)) (xs (ii + 2)) Sm) hx1.1 (hsim Sc Sm hR (xs (ii + 1)) (xs (ii + 2)))) zw_830 zw_828 zw_829 zw_62 zy_L_lead rfl rfl ⟨Nat.le_of_ble_eq_true rfl, Nat.le_of_ble_eq_true rfl⟩ ⟨Nat.le_trans (Nat.add_le_add_left (Nat.le_of_ble_eq_true rfl) _) hk, Nat.le_trans (Nat.add_le_add_left (Nat.le_of_ble_eq_true rfl) _) hn⟩ (Nat.le_of_ble_eq_true rfl) dL_law_862 (fun v X1 S1 h => ?_)
  obtain ⟨k9, r9, f1, rfl, rfl, h0, h⟩ := h
  refine z_widen (k' := k + 16) (n' := n + 480) (Nat.add_le_add_left (Nat.le_of_ble_eq_true rfl) _) (Nat.add_le_add_left (Nat.le_of_ble_eq_true rfl) _) ?_
  refine z_rot ?_
  refine z_istore (lv' := [(5, .int k9), (0, .ref b), (1, .ref x), (2, .ref m), (3, .ref q), (4, .int (nI ii))]) dL_law_865 (Nat.le_of_ble_eq_true rfl) rfl ?_
  refine z_aload_n 3 dL_law_867 rfl rfl ?_
  refine z_aload_n 1 dL_law_868 rfl rfl ?_
  refine z_iload 5 dL_law_869 rfl ?_
  refine z_iconst (v := 1) dL_law_871 rfl ?_
  refine z_iadd dL_law_872 ?_
  refine z_sld (j := ii + 1) rfl (show nI ii + 1 = nI (ii + 1) from nI_add ii 1) (by omega) (by omega) dL_law_873 ?_
  refine z_aload_n 1 dL_law_874 rfl rfl ?_
  refine z_iload 5 dL_law_875 rfl ?_
  refine z_iconst (v := 2) dL_law_877 rfl ?_
  refine z_iadd dL_law_878 ?_
  refine z_sld (j := ii + 2) rfl (show nI ii + 2 = nI (ii + 2) from nI_add ii 2) (by omega) (by omega) dL_law_879 ?_
  refine z_callVI (ci := 11) (st := []) (w_X11_lead h) hx1.2.1 hx1.2.2 (Nat.le_of_ble_eq_true rfl) rfl zw_1556 zw_1553 zw_1554 zw_1555 zw_74 zy_X11_lead rfl rfl ⟨Nat.le_of_ble_eq_true rfl, Nat.le_of_ble_eq_true rfl⟩ ⟨hk, hn⟩ (Nat.le_of_ble_eq_true rfl) dL_law_880 (fun _ _ hx => hx.elim) (fun b9 S2 h => ?_)
  refine z_widen (k' := k + 16) (n' := n + 480) (Nat.le_refl _) (Nat.le_refl _) ?_
  refine z_istore (lv' := [(6, .int b9), (5, .int k9), (0, .ref b), (1, .ref x), (2, .ref m), (3, .ref q), (4, .int (nI ii))]) dL_law_883 (Nat.le_of_ble_eq_true rfl) rfl ?_
  refine z_aload_n 4 dL_law_885 rfl rfl ?_
  have hx2 := hx S1 S2 h.2.2
  refine z_callVI (ci := 11) (st := []) (w_X11_thrown (Q := fun r S => r = gI S2 1100 m ∧ S2 = S) (X := fun _ _ => False) ⟨hx2.2, rfl, rfl⟩) hx2.2.1 hx2.2.2 (Nat.le_of_ble_eq_true rfl) rfl zw_1428 zw_1425 zw_1426 zw_1427 zw_74 zy_X11_thrown rfl rfl ⟨Nat.le_of_ble_eq_true rfl, Nat.le_of_ble_eq_true rfl⟩ ⟨hk, hn⟩ (Nat.le_of_ble_eq_true rfl) dL_law_886 (fun _ _ hx => hx.elim) (fun t9 S3 h3 => ?_)
  obtain ⟨rfl, rfl⟩ := h3
  refine z_widen (k' := k + 16) (n' := n + 480) (Nat.le_refl _) (Nat.le_refl _) ?_
  refine z_rotB ?_
  refine z_iload 1 dL_law_889 rfl ?_
  refine z_icmp_eq 896 dL_law_891 (by decide) (fun c1 => ?_) (fun c1 => ?_)
  rotate_left
  · exact absurd h.1 c1
  refine z_iload 1 dL_law_896 rfl ?_
  refine z_if_ne 913 dL_law_898 (by decide) (fun c2 => ?_) (fun c2 => ?_)
  · refine z_goto 2818 dL_law_913 (by decide) ?_
    refine z_sub [2, 3, 4, 5, 6] (lv' := [(0, .ref b), (1, .ref x), (2, .ref m), (3, .ref q), (4, .int (nI ii))]) rfl ?_
    exact hend f1 S1 S2 h.2.2
  have hv := h0 c2
  have hb9 := h.2.1 c2
  refine z_aload_n 5 dL_law_901 rfl rfl ?_
  refine z_iconst (v := 0) dL_law_902 rfl ?_
  refine z_laldX dL_law_903 ?_
  rw [hv]
  refine z_iload 0 dL_law_904 rfl ?_
  refine z_i2l dL_law_906 rfl ?_
  refine z_lcmp dL_law_907 ?_
  refine z_if_eq 913 dL_law_908 (by decide) (fun c4 => ?_) (fun c4 => ?_)
  rotate_left
  · exact absurd (by rw [hb9]; exact zlc _) c4
  refine z_goto 2818 dL_law_913 (by decide) ?_
  refine z_sub [2, 3, 4, 5, 6] (lv' := [(0, .ref b), (1, .ref x), (2, .ref m), (3, .ref q), (4, .int (nI ii))]) rfl ?_
  exact hend f1 S1 S2 h.2.2
set_option maxRecDepth 20000 in
set_option maxHeartbeats 4000000 in
theorem lc_dropLeads {E : zE} {b L x m q ii : Nat} {xs : Nat → Int32} {tb : List ExceptionTableEntry} {RR : zS → zS → Prop} {Q : Option Value → va_W → zS → Prop} {XC : String → va_W → zS → Prop} (hsim : sim_dropLeads E x m RR) (hx : ∀ Sc Sm, RR Sc Sm → (x ∈ gL Sc ∧ gK Sc x = 10) ∧ (m ∈ gL Sm ∧ gK Sm m = 11)) (hi : ii + 3 < L) (hL : L ≤ 2048) {k n : Nat} (hk : k + 16 ≤ room_1.cells) (hn : n + 480 ≤ room_1.slots) {f : Nat → Int64} {Sc Sm : zS} (hR : RR Sc Sm)
    (hend : ∀ (f1 : Nat → Int64) (S1 S2 : zS), RR S1 S2 → zJ E (RL, cL_law, 7, (some .boolean), false, tb, zScr E b L xs) room_1 Q XC 2818 [(0, .ref b), (1, .ref x), (2, .ref m), (3, .ref q), (4, .int (nI ii))] [] (zPl E S2 ++ [(q, zcl E f1)]) S1 (k + 16) (n + 480)) : zJ E (RL, cL_law, 7, (some .boolean), false, tb, zScr E b L xs) room_1 Q XC 916 [(0, .ref b), (1, .ref x), (2, .ref m), (3, .ref q), (4, .int (nI ii))] [] (zPl E Sm ++ [(q, zcl E f)]) Sc k n := by
  have hx1 := hx Sc Sm hR
  refine z_aload_n 1 dL_law_916 rfl rfl ?_
  refine z_callVI (ci := 10) (st := []) (w_X10_dropLeads (hsim Sc Sm hR)) hx1.1.1 hx1.1.2 (Nat.le_of_ble_eq_true rfl) rfl zw_348 zw_345 zw_346 zw_347 zw_63 zy_X10_dropLeads rfl rfl ⟨Nat.le_of_ble_eq_true rfl, Nat.le_of_ble_eq_true rfl⟩ ⟨Nat.le_trans (Nat.le_add_right _ _) hk, Nat.le_trans (Nat.le_add_right _ _) hn⟩ (Nat.le_of_ble_eq_true rfl) dL_law_917 (fun _ _ hx => hx.elim) (fun r9 S1 h => ?_)
  refine z_widen (k' := k + 16) (n' := n + 480) (Nat.le_add_right _ _) (Nat.le_add_right _ _) ?_
  refine z_rot ?_
  refine z_aload_n 2 dL_law_920 rfl rfl ?_
  refine z_callVI (ci := 11) (st := [.int r9]) (w_X11_dropLeads h) hx1.2.1 hx1.2.2 (Nat.le_of_ble_eq_true rfl) rfl zw_1560 zw_1557 zw_1558 zw_1559 zw_74 zy_X11_dropLeads rfl rfl ⟨Nat.le_of_ble_eq_true rfl, Nat.le_of_ble_eq_true rfl⟩ ⟨hk, hn⟩ (Nat.le_of_ble_eq_true rfl) dL_law_921 (fun _ _ hx => hx.elim) (fun b9 S2 h => ?_)
  refine z_widen (k' := k + 16) (n' := n + 480) (Nat.le_refl _) (Nat.le_refl _) ?_
  refine z_rotB ?_
  refine z_icmp_eq 2818 dL_law_924 (by decide) (fun c1 => ?_) (fun c1 => ?_)
  rotate_left
  · exact absurd h.1 c1
  exact hend f S1 S2 h.2
set_option maxRecDepth 20000 in
set_option maxHeartbeats 4000000 in
theorem lc_touch {E : zE} {b L x m q ii : Nat} {xs : Nat → Int32} {tb : List ExceptionTableEntry} {RR : zS → zS → Prop} {Q : Option Value → va_W → zS → Prop} {XC : String → va_W → zS → Prop} (hsim : sim_touch E x m RR) (hx : ∀ Sc Sm, RR Sc Sm → (x ∈ gL Sc ∧ gK Sc x = 10) ∧ (m ∈ gL Sm ∧ gK Sm m = 11)) (hi : ii + 3 < L) (hL : L ≤ 2048) {k n : Nat} (hk : k + 16 ≤ room_1.cells) (hn : n + 480 ≤ room_1.slots) {f : Nat → Int64} {Sc Sm : zS} (hR : RR Sc Sm)
    (hend : ∀ (f1 : Nat → Int64) (S1 S2 : zS), RR S1 S2 → zJ E (RL, cL_law, 7, (some .boolean), false, tb, zScr E b L xs) room_1 Q XC 2818 [(0, .ref b), (1, .ref x), (2, .ref m), (3, .ref q), (4, .int (nI ii))] [] (zPl E S2 ++ [(q, zcl E f1)]) S1 (k + 16) (n + 480)) : zJ E (RL, cL_law, 7, (some .boolean), false, tb, zScr E b L xs) room_1 Q XC 929 [(0, .ref b), (1, .ref x), (2, .ref m), (3, .ref q), (4, .int (nI ii))] [] (zPl E Sm ++ [(q, zcl E f)]) Sc k n := by
  have hx1 := hx Sc Sm hR
  refine z_aload_n 1 dL_law_929 rfl rfl ?_
  refine z_aload_n 3 dL_law_930 rfl rfl ?_
  refine z_callX (Y := zPl E Sm) (X1 := [(q, zcl E f)]) (st := []) (w_L_touch (_u := ()) (PM := pm_touch E m RR Sm) hx1.1 (hsim Sc Sm hR ())) zw_851 zw_849 zw_850 zw_62 zy_L_touch rfl rfl ⟨Nat.le_of_ble_eq_true rfl, Nat.le_of_ble_eq_true rfl⟩ ⟨Nat.le_trans (Nat.add_le_add_left (Nat.le_of_ble_eq_true rfl) _) hk, Nat.le_trans (Nat.add_le_add_left (Nat.le_of_ble_eq_true rfl) _) hn⟩ (Nat.le_of_ble_eq_true rfl) dL_law_931 (fun v X1 S1 h => ?_)
  obtain ⟨k9, r9, f1, rfl, rfl, h0, h⟩ := h
  refine z_widen (k' := k + 16) (n' := n + 480) (Nat.add_le_add_left (Nat.le_of_ble_eq_true rfl) _) (Nat.add_le_add_left (Nat.le_of_ble_eq_true rfl) _) ?_
  refine z_rot ?_
  refine z_istore (lv' := [(5, .int k9), (0, .ref b), (1, .ref x), (2, .ref m), (3, .ref q), (4, .int (nI ii))]) dL_law_934 (Nat.le_of_ble_eq_true rfl) rfl ?_
  refine z_aload_n 3 dL_law_936 rfl rfl ?_
  refine z_callVI (ci := 11) (st := []) (w_X11_touch h) hx1.2.1 hx1.2.2 (Nat.le_of_ble_eq_true rfl) rfl zw_1564 zw_1561 zw_1562 zw_1563 zw_74 zy_X11_touch rfl rfl ⟨Nat.le_of_ble_eq_true rfl, Nat.le_of_ble_eq_true rfl⟩ ⟨hk, hn⟩ (Nat.le_of_ble_eq_true rfl) dL_law_937 (fun _ _ hx => hx.elim) (fun b9 S2 h => ?_)
  refine z_widen (k' := k + 16) (n' := n + 480) (Nat.le_refl _) (Nat.le_refl _) ?_
  refine z_istore (lv' := [(6, .int b9), (5, .int k9), (0, .ref b), (1, .ref x), (2, .ref m), (3, .ref q), (4, .int (nI ii))]) dL_law_940 (Nat.le_of_ble_eq_true rfl) rfl ?_
  refine z_aload_n 4 dL_law_942 rfl rfl ?_
  have hx2 := hx S1 S2 h.2.2
  refine z_callVI (ci := 11) (st := []) (w_X11_thrown (Q := fun r S => r = gI S2 1100 m ∧ S2 = S) (X := fun _ _ => False) ⟨hx2.2, rfl, rfl⟩) hx2.2.1 hx2.2.2 (Nat.le_of_ble_eq_true rfl) rfl zw_1428 zw_1425 zw_1426 zw_1427 zw_74 zy_X11_thrown rfl rfl ⟨Nat.le_of_ble_eq_true rfl, Nat.le_of_ble_eq_true rfl⟩ ⟨hk, hn⟩ (Nat.le_of_ble_eq_true rfl) dL_law_943 (fun _ _ hx => hx.elim) (fun t9 S3 h3 => ?_)
  obtain ⟨rfl, rfl⟩ := h3
  refine z_widen (k' := k + 16) (n' := n + 480) (Nat.le_refl _) (Nat.le_refl _) ?_
  refine z_rotB ?_
  refine z_iload 1 dL_law_946 rfl ?_
  refine z_icmp_eq 953 dL_law_948 (by decide) (fun c1 => ?_) (fun c1 => ?_)
  rotate_left
  · exact absurd h.1 c1
  refine z_iload 1 dL_law_953 rfl ?_
  refine z_if_ne 970 dL_law_955 (by decide) (fun c2 => ?_) (fun c2 => ?_)
  · refine z_goto 2818 dL_law_970 (by decide) ?_
    refine z_sub [2, 3, 4, 5, 6] (lv' := [(0, .ref b), (1, .ref x), (2, .ref m), (3, .ref q), (4, .int (nI ii))]) rfl ?_
    exact hend f1 S1 S2 h.2.2
  have hv := h0 c2
  have hb9 := h.2.1 c2
  refine z_aload_n 5 dL_law_958 rfl rfl ?_
  refine z_iconst (v := 0) dL_law_959 rfl ?_
  refine z_laldX dL_law_960 ?_
  rw [hv]
  refine z_iload 0 dL_law_961 rfl ?_
  refine z_i2l dL_law_963 rfl ?_
  refine z_lcmp dL_law_964 ?_
  refine z_if_eq 970 dL_law_965 (by decide) (fun c4 => ?_) (fun c4 => ?_)
  rotate_left
  · exact absurd (by rw [hb9]; exact zlc _) c4
  refine z_goto 2818 dL_law_970 (by decide) ?_
  refine z_sub [2, 3, 4, 5, 6] (lv' := [(0, .ref b), (1, .ref x), (2, .ref m), (3, .ref q), (4, .int (nI ii))]) rfl ?_
  exact hend f1 S1 S2 h.2.2
set_option maxRecDepth 20000 in
set_option maxHeartbeats 4000000 in
theorem lc_compose {E : zE} {b L x m q ii : Nat} {xs : Nat → Int32} {tb : List ExceptionTableEntry} {RR : zS → zS → Prop} {Q : Option Value → va_W → zS → Prop} {XC : String → va_W → zS → Prop} (hsim : sim_compose E x m RR) (hx : ∀ Sc Sm, RR Sc Sm → (x ∈ gL Sc ∧ gK Sc x = 10) ∧ (m ∈ gL Sm ∧ gK Sm m = 11)) (hi : ii + 3 < L) (hL : L ≤ 2048) {k n : Nat} (hk : k + 16 ≤ room_1.cells) (hn : n + 480 ≤ room_1.slots) {f : Nat → Int64} {Sc Sm : zS} (hR : RR Sc Sm)
    (hend : ∀ (f1 : Nat → Int64) (S1 S2 : zS), RR S1 S2 → zJ E (RL, cL_law, 7, (some .boolean), false, tb, zScr E b L xs) room_1 Q XC 2818 [(0, .ref b), (1, .ref x), (2, .ref m), (3, .ref q), (4, .int (nI ii))] [] (zPl E S2 ++ [(q, zcl E f1)]) S1 (k + 16) (n + 480)) : zJ E (RL, cL_law, 7, (some .boolean), false, tb, zScr E b L xs) room_1 Q XC 973 [(0, .ref b), (1, .ref x), (2, .ref m), (3, .ref q), (4, .int (nI ii))] [] (zPl E Sm ++ [(q, zcl E f)]) Sc k n := by
  have hx1 := hx Sc Sm hR
  refine z_aload_n 1 dL_law_973 rfl rfl ?_
  refine z_aload_n 0 dL_law_974 rfl rfl ?_
  refine z_iload 4 dL_law_975 rfl ?_
  refine z_iconst (v := 1) dL_law_977 rfl ?_
  refine z_iadd dL_law_978 ?_
  refine z_sld (j := ii + 1) rfl (show nI ii + 1 = nI (ii + 1) from nI_add ii 1) (by omega) (by omega) dL_law_979 ?_
  refine z_aload_n 0 dL_law_980 rfl rfl ?_
  refine z_iload 4 dL_law_981 rfl ?_
  refine z_iconst (v := 2) dL_law_983 rfl ?_
  refine z_iadd dL_law_984 ?_
  refine z_sld (j := ii + 2) rfl (show nI ii + 2 = nI (ii + 2) from nI_add ii 2) (by omega) (by omega) dL_law_985 ?_
  refine z_aload_n 3 dL_law_986 rfl rfl ?_
  refine z_callX (Y := zPl E Sm) (X1 := [(q, zcl E f)]) (st := []) (w_L_compose (PM := pm_compose E m RR (xs (ii + 1)) (xs (ii + 2)) Sm) hx1.1 (hsim Sc Sm hR (xs (ii + 1)) (xs (ii + 2)))) zw_868 zw_866 zw_867 zw_62 zy_L_compose rfl rfl ⟨Nat.le_of_ble_eq_true rfl, Nat.le_of_ble_eq_true rfl⟩ ⟨Nat.le_trans (Nat.add_le_add_left (Nat.le_of_ble_eq_true rfl) _) hk, Nat.le_trans (Nat.add_le_add_left (Nat.le_of_ble_eq_true rfl) _) hn⟩ (Nat.le_of_ble_eq_true rfl) dL_law_987 (fun v X1 S1 h => ?_)
  obtain ⟨k9, r9, f1, rfl, rfl, h0, h⟩ := h
  refine z_widen (k' := k + 16) (n' := n + 480) (Nat.add_le_add_left (Nat.le_of_ble_eq_true rfl) _) (Nat.add_le_add_left (Nat.le_of_ble_eq_true rfl) _) ?_
  refine z_rot ?_
  refine z_istore (lv' := [(5, .int k9), (0, .ref b), (1, .ref x), (2, .ref m), (3, .ref q), (4, .int (nI ii))]) dL_law_990 (Nat.le_of_ble_eq_true rfl) rfl ?_
  refine z_aload_n 3 dL_law_992 rfl rfl ?_
  refine z_aload_n 1 dL_law_993 rfl rfl ?_
  refine z_iload 5 dL_law_994 rfl ?_
  refine z_iconst (v := 1) dL_law_996 rfl ?_
  refine z_iadd dL_law_997 ?_
  refine z_sld (j := ii + 1) rfl (show nI ii + 1 = nI (ii + 1) from nI_add ii 1) (by omega) (by omega) dL_law_998 ?_
  refine z_aload_n 1 dL_law_999 rfl rfl ?_
  refine z_iload 5 dL_law_1000 rfl ?_
  refine z_iconst (v := 2) dL_law_1002 rfl ?_
  refine z_iadd dL_law_1003 ?_
  refine z_sld (j := ii + 2) rfl (show nI ii + 2 = nI (ii + 2) from nI_add ii 2) (by omega) (by omega) dL_law_1004 ?_
  refine z_callVI (ci := 11) (st := []) (w_X11_compose h) hx1.2.1 hx1.2.2 (Nat.le_of_ble_eq_true rfl) rfl zw_1568 zw_1565 zw_1566 zw_1567 zw_74 zy_X11_compose rfl rfl ⟨Nat.le_of_ble_eq_true rfl, Nat.le_of_ble_eq_true rfl⟩ ⟨hk, hn⟩ (Nat.le_of_ble_eq_true rfl) dL_law_1005 (fun _ _ hx => hx.elim) (fun b9 S2 h => ?_)
  refine z_widen (k' := k + 16) (n' := n + 480) (Nat.le_refl _) (Nat.le_refl _) ?_
  refine z_istore (lv' := [(6, .int b9), (5, .int k9), (0, .ref b), (1, .ref x), (2, .ref m), (3, .ref q), (4, .int (nI ii))]) dL_law_1008 (Nat.le_of_ble_eq_true rfl) rfl ?_
  refine z_aload_n 4 dL_law_1010 rfl rfl ?_
  have hx2 := hx S1 S2 h.2.2
  refine z_callVI (ci := 11) (st := []) (w_X11_thrown (Q := fun r S => r = gI S2 1100 m ∧ S2 = S) (X := fun _ _ => False) ⟨hx2.2, rfl, rfl⟩) hx2.2.1 hx2.2.2 (Nat.le_of_ble_eq_true rfl) rfl zw_1428 zw_1425 zw_1426 zw_1427 zw_74 zy_X11_thrown rfl rfl ⟨Nat.le_of_ble_eq_true rfl, Nat.le_of_ble_eq_true rfl⟩ ⟨hk, hn⟩ (Nat.le_of_ble_eq_true rfl) dL_law_1011 (fun _ _ hx => hx.elim) (fun t9 S3 h3 => ?_)
  obtain ⟨rfl, rfl⟩ := h3
  refine z_widen (k' := k + 16) (n' := n + 480) (Nat.le_refl _) (Nat.le_refl _) ?_
  refine z_rotB ?_
  refine z_iload 1 dL_law_1014 rfl ?_
  refine z_icmp_eq 1021 dL_law_1016 (by decide) (fun c1 => ?_) (fun c1 => ?_)
  rotate_left
  · exact absurd h.1 c1
  refine z_iload 1 dL_law_1021 rfl ?_
  refine z_if_ne 1038 dL_law_1023 (by decide) (fun c2 => ?_) (fun c2 => ?_)
  · refine z_goto 2818 dL_law_1038 (by decide) ?_
    refine z_sub [2, 3, 4, 5, 6] (lv' := [(0, .ref b), (1, .ref x), (2, .ref m), (3, .ref q), (4, .int (nI ii))]) rfl ?_
    exact hend f1 S1 S2 h.2.2
  have hv := h0 c2
  have hb9 := h.2.1 c2
  refine z_aload_n 5 dL_law_1026 rfl rfl ?_
  refine z_iconst (v := 0) dL_law_1027 rfl ?_
  refine z_laldX dL_law_1028 ?_
  rw [hv]
  refine z_iload 0 dL_law_1029 rfl ?_
  refine z_i2l dL_law_1031 rfl ?_
  refine z_lcmp dL_law_1032 ?_
  refine z_if_eq 1038 dL_law_1033 (by decide) (fun c4 => ?_) (fun c4 => ?_)
  rotate_left
  · exact absurd (by rw [hb9]; exact zlc _) c4
  refine z_goto 2818 dL_law_1038 (by decide) ?_
  refine z_sub [2, 3, 4, 5, 6] (lv' := [(0, .ref b), (1, .ref x), (2, .ref m), (3, .ref q), (4, .int (nI ii))]) rfl ?_
  exact hend f1 S1 S2 h.2.2
set_option maxRecDepth 20000 in
set_option maxHeartbeats 4000000 in
theorem lc_touches {E : zE} {b L x m q ii : Nat} {xs : Nat → Int32} {tb : List ExceptionTableEntry} {RR : zS → zS → Prop} {Q : Option Value → va_W → zS → Prop} {XC : String → va_W → zS → Prop} (hsim : sim_touches E x m RR) (hx : ∀ Sc Sm, RR Sc Sm → (x ∈ gL Sc ∧ gK Sc x = 10) ∧ (m ∈ gL Sm ∧ gK Sm m = 11)) (hi : ii + 3 < L) (hL : L ≤ 2048) {k n : Nat} (hk : k + 16 ≤ room_1.cells) (hn : n + 480 ≤ room_1.slots) {f : Nat → Int64} {Sc Sm : zS} (hR : RR Sc Sm)
    (hend : ∀ (f1 : Nat → Int64) (S1 S2 : zS), RR S1 S2 → zJ E (RL, cL_law, 7, (some .boolean), false, tb, zScr E b L xs) room_1 Q XC 2818 [(0, .ref b), (1, .ref x), (2, .ref m), (3, .ref q), (4, .int (nI ii))] [] (zPl E S2 ++ [(q, zcl E f1)]) S1 (k + 16) (n + 480)) : zJ E (RL, cL_law, 7, (some .boolean), false, tb, zScr E b L xs) room_1 Q XC 1041 [(0, .ref b), (1, .ref x), (2, .ref m), (3, .ref q), (4, .int (nI ii))] [] (zPl E Sm ++ [(q, zcl E f)]) Sc k n := by
  have hx1 := hx Sc Sm hR
  refine z_aload_n 1 dL_law_1041 rfl rfl ?_
  refine z_callVI (ci := 10) (st := []) (w_X10_touches (hsim Sc Sm hR)) hx1.1.1 hx1.1.2 (Nat.le_of_ble_eq_true rfl) rfl zw_368 zw_365 zw_366 zw_367 zw_63 zy_X10_touches rfl rfl ⟨Nat.le_of_ble_eq_true rfl, Nat.le_of_ble_eq_true rfl⟩ ⟨Nat.le_trans (Nat.le_add_right _ _) hk, Nat.le_trans (Nat.le_add_right _ _) hn⟩ (Nat.le_of_ble_eq_true rfl) dL_law_1042 (fun _ _ hx => hx.elim) (fun r9 S1 h => ?_)
  refine z_widen (k' := k + 16) (n' := n + 480) (Nat.le_add_right _ _) (Nat.le_add_right _ _) ?_
  refine z_rot ?_
  refine z_aload_n 2 dL_law_1045 rfl rfl ?_
  refine z_callVI (ci := 11) (st := [.int r9]) (w_X11_touches h) hx1.2.1 hx1.2.2 (Nat.le_of_ble_eq_true rfl) rfl zw_1572 zw_1569 zw_1570 zw_1571 zw_74 zy_X11_touches rfl rfl ⟨Nat.le_of_ble_eq_true rfl, Nat.le_of_ble_eq_true rfl⟩ ⟨hk, hn⟩ (Nat.le_of_ble_eq_true rfl) dL_law_1046 (fun _ _ hx => hx.elim) (fun b9 S2 h => ?_)
  refine z_widen (k' := k + 16) (n' := n + 480) (Nat.le_refl _) (Nat.le_refl _) ?_
  refine z_rotB ?_
  refine z_icmp_eq 2818 dL_law_1049 (by decide) (fun c1 => ?_) (fun c1 => ?_)
  rotate_left
  · exact absurd h.1 c1
  exact hend f S1 S2 h.2
set_option maxRecDepth 20000 in
set_option maxHeartbeats 4000000 in
theorem lc_leads {E : zE} {b L x m q ii : Nat} {xs : Nat → Int32} {tb : List ExceptionTableEntry} {RR : zS → zS → Prop} {Q : Option Value → va_W → zS → Prop} {XC : String → va_W → zS → Prop} (hsim : sim_leads E x m RR) (hx : ∀ Sc Sm, RR Sc Sm → (x ∈ gL Sc ∧ gK Sc x = 10) ∧ (m ∈ gL Sm ∧ gK Sm m = 11)) (hi : ii + 3 < L) (hL : L ≤ 2048) {k n : Nat} (hk : k + 16 ≤ room_1.cells) (hn : n + 480 ≤ room_1.slots) {f : Nat → Int64} {Sc Sm : zS} (hR : RR Sc Sm)
    (hend : ∀ (f1 : Nat → Int64) (S1 S2 : zS), RR S1 S2 → zJ E (RL, cL_law, 7, (some .boolean), false, tb, zScr E b L xs) room_1 Q XC 2818 [(0, .ref b), (1, .ref x), (2, .ref m), (3, .ref q), (4, .int (nI ii))] [] (zPl E S2 ++ [(q, zcl E f1)]) S1 (k + 16) (n + 480)) : zJ E (RL, cL_law, 7, (some .boolean), false, tb, zScr E b L xs) room_1 Q XC 1054 [(0, .ref b), (1, .ref x), (2, .ref m), (3, .ref q), (4, .int (nI ii))] [] (zPl E Sm ++ [(q, zcl E f)]) Sc k n := by
  have hx1 := hx Sc Sm hR
  refine z_aload_n 1 dL_law_1054 rfl rfl ?_
  refine z_aload_n 0 dL_law_1055 rfl rfl ?_
  refine z_iload 4 dL_law_1056 rfl ?_
  refine z_iconst (v := 1) dL_law_1058 rfl ?_
  refine z_iadd dL_law_1059 ?_
  refine z_sld (j := ii + 1) rfl (show nI ii + 1 = nI (ii + 1) from nI_add ii 1) (by omega) (by omega) dL_law_1060 ?_
  refine z_aload_n 3 dL_law_1061 rfl rfl ?_
  refine z_callX (Y := zPl E Sm) (X1 := [(q, zcl E f)]) (st := []) (w_L_leads (PM := pm_leads E m RR (xs (ii + 1)) Sm) hx1.1 (hsim Sc Sm hR (xs (ii + 1)))) zw_899 zw_897 zw_898 zw_62 zy_L_leads rfl rfl ⟨Nat.le_of_ble_eq_true rfl, Nat.le_of_ble_eq_true rfl⟩ ⟨Nat.le_trans (Nat.add_le_add_left (Nat.le_of_ble_eq_true rfl) _) hk, Nat.le_trans (Nat.add_le_add_left (Nat.le_of_ble_eq_true rfl) _) hn⟩ (Nat.le_of_ble_eq_true rfl) dL_law_1062 (fun v X1 S1 h => ?_)
  obtain ⟨k9, r9, f1, rfl, rfl, h0, h⟩ := h
  refine z_widen (k' := k + 16) (n' := n + 480) (Nat.add_le_add_left (Nat.le_of_ble_eq_true rfl) _) (Nat.add_le_add_left (Nat.le_of_ble_eq_true rfl) _) ?_
  refine z_rot ?_
  refine z_istore (lv' := [(5, .int k9), (0, .ref b), (1, .ref x), (2, .ref m), (3, .ref q), (4, .int (nI ii))]) dL_law_1065 (Nat.le_of_ble_eq_true rfl) rfl ?_
  refine z_aload_n 3 dL_law_1067 rfl rfl ?_
  refine z_aload_n 1 dL_law_1068 rfl rfl ?_
  refine z_iload 5 dL_law_1069 rfl ?_
  refine z_iconst (v := 1) dL_law_1071 rfl ?_
  refine z_iadd dL_law_1072 ?_
  refine z_sld (j := ii + 1) rfl (show nI ii + 1 = nI (ii + 1) from nI_add ii 1) (by omega) (by omega) dL_law_1073 ?_
  refine z_callVI (ci := 11) (st := []) (w_X11_leads h) hx1.2.1 hx1.2.2 (Nat.le_of_ble_eq_true rfl) rfl zw_1576 zw_1573 zw_1574 zw_1575 zw_74 zy_X11_leads rfl rfl ⟨Nat.le_of_ble_eq_true rfl, Nat.le_of_ble_eq_true rfl⟩ ⟨hk, hn⟩ (Nat.le_of_ble_eq_true rfl) dL_law_1074 (fun _ _ hx => hx.elim) (fun b9 S2 h => ?_)
  refine z_widen (k' := k + 16) (n' := n + 480) (Nat.le_refl _) (Nat.le_refl _) ?_
  refine z_istore (lv' := [(6, .int b9), (5, .int k9), (0, .ref b), (1, .ref x), (2, .ref m), (3, .ref q), (4, .int (nI ii))]) dL_law_1077 (Nat.le_of_ble_eq_true rfl) rfl ?_
  refine z_aload_n 4 dL_law_1079 rfl rfl ?_
  have hx2 := hx S1 S2 h.2.2
  refine z_callVI (ci := 11) (st := []) (w_X11_thrown (Q := fun r S => r = gI S2 1100 m ∧ S2 = S) (X := fun _ _ => False) ⟨hx2.2, rfl, rfl⟩) hx2.2.1 hx2.2.2 (Nat.le_of_ble_eq_true rfl) rfl zw_1428 zw_1425 zw_1426 zw_1427 zw_74 zy_X11_thrown rfl rfl ⟨Nat.le_of_ble_eq_true rfl, Nat.le_of_ble_eq_true rfl⟩ ⟨hk, hn⟩ (Nat.le_of_ble_eq_true rfl) dL_law_1080 (fun _ _ hx => hx.elim) (fun t9 S3 h3 => ?_)
  obtain ⟨rfl, rfl⟩ := h3
  refine z_widen (k' := k + 16) (n' := n + 480) (Nat.le_refl _) (Nat.le_refl _) ?_
  refine z_rotB ?_
  refine z_iload 1 dL_law_1083 rfl ?_
  refine z_icmp_eq 1090 dL_law_1085 (by decide) (fun c1 => ?_) (fun c1 => ?_)
  rotate_left
  · exact absurd h.1 c1
  refine z_iload 1 dL_law_1090 rfl ?_
  refine z_if_ne 1107 dL_law_1092 (by decide) (fun c2 => ?_) (fun c2 => ?_)
  · refine z_goto 2818 dL_law_1107 (by decide) ?_
    refine z_sub [2, 3, 4, 5, 6] (lv' := [(0, .ref b), (1, .ref x), (2, .ref m), (3, .ref q), (4, .int (nI ii))]) rfl ?_
    exact hend f1 S1 S2 h.2.2
  have hv := h0 c2
  have hb9 := h.2.1 c2
  refine z_aload_n 5 dL_law_1095 rfl rfl ?_
  refine z_iconst (v := 0) dL_law_1096 rfl ?_
  refine z_laldX dL_law_1097 ?_
  rw [hv]
  refine z_iload 0 dL_law_1098 rfl ?_
  refine z_i2l dL_law_1100 rfl ?_
  refine z_lcmp dL_law_1101 ?_
  refine z_if_eq 1107 dL_law_1102 (by decide) (fun c4 => ?_) (fun c4 => ?_)
  rotate_left
  · exact absurd (by rw [hb9]; exact zlc _) c4
  refine z_goto 2818 dL_law_1107 (by decide) ?_
  refine z_sub [2, 3, 4, 5, 6] (lv' := [(0, .ref b), (1, .ref x), (2, .ref m), (3, .ref q), (4, .int (nI ii))]) rfl ?_
  exact hend f1 S1 S2 h.2.2
set_option maxRecDepth 20000 in
set_option maxHeartbeats 4000000 in
theorem lc_leadAt {E : zE} {b L x m q ii : Nat} {xs : Nat → Int32} {tb : List ExceptionTableEntry} {RR : zS → zS → Prop} {Q : Option Value → va_W → zS → Prop} {XC : String → va_W → zS → Prop} (hsim : sim_leadAt E x m RR) (hx : ∀ Sc Sm, RR Sc Sm → (x ∈ gL Sc ∧ gK Sc x = 10) ∧ (m ∈ gL Sm ∧ gK Sm m = 11)) (hi : ii + 3 < L) (hL : L ≤ 2048) {k n : Nat} (hk : k + 16 ≤ room_1.cells) (hn : n + 480 ≤ room_1.slots) {f : Nat → Int64} {Sc Sm : zS} (hR : RR Sc Sm)
    (hend : ∀ (f1 : Nat → Int64) (S1 S2 : zS), RR S1 S2 → zJ E (RL, cL_law, 7, (some .boolean), false, tb, zScr E b L xs) room_1 Q XC 2818 [(0, .ref b), (1, .ref x), (2, .ref m), (3, .ref q), (4, .int (nI ii))] [] (zPl E S2 ++ [(q, zcl E f1)]) S1 (k + 16) (n + 480)) : zJ E (RL, cL_law, 7, (some .boolean), false, tb, zScr E b L xs) room_1 Q XC 1110 [(0, .ref b), (1, .ref x), (2, .ref m), (3, .ref q), (4, .int (nI ii))] [] (zPl E Sm ++ [(q, zcl E f)]) Sc k n := by
  have hx1 := hx Sc Sm hR
  refine z_aload_n 1 dL_law_1110 rfl rfl ?_
  refine z_aload_n 0 dL_law_1111 rfl rfl ?_
  refine z_iload 4 dL_law_1112 rfl ?_
  refine z_iconst (v := 1) dL_law_1114 rfl ?_
  refine z_iadd dL_law_1115 ?_
  refine z_sld (j := ii + 1) rfl (show nI ii + 1 = nI (ii + 1) from nI_add ii 1) (by omega) (by omega) dL_law_1116 ?_
  refine z_aload_n 0 dL_law_1117 rfl rfl ?_
  refine z_iload 4 dL_law_1118 rfl ?_
  refine z_iconst (v := 2) dL_law_1120 rfl ?_
  refine z_iadd dL_law_1121 ?_
  refine z_sld (j := ii + 2) rfl (show nI ii + 2 = nI (ii + 2) from nI_add ii 2) (by omega) (by omega) dL_law_1122 ?_
  refine z_aload_n 3 dL_law_1123 rfl rfl ?_
  refine z_callX (Y := zPl E Sm) (X1 := [(q, zcl E f)]) (st := []) (w_L_leadAt (PM := pm_leadAt E m RR (xs (ii + 1)) (xs (ii + 2)) Sm) hx1.1 (hsim Sc Sm hR (xs (ii + 1)) (xs (ii + 2)))) zw_910 zw_908 zw_909 zw_62 zy_L_leadAt rfl rfl ⟨Nat.le_of_ble_eq_true rfl, Nat.le_of_ble_eq_true rfl⟩ ⟨Nat.le_trans (Nat.add_le_add_left (Nat.le_of_ble_eq_true rfl) _) hk, Nat.le_trans (Nat.add_le_add_left (Nat.le_of_ble_eq_true rfl) _) hn⟩ (Nat.le_of_ble_eq_true rfl) dL_law_1124 (fun v X1 S1 h => ?_)
  obtain ⟨k9, r9, f1, rfl, rfl, h0, h⟩ := h
  refine z_widen (k' := k + 16) (n' := n + 480) (Nat.add_le_add_left (Nat.le_of_ble_eq_true rfl) _) (Nat.add_le_add_left (Nat.le_of_ble_eq_true rfl) _) ?_
  refine z_rot ?_
  refine z_istore (lv' := [(5, .int k9), (0, .ref b), (1, .ref x), (2, .ref m), (3, .ref q), (4, .int (nI ii))]) dL_law_1127 (Nat.le_of_ble_eq_true rfl) rfl ?_
  refine z_aload_n 3 dL_law_1129 rfl rfl ?_
  refine z_aload_n 1 dL_law_1130 rfl rfl ?_
  refine z_iload 5 dL_law_1131 rfl ?_
  refine z_iconst (v := 1) dL_law_1133 rfl ?_
  refine z_iadd dL_law_1134 ?_
  refine z_sld (j := ii + 1) rfl (show nI ii + 1 = nI (ii + 1) from nI_add ii 1) (by omega) (by omega) dL_law_1135 ?_
  refine z_aload_n 1 dL_law_1136 rfl rfl ?_
  refine z_iload 5 dL_law_1137 rfl ?_
  refine z_iconst (v := 2) dL_law_1139 rfl ?_
  refine z_iadd dL_law_1140 ?_
  refine z_sld (j := ii + 2) rfl (show nI ii + 2 = nI (ii + 2) from nI_add ii 2) (by omega) (by omega) dL_law_1141 ?_
  refine z_callVI (ci := 11) (st := []) (w_X11_leadAt h) hx1.2.1 hx1.2.2 (Nat.le_of_ble_eq_true rfl) rfl zw_1588 zw_1585 zw_1586 zw_1587 zw_74 zy_X11_leadAt rfl rfl ⟨Nat.le_of_ble_eq_true rfl, Nat.le_of_ble_eq_true rfl⟩ ⟨hk, hn⟩ (Nat.le_of_ble_eq_true rfl) dL_law_1142 (fun _ _ hx => hx.elim) (fun b9 S2 h => ?_)
  refine z_widen (k' := k + 16) (n' := n + 480) (Nat.le_refl _) (Nat.le_refl _) ?_
  refine z_istore (lv' := [(6, .int b9), (5, .int k9), (0, .ref b), (1, .ref x), (2, .ref m), (3, .ref q), (4, .int (nI ii))]) dL_law_1145 (Nat.le_of_ble_eq_true rfl) rfl ?_
  refine z_aload_n 4 dL_law_1147 rfl rfl ?_
  have hx2 := hx S1 S2 h.2.2
  refine z_callVI (ci := 11) (st := []) (w_X11_thrown (Q := fun r S => r = gI S2 1100 m ∧ S2 = S) (X := fun _ _ => False) ⟨hx2.2, rfl, rfl⟩) hx2.2.1 hx2.2.2 (Nat.le_of_ble_eq_true rfl) rfl zw_1428 zw_1425 zw_1426 zw_1427 zw_74 zy_X11_thrown rfl rfl ⟨Nat.le_of_ble_eq_true rfl, Nat.le_of_ble_eq_true rfl⟩ ⟨hk, hn⟩ (Nat.le_of_ble_eq_true rfl) dL_law_1148 (fun _ _ hx => hx.elim) (fun t9 S3 h3 => ?_)
  obtain ⟨rfl, rfl⟩ := h3
  refine z_widen (k' := k + 16) (n' := n + 480) (Nat.le_refl _) (Nat.le_refl _) ?_
  refine z_rotB ?_
  refine z_iload 1 dL_law_1151 rfl ?_
  refine z_icmp_eq 1158 dL_law_1153 (by decide) (fun c1 => ?_) (fun c1 => ?_)
  rotate_left
  · exact absurd h.1 c1
  refine z_iload 1 dL_law_1158 rfl ?_
  refine z_if_ne 1175 dL_law_1160 (by decide) (fun c2 => ?_) (fun c2 => ?_)
  · refine z_goto 2818 dL_law_1175 (by decide) ?_
    refine z_sub [2, 3, 4, 5, 6] (lv' := [(0, .ref b), (1, .ref x), (2, .ref m), (3, .ref q), (4, .int (nI ii))]) rfl ?_
    exact hend f1 S1 S2 h.2.2
  have hv := h0 c2
  have hb9 := h.2.1 c2
  refine z_aload_n 5 dL_law_1163 rfl rfl ?_
  refine z_iconst (v := 0) dL_law_1164 rfl ?_
  refine z_laldX dL_law_1165 ?_
  rw [hv]
  refine z_iload 0 dL_law_1166 rfl ?_
  refine z_i2l dL_law_1168 rfl ?_
  refine z_lcmp dL_law_1169 ?_
  refine z_if_eq 1175 dL_law_1170 (by decide) (fun c4 => ?_) (fun c4 => ?_)
  rotate_left
  · exact absurd (by rw [hb9]; exact zlc _) c4
  refine z_goto 2818 dL_law_1175 (by decide) ?_
  refine z_sub [2, 3, 4, 5, 6] (lv' := [(0, .ref b), (1, .ref x), (2, .ref m), (3, .ref q), (4, .int (nI ii))]) rfl ?_
  exact hend f1 S1 S2 h.2.2
set_option maxRecDepth 20000 in
set_option maxHeartbeats 4000000 in
theorem lc_rows {E : zE} {b L x m q ii : Nat} {xs : Nat → Int32} {tb : List ExceptionTableEntry} {RR : zS → zS → Prop} {Q : Option Value → va_W → zS → Prop} {XC : String → va_W → zS → Prop} (hsim : sim_rows E x m RR) (hx : ∀ Sc Sm, RR Sc Sm → (x ∈ gL Sc ∧ gK Sc x = 10) ∧ (m ∈ gL Sm ∧ gK Sm m = 11)) (hi : ii + 3 < L) (hL : L ≤ 2048) {k n : Nat} (hk : k + 16 ≤ room_1.cells) (hn : n + 480 ≤ room_1.slots) {f : Nat → Int64} {Sc Sm : zS} (hR : RR Sc Sm)
    (hend : ∀ (f1 : Nat → Int64) (S1 S2 : zS), RR S1 S2 → zJ E (RL, cL_law, 7, (some .boolean), false, tb, zScr E b L xs) room_1 Q XC 2818 [(0, .ref b), (1, .ref x), (2, .ref m), (3, .ref q), (4, .int (nI ii))] [] (zPl E S2 ++ [(q, zcl E f1)]) S1 (k + 16) (n + 480)) : zJ E (RL, cL_law, 7, (some .boolean), false, tb, zScr E b L xs) room_1 Q XC 1178 [(0, .ref b), (1, .ref x), (2, .ref m), (3, .ref q), (4, .int (nI ii))] [] (zPl E Sm ++ [(q, zcl E f)]) Sc k n := by
  have hx1 := hx Sc Sm hR
  refine z_aload_n 1 dL_law_1178 rfl rfl ?_
  refine z_aload_n 0 dL_law_1179 rfl rfl ?_
  refine z_iload 4 dL_law_1180 rfl ?_
  refine z_iconst (v := 1) dL_law_1182 rfl ?_
  refine z_iadd dL_law_1183 ?_
  refine z_sld (j := ii + 1) rfl (show nI ii + 1 = nI (ii + 1) from nI_add ii 1) (by omega) (by omega) dL_law_1184 ?_
  refine z_aload_n 3 dL_law_1185 rfl rfl ?_
  refine z_callX (Y := zPl E Sm) (X1 := [(q, zcl E f)]) (st := []) (w_L_rows (PM := pm_rows E m RR (xs (ii + 1)) Sm) hx1.1 (hsim Sc Sm hR (xs (ii + 1)))) zw_917 zw_915 zw_916 zw_62 zy_L_rows rfl rfl ⟨Nat.le_of_ble_eq_true rfl, Nat.le_of_ble_eq_true rfl⟩ ⟨Nat.le_trans (Nat.add_le_add_left (Nat.le_of_ble_eq_true rfl) _) hk, Nat.le_trans (Nat.add_le_add_left (Nat.le_of_ble_eq_true rfl) _) hn⟩ (Nat.le_of_ble_eq_true rfl) dL_law_1186 (fun v X1 S1 h => ?_)
  obtain ⟨k9, r9, f1, rfl, rfl, h0, h⟩ := h
  refine z_widen (k' := k + 16) (n' := n + 480) (Nat.add_le_add_left (Nat.le_of_ble_eq_true rfl) _) (Nat.add_le_add_left (Nat.le_of_ble_eq_true rfl) _) ?_
  refine z_rot ?_
  refine z_istore (lv' := [(5, .int k9), (0, .ref b), (1, .ref x), (2, .ref m), (3, .ref q), (4, .int (nI ii))]) dL_law_1189 (Nat.le_of_ble_eq_true rfl) rfl ?_
  refine z_aload_n 3 dL_law_1191 rfl rfl ?_
  refine z_aload_n 1 dL_law_1192 rfl rfl ?_
  refine z_iload 5 dL_law_1193 rfl ?_
  refine z_iconst (v := 1) dL_law_1195 rfl ?_
  refine z_iadd dL_law_1196 ?_
  refine z_sld (j := ii + 1) rfl (show nI ii + 1 = nI (ii + 1) from nI_add ii 1) (by omega) (by omega) dL_law_1197 ?_
  refine z_callVI (ci := 11) (st := []) (w_X11_rows h) hx1.2.1 hx1.2.2 (Nat.le_of_ble_eq_true rfl) rfl zw_1592 zw_1589 zw_1590 zw_1591 zw_74 zy_X11_rows rfl rfl ⟨Nat.le_of_ble_eq_true rfl, Nat.le_of_ble_eq_true rfl⟩ ⟨hk, hn⟩ (Nat.le_of_ble_eq_true rfl) dL_law_1198 (fun _ _ hx => hx.elim) (fun b9 S2 h => ?_)
  refine z_widen (k' := k + 16) (n' := n + 480) (Nat.le_refl _) (Nat.le_refl _) ?_
  refine z_istore (lv' := [(6, .int b9), (5, .int k9), (0, .ref b), (1, .ref x), (2, .ref m), (3, .ref q), (4, .int (nI ii))]) dL_law_1201 (Nat.le_of_ble_eq_true rfl) rfl ?_
  refine z_aload_n 4 dL_law_1203 rfl rfl ?_
  have hx2 := hx S1 S2 h.2.2
  refine z_callVI (ci := 11) (st := []) (w_X11_thrown (Q := fun r S => r = gI S2 1100 m ∧ S2 = S) (X := fun _ _ => False) ⟨hx2.2, rfl, rfl⟩) hx2.2.1 hx2.2.2 (Nat.le_of_ble_eq_true rfl) rfl zw_1428 zw_1425 zw_1426 zw_1427 zw_74 zy_X11_thrown rfl rfl ⟨Nat.le_of_ble_eq_true rfl, Nat.le_of_ble_eq_true rfl⟩ ⟨hk, hn⟩ (Nat.le_of_ble_eq_true rfl) dL_law_1204 (fun _ _ hx => hx.elim) (fun t9 S3 h3 => ?_)
  obtain ⟨rfl, rfl⟩ := h3
  refine z_widen (k' := k + 16) (n' := n + 480) (Nat.le_refl _) (Nat.le_refl _) ?_
  refine z_rotB ?_
  refine z_iload 1 dL_law_1207 rfl ?_
  refine z_icmp_eq 1214 dL_law_1209 (by decide) (fun c1 => ?_) (fun c1 => ?_)
  rotate_left
  · exact absurd h.1 c1
  refine z_iload 1 dL_law_1214 rfl ?_
  refine z_if_ne 1231 dL_law_1216 (by decide) (fun c2 => ?_) (fun c2 => ?_)
  · refine z_goto 2818 dL_law_1231 (by decide) ?_
    refine z_sub [2, 3, 4, 5, 6] (lv' := [(0, .ref b), (1, .ref x), (2, .ref m), (3, .ref q), (4, .int (nI ii))]) rfl ?_
    exact hend f1 S1 S2 h.2.2
  have hv := h0 c2
  have hb9 := h.2.1 c2
  refine z_aload_n 5 dL_law_1219 rfl rfl ?_
  refine z_iconst (v := 0) dL_law_1220 rfl ?_
  refine z_laldX dL_law_1221 ?_
  rw [hv]
  refine z_iload 0 dL_law_1222 rfl ?_
  refine z_i2l dL_law_1224 rfl ?_
  refine z_lcmp dL_law_1225 ?_
  refine z_if_eq 1231 dL_law_1226 (by decide) (fun c4 => ?_) (fun c4 => ?_)
  rotate_left
  · exact absurd (by rw [hb9]; exact zlc _) c4
  refine z_goto 2818 dL_law_1231 (by decide) ?_
  refine z_sub [2, 3, 4, 5, 6] (lv' := [(0, .ref b), (1, .ref x), (2, .ref m), (3, .ref q), (4, .int (nI ii))]) rfl ?_
  exact hend f1 S1 S2 h.2.2
set_option maxRecDepth 20000 in
set_option maxHeartbeats 4000000 in
theorem lc_rowAt {E : zE} {b L x m q ii : Nat} {xs : Nat → Int32} {tb : List ExceptionTableEntry} {RR : zS → zS → Prop} {Q : Option Value → va_W → zS → Prop} {XC : String → va_W → zS → Prop} (hsim : sim_rowAt E x m RR) (hx : ∀ Sc Sm, RR Sc Sm → (x ∈ gL Sc ∧ gK Sc x = 10) ∧ (m ∈ gL Sm ∧ gK Sm m = 11)) (hi : ii + 3 < L) (hL : L ≤ 2048) {k n : Nat} (hk : k + 16 ≤ room_1.cells) (hn : n + 480 ≤ room_1.slots) {f : Nat → Int64} {Sc Sm : zS} (hR : RR Sc Sm)
    (hend : ∀ (f1 : Nat → Int64) (S1 S2 : zS), RR S1 S2 → zJ E (RL, cL_law, 7, (some .boolean), false, tb, zScr E b L xs) room_1 Q XC 2818 [(0, .ref b), (1, .ref x), (2, .ref m), (3, .ref q), (4, .int (nI ii))] [] (zPl E S2 ++ [(q, zcl E f1)]) S1 (k + 16) (n + 480)) : zJ E (RL, cL_law, 7, (some .boolean), false, tb, zScr E b L xs) room_1 Q XC 1234 [(0, .ref b), (1, .ref x), (2, .ref m), (3, .ref q), (4, .int (nI ii))] [] (zPl E Sm ++ [(q, zcl E f)]) Sc k n := by
  have hx1 := hx Sc Sm hR
  refine z_aload_n 1 dL_law_1234 rfl rfl ?_
  refine z_aload_n 0 dL_law_1235 rfl rfl ?_
  refine z_iload 4 dL_law_1236 rfl ?_
  refine z_iconst (v := 1) dL_law_1238 rfl ?_
  refine z_iadd dL_law_1239 ?_
  refine z_sld (j := ii + 1) rfl (show nI ii + 1 = nI (ii + 1) from nI_add ii 1) (by omega) (by omega) dL_law_1240 ?_
  refine z_aload_n 0 dL_law_1241 rfl rfl ?_
  refine z_iload 4 dL_law_1242 rfl ?_
  refine z_iconst (v := 2) dL_law_1244 rfl ?_
  refine z_iadd dL_law_1245 ?_
  refine z_sld (j := ii + 2) rfl (show nI ii + 2 = nI (ii + 2) from nI_add ii 2) (by omega) (by omega) dL_law_1246 ?_
  refine z_aload_n 3 dL_law_1247 rfl rfl ?_
  refine z_callX (Y := zPl E Sm) (X1 := [(q, zcl E f)]) (st := []) (w_L_rowAt (PM := pm_rowAt E m RR (xs (ii + 1)) (xs (ii + 2)) Sm) hx1.1 (hsim Sc Sm hR (xs (ii + 1)) (xs (ii + 2)))) zw_924 zw_922 zw_923 zw_62 zy_L_rowAt rfl rfl ⟨Nat.le_of_ble_eq_true rfl, Nat.le_of_ble_eq_true rfl⟩ ⟨Nat.le_trans (Nat.add_le_add_left (Nat.le_of_ble_eq_true rfl) _) hk, Nat.le_trans (Nat.add_le_add_left (Nat.le_of_ble_eq_true rfl) _) hn⟩ (Nat.le_of_ble_eq_true rfl) dL_law_1248 (fun v X1 S1 h => ?_)
  obtain ⟨k9, r9, f1, rfl, rfl, h0, h⟩ := h
  refine z_widen (k' := k + 16) (n' := n + 480) (Nat.add_le_add_left (Nat.le_of_ble_eq_true rfl) _) (Nat.add_le_add_left (Nat.le_of_ble_eq_true rfl) _) ?_
  refine z_rot ?_
  refine z_istore (lv' := [(5, .int k9), (0, .ref b), (1, .ref x), (2, .ref m), (3, .ref q), (4, .int (nI ii))]) dL_law_1251 (Nat.le_of_ble_eq_true rfl) rfl ?_
  refine z_aload_n 3 dL_law_1253 rfl rfl ?_
  refine z_aload_n 1 dL_law_1254 rfl rfl ?_
  refine z_iload 5 dL_law_1255 rfl ?_
  refine z_iconst (v := 1) dL_law_1257 rfl ?_
  refine z_iadd dL_law_1258 ?_
  refine z_sld (j := ii + 1) rfl (show nI ii + 1 = nI (ii + 1) from nI_add ii 1) (by omega) (by omega) dL_law_1259 ?_
  refine z_aload_n 1 dL_law_1260 rfl rfl ?_
  refine z_iload 5 dL_law_1261 rfl ?_
  refine z_iconst (v := 2) dL_law_1263 rfl ?_
  refine z_iadd dL_law_1264 ?_
  refine z_sld (j := ii + 2) rfl (show nI ii + 2 = nI (ii + 2) from nI_add ii 2) (by omega) (by omega) dL_law_1265 ?_
  refine z_callVI (ci := 11) (st := []) (w_X11_rowAt h) hx1.2.1 hx1.2.2 (Nat.le_of_ble_eq_true rfl) rfl zw_1596 zw_1593 zw_1594 zw_1595 zw_74 zy_X11_rowAt rfl rfl ⟨Nat.le_of_ble_eq_true rfl, Nat.le_of_ble_eq_true rfl⟩ ⟨hk, hn⟩ (Nat.le_of_ble_eq_true rfl) dL_law_1266 (fun _ _ hx => hx.elim) (fun b9 S2 h => ?_)
  refine z_widen (k' := k + 16) (n' := n + 480) (Nat.le_refl _) (Nat.le_refl _) ?_
  refine z_istore (lv' := [(6, .int b9), (5, .int k9), (0, .ref b), (1, .ref x), (2, .ref m), (3, .ref q), (4, .int (nI ii))]) dL_law_1269 (Nat.le_of_ble_eq_true rfl) rfl ?_
  refine z_aload_n 4 dL_law_1271 rfl rfl ?_
  have hx2 := hx S1 S2 h.2.2
  refine z_callVI (ci := 11) (st := []) (w_X11_thrown (Q := fun r S => r = gI S2 1100 m ∧ S2 = S) (X := fun _ _ => False) ⟨hx2.2, rfl, rfl⟩) hx2.2.1 hx2.2.2 (Nat.le_of_ble_eq_true rfl) rfl zw_1428 zw_1425 zw_1426 zw_1427 zw_74 zy_X11_thrown rfl rfl ⟨Nat.le_of_ble_eq_true rfl, Nat.le_of_ble_eq_true rfl⟩ ⟨hk, hn⟩ (Nat.le_of_ble_eq_true rfl) dL_law_1272 (fun _ _ hx => hx.elim) (fun t9 S3 h3 => ?_)
  obtain ⟨rfl, rfl⟩ := h3
  refine z_widen (k' := k + 16) (n' := n + 480) (Nat.le_refl _) (Nat.le_refl _) ?_
  refine z_rotB ?_
  refine z_iload 1 dL_law_1275 rfl ?_
  refine z_icmp_eq 1282 dL_law_1277 (by decide) (fun c1 => ?_) (fun c1 => ?_)
  rotate_left
  · exact absurd h.1 c1
  refine z_iload 1 dL_law_1282 rfl ?_
  refine z_if_ne 1299 dL_law_1284 (by decide) (fun c2 => ?_) (fun c2 => ?_)
  · refine z_goto 2818 dL_law_1299 (by decide) ?_
    refine z_sub [2, 3, 4, 5, 6] (lv' := [(0, .ref b), (1, .ref x), (2, .ref m), (3, .ref q), (4, .int (nI ii))]) rfl ?_
    exact hend f1 S1 S2 h.2.2
  have hv := h0 c2
  have hb9 := h.2.1 c2
  refine z_aload_n 5 dL_law_1287 rfl rfl ?_
  refine z_iconst (v := 0) dL_law_1288 rfl ?_
  refine z_laldX dL_law_1289 ?_
  rw [hv]
  refine z_iload 0 dL_law_1290 rfl ?_
  refine z_i2l dL_law_1292 rfl ?_
  refine z_lcmp dL_law_1293 ?_
  refine z_if_eq 1299 dL_law_1294 (by decide) (fun c4 => ?_) (fun c4 => ?_)
  rotate_left
  · exact absurd (by rw [hb9]; exact zlc _) c4
  refine z_goto 2818 dL_law_1299 (by decide) ?_
  refine z_sub [2, 3, 4, 5, 6] (lv' := [(0, .ref b), (1, .ref x), (2, .ref m), (3, .ref q), (4, .int (nI ii))]) rfl ?_
  exact hend f1 S1 S2 h.2.2
set_option maxRecDepth 20000 in
set_option maxHeartbeats 4000000 in
theorem lc_bellAt {E : zE} {b L x m q ii : Nat} {xs : Nat → Int32} {tb : List ExceptionTableEntry} {RR : zS → zS → Prop} {Q : Option Value → va_W → zS → Prop} {XC : String → va_W → zS → Prop} (hsim : sim_bellAt E x m RR) (hx : ∀ Sc Sm, RR Sc Sm → (x ∈ gL Sc ∧ gK Sc x = 10) ∧ (m ∈ gL Sm ∧ gK Sm m = 11)) (hi : ii + 3 < L) (hL : L ≤ 2048) {k n : Nat} (hk : k + 16 ≤ room_1.cells) (hn : n + 480 ≤ room_1.slots) {f : Nat → Int64} {Sc Sm : zS} (hR : RR Sc Sm)
    (hend : ∀ (f1 : Nat → Int64) (S1 S2 : zS), RR S1 S2 → zJ E (RL, cL_law, 7, (some .boolean), false, tb, zScr E b L xs) room_1 Q XC 2818 [(0, .ref b), (1, .ref x), (2, .ref m), (3, .ref q), (4, .int (nI ii))] [] (zPl E S2 ++ [(q, zcl E f1)]) S1 (k + 16) (n + 480)) : zJ E (RL, cL_law, 7, (some .boolean), false, tb, zScr E b L xs) room_1 Q XC 1302 [(0, .ref b), (1, .ref x), (2, .ref m), (3, .ref q), (4, .int (nI ii))] [] (zPl E Sm ++ [(q, zcl E f)]) Sc k n := by
  have hx1 := hx Sc Sm hR
  refine z_aload_n 1 dL_law_1302 rfl rfl ?_
  refine z_aload_n 0 dL_law_1303 rfl rfl ?_
  refine z_iload 4 dL_law_1304 rfl ?_
  refine z_iconst (v := 1) dL_law_1306 rfl ?_
  refine z_iadd dL_law_1307 ?_
  refine z_sld (j := ii + 1) rfl (show nI ii + 1 = nI (ii + 1) from nI_add ii 1) (by omega) (by omega) dL_law_1308 ?_
  refine z_aload_n 0 dL_law_1309 rfl rfl ?_
  refine z_iload 4 dL_law_1310 rfl ?_
  refine z_iconst (v := 2) dL_law_1312 rfl ?_
  refine z_iadd dL_law_1313 ?_
  refine z_sld (j := ii + 2) rfl (show nI ii + 2 = nI (ii + 2) from nI_add ii 2) (by omega) (by omega) dL_law_1314 ?_
  refine z_aload_n 0 dL_law_1315 rfl rfl ?_
  refine z_iload 4 dL_law_1316 rfl ?_
  refine z_iconst (v := 3) dL_law_1318 rfl ?_
  refine z_iadd dL_law_1319 ?_
  refine z_sld (j := ii + 3) rfl (show nI ii + 3 = nI (ii + 3) from nI_add ii 3) (by omega) (by omega) dL_law_1320 ?_
  refine z_aload_n 3 dL_law_1321 rfl rfl ?_
  refine z_callX (Y := zPl E Sm) (X1 := [(q, zcl E f)]) (st := []) (w_L_bellAt (PM := pm_bellAt E m RR (xs (ii + 1)) (xs (ii + 2)) (xs (ii + 3)) Sm) hx1.1 (hsim Sc Sm hR (xs (ii + 1)) (xs (ii + 2)) (xs (ii + 3)))) zw_931 zw_929 zw_930 zw_62 zy_L_bellAt rfl rfl ⟨Nat.le_of_ble_eq_true rfl, Nat.le_of_ble_eq_true rfl⟩ ⟨Nat.le_trans (Nat.add_le_add_left (Nat.le_of_ble_eq_true rfl) _) hk, Nat.le_trans (Nat.add_le_add_left (Nat.le_of_ble_eq_true rfl) _) hn⟩ (Nat.le_of_ble_eq_true rfl) dL_law_1322 (fun v X1 S1 h => ?_)
  obtain ⟨k9, r9, f1, rfl, rfl, h0, h⟩ := h
  refine z_widen (k' := k + 16) (n' := n + 480) (Nat.add_le_add_left (Nat.le_of_ble_eq_true rfl) _) (Nat.add_le_add_left (Nat.le_of_ble_eq_true rfl) _) ?_
  refine z_rot ?_
  refine z_istore (lv' := [(5, .int k9), (0, .ref b), (1, .ref x), (2, .ref m), (3, .ref q), (4, .int (nI ii))]) dL_law_1325 (Nat.le_of_ble_eq_true rfl) rfl ?_
  refine z_aload_n 3 dL_law_1327 rfl rfl ?_
  refine z_aload_n 1 dL_law_1328 rfl rfl ?_
  refine z_iload 5 dL_law_1329 rfl ?_
  refine z_iconst (v := 1) dL_law_1331 rfl ?_
  refine z_iadd dL_law_1332 ?_
  refine z_sld (j := ii + 1) rfl (show nI ii + 1 = nI (ii + 1) from nI_add ii 1) (by omega) (by omega) dL_law_1333 ?_
  refine z_aload_n 1 dL_law_1334 rfl rfl ?_
  refine z_iload 5 dL_law_1335 rfl ?_
  refine z_iconst (v := 2) dL_law_1337 rfl ?_
  refine z_iadd dL_law_1338 ?_
  refine z_sld (j := ii + 2) rfl (show nI ii + 2 = nI (ii + 2) from nI_add ii 2) (by omega) (by omega) dL_law_1339 ?_
  refine z_aload_n 1 dL_law_1340 rfl rfl ?_
  refine z_iload 5 dL_law_1341 rfl ?_
  refine z_iconst (v := 3) dL_law_1343 rfl ?_
  refine z_iadd dL_law_1344 ?_
  refine z_sld (j := ii + 3) rfl (show nI ii + 3 = nI (ii + 3) from nI_add ii 3) (by omega) (by omega) dL_law_1345 ?_
  refine z_callVI (ci := 11) (st := []) (w_X11_bellAt h) hx1.2.1 hx1.2.2 (Nat.le_of_ble_eq_true rfl) rfl zw_1604 zw_1601 zw_1602 zw_1603 zw_74 zy_X11_bellAt rfl rfl ⟨Nat.le_of_ble_eq_true rfl, Nat.le_of_ble_eq_true rfl⟩ ⟨hk, hn⟩ (Nat.le_of_ble_eq_true rfl) dL_law_1346 (fun _ _ hx => hx.elim) (fun b9 S2 h => ?_)
  refine z_widen (k' := k + 16) (n' := n + 480) (Nat.le_refl _) (Nat.le_refl _) ?_
  refine z_istore (lv' := [(6, .int b9), (5, .int k9), (0, .ref b), (1, .ref x), (2, .ref m), (3, .ref q), (4, .int (nI ii))]) dL_law_1349 (Nat.le_of_ble_eq_true rfl) rfl ?_
  refine z_aload_n 4 dL_law_1351 rfl rfl ?_
  have hx2 := hx S1 S2 h.2.2
  refine z_callVI (ci := 11) (st := []) (w_X11_thrown (Q := fun r S => r = gI S2 1100 m ∧ S2 = S) (X := fun _ _ => False) ⟨hx2.2, rfl, rfl⟩) hx2.2.1 hx2.2.2 (Nat.le_of_ble_eq_true rfl) rfl zw_1428 zw_1425 zw_1426 zw_1427 zw_74 zy_X11_thrown rfl rfl ⟨Nat.le_of_ble_eq_true rfl, Nat.le_of_ble_eq_true rfl⟩ ⟨hk, hn⟩ (Nat.le_of_ble_eq_true rfl) dL_law_1352 (fun _ _ hx => hx.elim) (fun t9 S3 h3 => ?_)
  obtain ⟨rfl, rfl⟩ := h3
  refine z_widen (k' := k + 16) (n' := n + 480) (Nat.le_refl _) (Nat.le_refl _) ?_
  refine z_rotB ?_
  refine z_iload 1 dL_law_1355 rfl ?_
  refine z_icmp_eq 1362 dL_law_1357 (by decide) (fun c1 => ?_) (fun c1 => ?_)
  rotate_left
  · exact absurd h.1 c1
  refine z_iload 1 dL_law_1362 rfl ?_
  refine z_if_ne 1379 dL_law_1364 (by decide) (fun c2 => ?_) (fun c2 => ?_)
  · refine z_goto 2818 dL_law_1379 (by decide) ?_
    refine z_sub [2, 3, 4, 5, 6] (lv' := [(0, .ref b), (1, .ref x), (2, .ref m), (3, .ref q), (4, .int (nI ii))]) rfl ?_
    exact hend f1 S1 S2 h.2.2
  have hv := h0 c2
  have hb9 := h.2.1 c2
  refine z_aload_n 5 dL_law_1367 rfl rfl ?_
  refine z_iconst (v := 0) dL_law_1368 rfl ?_
  refine z_laldX dL_law_1369 ?_
  rw [hv]
  refine z_iload 0 dL_law_1370 rfl ?_
  refine z_i2l dL_law_1372 rfl ?_
  refine z_lcmp dL_law_1373 ?_
  refine z_if_eq 1379 dL_law_1374 (by decide) (fun c4 => ?_) (fun c4 => ?_)
  rotate_left
  · exact absurd (by rw [hb9]; exact zlc _) c4
  refine z_goto 2818 dL_law_1379 (by decide) ?_
  refine z_sub [2, 3, 4, 5, 6] (lv' := [(0, .ref b), (1, .ref x), (2, .ref m), (3, .ref q), (4, .int (nI ii))]) rfl ?_
  exact hend f1 S1 S2 h.2.2
set_option maxRecDepth 20000 in
set_option maxHeartbeats 4000000 in
theorem lc_isTrue {E : zE} {b L x m q ii : Nat} {xs : Nat → Int32} {tb : List ExceptionTableEntry} {RR : zS → zS → Prop} {Q : Option Value → va_W → zS → Prop} {XC : String → va_W → zS → Prop} (hsim : sim_isTrue E x m RR) (hx : ∀ Sc Sm, RR Sc Sm → (x ∈ gL Sc ∧ gK Sc x = 10) ∧ (m ∈ gL Sm ∧ gK Sm m = 11)) (hi : ii + 3 < L) (hL : L ≤ 2048) {k n : Nat} (hk : k + 16 ≤ room_1.cells) (hn : n + 480 ≤ room_1.slots) {f : Nat → Int64} {Sc Sm : zS} (hR : RR Sc Sm)
    (hend : ∀ (f1 : Nat → Int64) (S1 S2 : zS), RR S1 S2 → zJ E (RL, cL_law, 7, (some .boolean), false, tb, zScr E b L xs) room_1 Q XC 2818 [(0, .ref b), (1, .ref x), (2, .ref m), (3, .ref q), (4, .int (nI ii))] [] (zPl E S2 ++ [(q, zcl E f1)]) S1 (k + 16) (n + 480)) : zJ E (RL, cL_law, 7, (some .boolean), false, tb, zScr E b L xs) room_1 Q XC 1382 [(0, .ref b), (1, .ref x), (2, .ref m), (3, .ref q), (4, .int (nI ii))] [] (zPl E Sm ++ [(q, zcl E f)]) Sc k n := by
  have hx1 := hx Sc Sm hR
  refine z_aload_n 1 dL_law_1382 rfl rfl ?_
  refine z_aload_n 0 dL_law_1383 rfl rfl ?_
  refine z_iload 4 dL_law_1384 rfl ?_
  refine z_iconst (v := 1) dL_law_1386 rfl ?_
  refine z_iadd dL_law_1387 ?_
  refine z_sld (j := ii + 1) rfl (show nI ii + 1 = nI (ii + 1) from nI_add ii 1) (by omega) (by omega) dL_law_1388 ?_
  refine z_aload_n 3 dL_law_1389 rfl rfl ?_
  refine z_callX (Y := zPl E Sm) (X1 := [(q, zcl E f)]) (st := []) (w_L_isTrue (PM := pm_isTrue E m RR (xs (ii + 1)) Sm) hx1.1 (hsim Sc Sm hR (xs (ii + 1)))) zw_943 zw_941 zw_942 zw_62 zy_L_isTrue rfl rfl ⟨Nat.le_of_ble_eq_true rfl, Nat.le_of_ble_eq_true rfl⟩ ⟨Nat.le_trans (Nat.add_le_add_left (Nat.le_of_ble_eq_true rfl) _) hk, Nat.le_trans (Nat.add_le_add_left (Nat.le_of_ble_eq_true rfl) _) hn⟩ (Nat.le_of_ble_eq_true rfl) dL_law_1390 (fun v X1 S1 h => ?_)
  obtain ⟨k9, r9, f1, rfl, rfl, h0, h⟩ := h
  refine z_widen (k' := k + 16) (n' := n + 480) (Nat.add_le_add_left (Nat.le_of_ble_eq_true rfl) _) (Nat.add_le_add_left (Nat.le_of_ble_eq_true rfl) _) ?_
  refine z_rot ?_
  refine z_istore (lv' := [(5, .int k9), (0, .ref b), (1, .ref x), (2, .ref m), (3, .ref q), (4, .int (nI ii))]) dL_law_1393 (Nat.le_of_ble_eq_true rfl) rfl ?_
  refine z_aload_n 3 dL_law_1395 rfl rfl ?_
  refine z_aload_n 1 dL_law_1396 rfl rfl ?_
  refine z_iload 5 dL_law_1397 rfl ?_
  refine z_iconst (v := 1) dL_law_1399 rfl ?_
  refine z_iadd dL_law_1400 ?_
  refine z_sld (j := ii + 1) rfl (show nI ii + 1 = nI (ii + 1) from nI_add ii 1) (by omega) (by omega) dL_law_1401 ?_
  refine z_callVI (ci := 11) (st := []) (w_X11_isTrue h) hx1.2.1 hx1.2.2 (Nat.le_of_ble_eq_true rfl) rfl zw_1608 zw_1605 zw_1606 zw_1607 zw_74 zy_X11_isTrue rfl rfl ⟨Nat.le_of_ble_eq_true rfl, Nat.le_of_ble_eq_true rfl⟩ ⟨hk, hn⟩ (Nat.le_of_ble_eq_true rfl) dL_law_1402 (fun _ _ hx => hx.elim) (fun b9 S2 h => ?_)
  refine z_widen (k' := k + 16) (n' := n + 480) (Nat.le_refl _) (Nat.le_refl _) ?_
  refine z_istore (lv' := [(6, .int b9), (5, .int k9), (0, .ref b), (1, .ref x), (2, .ref m), (3, .ref q), (4, .int (nI ii))]) dL_law_1405 (Nat.le_of_ble_eq_true rfl) rfl ?_
  refine z_aload_n 4 dL_law_1407 rfl rfl ?_
  have hx2 := hx S1 S2 h.2.2
  refine z_callVI (ci := 11) (st := []) (w_X11_thrown (Q := fun r S => r = gI S2 1100 m ∧ S2 = S) (X := fun _ _ => False) ⟨hx2.2, rfl, rfl⟩) hx2.2.1 hx2.2.2 (Nat.le_of_ble_eq_true rfl) rfl zw_1428 zw_1425 zw_1426 zw_1427 zw_74 zy_X11_thrown rfl rfl ⟨Nat.le_of_ble_eq_true rfl, Nat.le_of_ble_eq_true rfl⟩ ⟨hk, hn⟩ (Nat.le_of_ble_eq_true rfl) dL_law_1408 (fun _ _ hx => hx.elim) (fun t9 S3 h3 => ?_)
  obtain ⟨rfl, rfl⟩ := h3
  refine z_widen (k' := k + 16) (n' := n + 480) (Nat.le_refl _) (Nat.le_refl _) ?_
  refine z_rotB ?_
  refine z_iload 1 dL_law_1411 rfl ?_
  refine z_icmp_eq 1418 dL_law_1413 (by decide) (fun c1 => ?_) (fun c1 => ?_)
  rotate_left
  · exact absurd h.1 c1
  refine z_iload 1 dL_law_1418 rfl ?_
  refine z_if_ne 1442 dL_law_1420 (by decide) (fun c2 => ?_) (fun c2 => ?_)
  · refine z_goto 2818 dL_law_1442 (by decide) ?_
    refine z_sub [2, 3, 4, 5, 6] (lv' := [(0, .ref b), (1, .ref x), (2, .ref m), (3, .ref q), (4, .int (nI ii))]) rfl ?_
    exact hend f1 S1 S2 h.2.2
  have hv := h0 c2
  have hb9 := h.2.1 c2
  refine z_aload_n 5 dL_law_1423 rfl rfl ?_
  refine z_iconst (v := 0) dL_law_1424 rfl ?_
  refine z_laldX dL_law_1425 ?_
  rw [hv]
  refine z_iload 0 dL_law_1426 rfl ?_
  refine z_if_eq 1435 dL_law_1428 (by decide) (fun c3 => ?_) (fun c3 => ?_)
  · refine z_lconst (v := 0) dL_law_1435 rfl ?_
    refine z_lcmp dL_law_1436 ?_
    refine z_if_eq 1442 dL_law_1437 (by decide) (fun c4 => ?_) (fun c4 => ?_)
    rotate_left
    · exact absurd (by rw [hb9]; simp [c3, zlc]) c4
    refine z_goto 2818 dL_law_1442 (by decide) ?_
    refine z_sub [2, 3, 4, 5, 6] (lv' := [(0, .ref b), (1, .ref x), (2, .ref m), (3, .ref q), (4, .int (nI ii))]) rfl ?_
    exact hend f1 S1 S2 h.2.2
  · refine z_lconst (v := 1) dL_law_1431 rfl ?_
    refine z_goto 1436 dL_law_1432 (by decide) ?_
    refine z_lcmp dL_law_1436 ?_
    refine z_if_eq 1442 dL_law_1437 (by decide) (fun c4 => ?_) (fun c4 => ?_)
    rotate_left
    · exact absurd (by rw [hb9]; simp [c3, zlc]) c4
    refine z_goto 2818 dL_law_1442 (by decide) ?_
    refine z_sub [2, 3, 4, 5, 6] (lv' := [(0, .ref b), (1, .ref x), (2, .ref m), (3, .ref q), (4, .int (nI ii))]) rfl ?_
    exact hend f1 S1 S2 h.2.2
set_option maxRecDepth 20000 in
set_option maxHeartbeats 4000000 in
theorem lc_comesRound {E : zE} {b L x m q ii : Nat} {xs : Nat → Int32} {tb : List ExceptionTableEntry} {RR : zS → zS → Prop} {Q : Option Value → va_W → zS → Prop} {XC : String → va_W → zS → Prop} (hsim : sim_comesRound E x m RR) (hx : ∀ Sc Sm, RR Sc Sm → (x ∈ gL Sc ∧ gK Sc x = 10) ∧ (m ∈ gL Sm ∧ gK Sm m = 11)) (hi : ii + 3 < L) (hL : L ≤ 2048) {k n : Nat} (hk : k + 16 ≤ room_1.cells) (hn : n + 480 ≤ room_1.slots) {f : Nat → Int64} {Sc Sm : zS} (hR : RR Sc Sm)
    (hend : ∀ (f1 : Nat → Int64) (S1 S2 : zS), RR S1 S2 → zJ E (RL, cL_law, 7, (some .boolean), false, tb, zScr E b L xs) room_1 Q XC 2818 [(0, .ref b), (1, .ref x), (2, .ref m), (3, .ref q), (4, .int (nI ii))] [] (zPl E S2 ++ [(q, zcl E f1)]) S1 (k + 16) (n + 480)) : zJ E (RL, cL_law, 7, (some .boolean), false, tb, zScr E b L xs) room_1 Q XC 1445 [(0, .ref b), (1, .ref x), (2, .ref m), (3, .ref q), (4, .int (nI ii))] [] (zPl E Sm ++ [(q, zcl E f)]) Sc k n := by
  have hx1 := hx Sc Sm hR
  refine z_aload_n 1 dL_law_1445 rfl rfl ?_
  refine z_aload_n 0 dL_law_1446 rfl rfl ?_
  refine z_iload 4 dL_law_1447 rfl ?_
  refine z_iconst (v := 1) dL_law_1449 rfl ?_
  refine z_iadd dL_law_1450 ?_
  refine z_sld (j := ii + 1) rfl (show nI ii + 1 = nI (ii + 1) from nI_add ii 1) (by omega) (by omega) dL_law_1451 ?_
  refine z_aload_n 3 dL_law_1452 rfl rfl ?_
  refine z_callX (Y := zPl E Sm) (X1 := [(q, zcl E f)]) (st := []) (w_L_comesRound (PM := pm_comesRound E m RR (xs (ii + 1)) Sm) hx1.1 (hsim Sc Sm hR (xs (ii + 1)))) zw_950 zw_948 zw_949 zw_62 zy_L_comesRound rfl rfl ⟨Nat.le_of_ble_eq_true rfl, Nat.le_of_ble_eq_true rfl⟩ ⟨Nat.le_trans (Nat.add_le_add_left (Nat.le_of_ble_eq_true rfl) _) hk, Nat.le_trans (Nat.add_le_add_left (Nat.le_of_ble_eq_true rfl) _) hn⟩ (Nat.le_of_ble_eq_true rfl) dL_law_1453 (fun v X1 S1 h => ?_)
  obtain ⟨k9, r9, f1, rfl, rfl, h0, h⟩ := h
  refine z_widen (k' := k + 16) (n' := n + 480) (Nat.add_le_add_left (Nat.le_of_ble_eq_true rfl) _) (Nat.add_le_add_left (Nat.le_of_ble_eq_true rfl) _) ?_
  refine z_rot ?_
  refine z_istore (lv' := [(5, .int k9), (0, .ref b), (1, .ref x), (2, .ref m), (3, .ref q), (4, .int (nI ii))]) dL_law_1456 (Nat.le_of_ble_eq_true rfl) rfl ?_
  refine z_aload_n 3 dL_law_1458 rfl rfl ?_
  refine z_aload_n 1 dL_law_1459 rfl rfl ?_
  refine z_iload 5 dL_law_1460 rfl ?_
  refine z_iconst (v := 1) dL_law_1462 rfl ?_
  refine z_iadd dL_law_1463 ?_
  refine z_sld (j := ii + 1) rfl (show nI ii + 1 = nI (ii + 1) from nI_add ii 1) (by omega) (by omega) dL_law_1464 ?_
  refine z_callVI (ci := 11) (st := []) (w_X11_comesRound h) hx1.2.1 hx1.2.2 (Nat.le_of_ble_eq_true rfl) rfl zw_1612 zw_1609 zw_1610 zw_1611 zw_74 zy_X11_comesRound rfl rfl ⟨Nat.le_of_ble_eq_true rfl, Nat.le_of_ble_eq_true rfl⟩ ⟨hk, hn⟩ (Nat.le_of_ble_eq_true rfl) dL_law_1465 (fun _ _ hx => hx.elim) (fun b9 S2 h => ?_)
  refine z_widen (k' := k + 16) (n' := n + 480) (Nat.le_refl _) (Nat.le_refl _) ?_
  refine z_istore (lv' := [(6, .int b9), (5, .int k9), (0, .ref b), (1, .ref x), (2, .ref m), (3, .ref q), (4, .int (nI ii))]) dL_law_1468 (Nat.le_of_ble_eq_true rfl) rfl ?_
  refine z_aload_n 4 dL_law_1470 rfl rfl ?_
  have hx2 := hx S1 S2 h.2.2
  refine z_callVI (ci := 11) (st := []) (w_X11_thrown (Q := fun r S => r = gI S2 1100 m ∧ S2 = S) (X := fun _ _ => False) ⟨hx2.2, rfl, rfl⟩) hx2.2.1 hx2.2.2 (Nat.le_of_ble_eq_true rfl) rfl zw_1428 zw_1425 zw_1426 zw_1427 zw_74 zy_X11_thrown rfl rfl ⟨Nat.le_of_ble_eq_true rfl, Nat.le_of_ble_eq_true rfl⟩ ⟨hk, hn⟩ (Nat.le_of_ble_eq_true rfl) dL_law_1471 (fun _ _ hx => hx.elim) (fun t9 S3 h3 => ?_)
  obtain ⟨rfl, rfl⟩ := h3
  refine z_widen (k' := k + 16) (n' := n + 480) (Nat.le_refl _) (Nat.le_refl _) ?_
  refine z_rotB ?_
  refine z_iload 1 dL_law_1474 rfl ?_
  refine z_icmp_eq 1481 dL_law_1476 (by decide) (fun c1 => ?_) (fun c1 => ?_)
  rotate_left
  · exact absurd h.1 c1
  refine z_iload 1 dL_law_1481 rfl ?_
  refine z_if_ne 1505 dL_law_1483 (by decide) (fun c2 => ?_) (fun c2 => ?_)
  · refine z_goto 2818 dL_law_1505 (by decide) ?_
    refine z_sub [2, 3, 4, 5, 6] (lv' := [(0, .ref b), (1, .ref x), (2, .ref m), (3, .ref q), (4, .int (nI ii))]) rfl ?_
    exact hend f1 S1 S2 h.2.2
  have hv := h0 c2
  have hb9 := h.2.1 c2
  refine z_aload_n 5 dL_law_1486 rfl rfl ?_
  refine z_iconst (v := 0) dL_law_1487 rfl ?_
  refine z_laldX dL_law_1488 ?_
  rw [hv]
  refine z_iload 0 dL_law_1489 rfl ?_
  refine z_if_eq 1498 dL_law_1491 (by decide) (fun c3 => ?_) (fun c3 => ?_)
  · refine z_lconst (v := 0) dL_law_1498 rfl ?_
    refine z_lcmp dL_law_1499 ?_
    refine z_if_eq 1505 dL_law_1500 (by decide) (fun c4 => ?_) (fun c4 => ?_)
    rotate_left
    · exact absurd (by rw [hb9]; simp [c3, zlc]) c4
    refine z_goto 2818 dL_law_1505 (by decide) ?_
    refine z_sub [2, 3, 4, 5, 6] (lv' := [(0, .ref b), (1, .ref x), (2, .ref m), (3, .ref q), (4, .int (nI ii))]) rfl ?_
    exact hend f1 S1 S2 h.2.2
  · refine z_lconst (v := 1) dL_law_1494 rfl ?_
    refine z_goto 1499 dL_law_1495 (by decide) ?_
    refine z_lcmp dL_law_1499 ?_
    refine z_if_eq 1505 dL_law_1500 (by decide) (fun c4 => ?_) (fun c4 => ?_)
    rotate_left
    · exact absurd (by rw [hb9]; simp [c3, zlc]) c4
    refine z_goto 2818 dL_law_1505 (by decide) ?_
    refine z_sub [2, 3, 4, 5, 6] (lv' := [(0, .ref b), (1, .ref x), (2, .ref m), (3, .ref q), (4, .int (nI ii))]) rfl ?_
    exact hend f1 S1 S2 h.2.2
set_option maxRecDepth 20000 in
set_option maxHeartbeats 4000000 in
theorem lc_firstRepeat {E : zE} {b L x m q ii : Nat} {xs : Nat → Int32} {tb : List ExceptionTableEntry} {RR : zS → zS → Prop} {Q : Option Value → va_W → zS → Prop} {XC : String → va_W → zS → Prop} (hsim : sim_firstRepeat E x m RR) (hx : ∀ Sc Sm, RR Sc Sm → (x ∈ gL Sc ∧ gK Sc x = 10) ∧ (m ∈ gL Sm ∧ gK Sm m = 11)) (hi : ii + 3 < L) (hL : L ≤ 2048) {k n : Nat} (hk : k + 16 ≤ room_1.cells) (hn : n + 480 ≤ room_1.slots) {f : Nat → Int64} {Sc Sm : zS} (hR : RR Sc Sm)
    (hend : ∀ (f1 : Nat → Int64) (S1 S2 : zS), RR S1 S2 → zJ E (RL, cL_law, 7, (some .boolean), false, tb, zScr E b L xs) room_1 Q XC 2818 [(0, .ref b), (1, .ref x), (2, .ref m), (3, .ref q), (4, .int (nI ii))] [] (zPl E S2 ++ [(q, zcl E f1)]) S1 (k + 16) (n + 480)) : zJ E (RL, cL_law, 7, (some .boolean), false, tb, zScr E b L xs) room_1 Q XC 1508 [(0, .ref b), (1, .ref x), (2, .ref m), (3, .ref q), (4, .int (nI ii))] [] (zPl E Sm ++ [(q, zcl E f)]) Sc k n := by
  have hx1 := hx Sc Sm hR
  refine z_aload_n 1 dL_law_1508 rfl rfl ?_
  refine z_aload_n 0 dL_law_1509 rfl rfl ?_
  refine z_iload 4 dL_law_1510 rfl ?_
  refine z_iconst (v := 1) dL_law_1512 rfl ?_
  refine z_iadd dL_law_1513 ?_
  refine z_sld (j := ii + 1) rfl (show nI ii + 1 = nI (ii + 1) from nI_add ii 1) (by omega) (by omega) dL_law_1514 ?_
  refine z_aload_n 3 dL_law_1515 rfl rfl ?_
  refine z_callX (Y := zPl E Sm) (X1 := [(q, zcl E f)]) (st := []) (w_L_firstRepeat (PM := pm_firstRepeat E m RR (xs (ii + 1)) Sm) hx1.1 (hsim Sc Sm hR (xs (ii + 1)))) zw_957 zw_955 zw_956 zw_62 zy_L_firstRepeat rfl rfl ⟨Nat.le_of_ble_eq_true rfl, Nat.le_of_ble_eq_true rfl⟩ ⟨Nat.le_trans (Nat.add_le_add_left (Nat.le_of_ble_eq_true rfl) _) hk, Nat.le_trans (Nat.add_le_add_left (Nat.le_of_ble_eq_true rfl) _) hn⟩ (Nat.le_of_ble_eq_true rfl) dL_law_1516 (fun v X1 S1 h => ?_)
  obtain ⟨k9, r9, f1, rfl, rfl, h0, h⟩ := h
  refine z_widen (k' := k + 16) (n' := n + 480) (Nat.add_le_add_left (Nat.le_of_ble_eq_true rfl) _) (Nat.add_le_add_left (Nat.le_of_ble_eq_true rfl) _) ?_
  refine z_rot ?_
  refine z_istore (lv' := [(5, .int k9), (0, .ref b), (1, .ref x), (2, .ref m), (3, .ref q), (4, .int (nI ii))]) dL_law_1519 (Nat.le_of_ble_eq_true rfl) rfl ?_
  refine z_aload_n 3 dL_law_1521 rfl rfl ?_
  refine z_aload_n 1 dL_law_1522 rfl rfl ?_
  refine z_iload 5 dL_law_1523 rfl ?_
  refine z_iconst (v := 1) dL_law_1525 rfl ?_
  refine z_iadd dL_law_1526 ?_
  refine z_sld (j := ii + 1) rfl (show nI ii + 1 = nI (ii + 1) from nI_add ii 1) (by omega) (by omega) dL_law_1527 ?_
  refine z_callVI (ci := 11) (st := []) (w_X11_firstRepeat h) hx1.2.1 hx1.2.2 (Nat.le_of_ble_eq_true rfl) rfl zw_1616 zw_1613 zw_1614 zw_1615 zw_74 zy_X11_firstRepeat rfl rfl ⟨Nat.le_of_ble_eq_true rfl, Nat.le_of_ble_eq_true rfl⟩ ⟨hk, hn⟩ (Nat.le_of_ble_eq_true rfl) dL_law_1528 (fun _ _ hx => hx.elim) (fun b9 S2 h => ?_)
  refine z_widen (k' := k + 16) (n' := n + 480) (Nat.le_refl _) (Nat.le_refl _) ?_
  refine z_istore (lv' := [(6, .int b9), (5, .int k9), (0, .ref b), (1, .ref x), (2, .ref m), (3, .ref q), (4, .int (nI ii))]) dL_law_1531 (Nat.le_of_ble_eq_true rfl) rfl ?_
  refine z_aload_n 4 dL_law_1533 rfl rfl ?_
  have hx2 := hx S1 S2 h.2.2
  refine z_callVI (ci := 11) (st := []) (w_X11_thrown (Q := fun r S => r = gI S2 1100 m ∧ S2 = S) (X := fun _ _ => False) ⟨hx2.2, rfl, rfl⟩) hx2.2.1 hx2.2.2 (Nat.le_of_ble_eq_true rfl) rfl zw_1428 zw_1425 zw_1426 zw_1427 zw_74 zy_X11_thrown rfl rfl ⟨Nat.le_of_ble_eq_true rfl, Nat.le_of_ble_eq_true rfl⟩ ⟨hk, hn⟩ (Nat.le_of_ble_eq_true rfl) dL_law_1534 (fun _ _ hx => hx.elim) (fun t9 S3 h3 => ?_)
  obtain ⟨rfl, rfl⟩ := h3
  refine z_widen (k' := k + 16) (n' := n + 480) (Nat.le_refl _) (Nat.le_refl _) ?_
  refine z_rotB ?_
  refine z_iload 1 dL_law_1537 rfl ?_
  refine z_icmp_eq 1544 dL_law_1539 (by decide) (fun c1 => ?_) (fun c1 => ?_)
  rotate_left
  · exact absurd h.1 c1
  refine z_iload 1 dL_law_1544 rfl ?_
  refine z_if_ne 1561 dL_law_1546 (by decide) (fun c2 => ?_) (fun c2 => ?_)
  · refine z_goto 2818 dL_law_1561 (by decide) ?_
    refine z_sub [2, 3, 4, 5, 6] (lv' := [(0, .ref b), (1, .ref x), (2, .ref m), (3, .ref q), (4, .int (nI ii))]) rfl ?_
    exact hend f1 S1 S2 h.2.2
  have hv := h0 c2
  have hb9 := h.2.1 c2
  refine z_aload_n 5 dL_law_1549 rfl rfl ?_
  refine z_iconst (v := 0) dL_law_1550 rfl ?_
  refine z_laldX dL_law_1551 ?_
  rw [hv]
  refine z_iload 0 dL_law_1552 rfl ?_
  refine z_i2l dL_law_1554 rfl ?_
  refine z_lcmp dL_law_1555 ?_
  refine z_if_eq 1561 dL_law_1556 (by decide) (fun c4 => ?_) (fun c4 => ?_)
  rotate_left
  · exact absurd (by rw [hb9]; exact zlc _) c4
  refine z_goto 2818 dL_law_1561 (by decide) ?_
  refine z_sub [2, 3, 4, 5, 6] (lv' := [(0, .ref b), (1, .ref x), (2, .ref m), (3, .ref q), (4, .int (nI ii))]) rfl ?_
  exact hend f1 S1 S2 h.2.2
set_option maxRecDepth 20000 in
set_option maxHeartbeats 4000000 in
theorem lc_takeOut {E : zE} {b L x m q ii : Nat} {xs : Nat → Int32} {tb : List ExceptionTableEntry} {RR : zS → zS → Prop} {Q : Option Value → va_W → zS → Prop} {XC : String → va_W → zS → Prop} (hsim : sim_takeOut E x m RR) (hx : ∀ Sc Sm, RR Sc Sm → (x ∈ gL Sc ∧ gK Sc x = 10) ∧ (m ∈ gL Sm ∧ gK Sm m = 11)) (hi : ii + 3 < L) (hL : L ≤ 2048) {k n : Nat} (hk : k + 16 ≤ room_1.cells) (hn : n + 480 ≤ room_1.slots) {f : Nat → Int64} {Sc Sm : zS} (hR : RR Sc Sm)
    (hend : ∀ (f1 : Nat → Int64) (S1 S2 : zS), RR S1 S2 → zJ E (RL, cL_law, 7, (some .boolean), false, tb, zScr E b L xs) room_1 Q XC 2818 [(0, .ref b), (1, .ref x), (2, .ref m), (3, .ref q), (4, .int (nI ii))] [] (zPl E S2 ++ [(q, zcl E f1)]) S1 (k + 16) (n + 480)) : zJ E (RL, cL_law, 7, (some .boolean), false, tb, zScr E b L xs) room_1 Q XC 1564 [(0, .ref b), (1, .ref x), (2, .ref m), (3, .ref q), (4, .int (nI ii))] [] (zPl E Sm ++ [(q, zcl E f)]) Sc k n := by
  have hx1 := hx Sc Sm hR
  refine z_aload_n 1 dL_law_1564 rfl rfl ?_
  refine z_aload_n 0 dL_law_1565 rfl rfl ?_
  refine z_iload 4 dL_law_1566 rfl ?_
  refine z_iconst (v := 1) dL_law_1568 rfl ?_
  refine z_iadd dL_law_1569 ?_
  refine z_sld (j := ii + 1) rfl (show nI ii + 1 = nI (ii + 1) from nI_add ii 1) (by omega) (by omega) dL_law_1570 ?_
  refine z_aload_n 3 dL_law_1571 rfl rfl ?_
  refine z_callX (Y := zPl E Sm) (X1 := [(q, zcl E f)]) (st := []) (w_L_takeOut (PM := pm_takeOut E m RR (xs (ii + 1)) Sm) hx1.1 (hsim Sc Sm hR (xs (ii + 1)))) zw_964 zw_962 zw_963 zw_62 zy_L_takeOut rfl rfl ⟨Nat.le_of_ble_eq_true rfl, Nat.le_of_ble_eq_true rfl⟩ ⟨Nat.le_trans (Nat.add_le_add_left (Nat.le_of_ble_eq_true rfl) _) hk, Nat.le_trans (Nat.add_le_add_left (Nat.le_of_ble_eq_true rfl) _) hn⟩ (Nat.le_of_ble_eq_true rfl) dL_law_1572 (fun v X1 S1 h => ?_)
  obtain ⟨k9, r9, f1, rfl, rfl, h0, h⟩ := h
  refine z_widen (k' := k + 16) (n' := n + 480) (Nat.add_le_add_left (Nat.le_of_ble_eq_true rfl) _) (Nat.add_le_add_left (Nat.le_of_ble_eq_true rfl) _) ?_
  refine z_rot ?_
  refine z_istore (lv' := [(5, .int k9), (0, .ref b), (1, .ref x), (2, .ref m), (3, .ref q), (4, .int (nI ii))]) dL_law_1575 (Nat.le_of_ble_eq_true rfl) rfl ?_
  refine z_aload_n 3 dL_law_1577 rfl rfl ?_
  refine z_aload_n 1 dL_law_1578 rfl rfl ?_
  refine z_iload 5 dL_law_1579 rfl ?_
  refine z_iconst (v := 1) dL_law_1581 rfl ?_
  refine z_iadd dL_law_1582 ?_
  refine z_sld (j := ii + 1) rfl (show nI ii + 1 = nI (ii + 1) from nI_add ii 1) (by omega) (by omega) dL_law_1583 ?_
  refine z_callVI (ci := 11) (st := []) (w_X11_takeOut h) hx1.2.1 hx1.2.2 (Nat.le_of_ble_eq_true rfl) rfl zw_1620 zw_1617 zw_1618 zw_1619 zw_74 zy_X11_takeOut rfl rfl ⟨Nat.le_of_ble_eq_true rfl, Nat.le_of_ble_eq_true rfl⟩ ⟨hk, hn⟩ (Nat.le_of_ble_eq_true rfl) dL_law_1584 (fun _ _ hx => hx.elim) (fun b9 S2 h => ?_)
  refine z_widen (k' := k + 16) (n' := n + 480) (Nat.le_refl _) (Nat.le_refl _) ?_
  refine z_istore (lv' := [(6, .int b9), (5, .int k9), (0, .ref b), (1, .ref x), (2, .ref m), (3, .ref q), (4, .int (nI ii))]) dL_law_1587 (Nat.le_of_ble_eq_true rfl) rfl ?_
  refine z_aload_n 4 dL_law_1589 rfl rfl ?_
  have hx2 := hx S1 S2 h.2.2
  refine z_callVI (ci := 11) (st := []) (w_X11_thrown (Q := fun r S => r = gI S2 1100 m ∧ S2 = S) (X := fun _ _ => False) ⟨hx2.2, rfl, rfl⟩) hx2.2.1 hx2.2.2 (Nat.le_of_ble_eq_true rfl) rfl zw_1428 zw_1425 zw_1426 zw_1427 zw_74 zy_X11_thrown rfl rfl ⟨Nat.le_of_ble_eq_true rfl, Nat.le_of_ble_eq_true rfl⟩ ⟨hk, hn⟩ (Nat.le_of_ble_eq_true rfl) dL_law_1590 (fun _ _ hx => hx.elim) (fun t9 S3 h3 => ?_)
  obtain ⟨rfl, rfl⟩ := h3
  refine z_widen (k' := k + 16) (n' := n + 480) (Nat.le_refl _) (Nat.le_refl _) ?_
  refine z_rotB ?_
  refine z_iload 1 dL_law_1593 rfl ?_
  refine z_icmp_eq 1600 dL_law_1595 (by decide) (fun c1 => ?_) (fun c1 => ?_)
  rotate_left
  · exact absurd h.1 c1
  refine z_iload 1 dL_law_1600 rfl ?_
  refine z_if_ne 1617 dL_law_1602 (by decide) (fun c2 => ?_) (fun c2 => ?_)
  · refine z_goto 2818 dL_law_1617 (by decide) ?_
    refine z_sub [2, 3, 4, 5, 6] (lv' := [(0, .ref b), (1, .ref x), (2, .ref m), (3, .ref q), (4, .int (nI ii))]) rfl ?_
    exact hend f1 S1 S2 h.2.2
  have hv := h0 c2
  have hb9 := h.2.1 c2
  refine z_aload_n 5 dL_law_1605 rfl rfl ?_
  refine z_iconst (v := 0) dL_law_1606 rfl ?_
  refine z_laldX dL_law_1607 ?_
  rw [hv]
  refine z_iload 0 dL_law_1608 rfl ?_
  refine z_i2l dL_law_1610 rfl ?_
  refine z_lcmp dL_law_1611 ?_
  refine z_if_eq 1617 dL_law_1612 (by decide) (fun c4 => ?_) (fun c4 => ?_)
  rotate_left
  · exact absurd (by rw [hb9]; exact zlc _) c4
  refine z_goto 2818 dL_law_1617 (by decide) ?_
  refine z_sub [2, 3, 4, 5, 6] (lv' := [(0, .ref b), (1, .ref x), (2, .ref m), (3, .ref q), (4, .int (nI ii))]) rfl ?_
  exact hend f1 S1 S2 h.2.2
set_option maxRecDepth 20000 in
set_option maxHeartbeats 4000000 in
theorem lc_bringIn {E : zE} {b L x m q ii : Nat} {xs : Nat → Int32} {tb : List ExceptionTableEntry} {RR : zS → zS → Prop} {Q : Option Value → va_W → zS → Prop} {XC : String → va_W → zS → Prop} (hsim : sim_bringIn E x m RR) (hx : ∀ Sc Sm, RR Sc Sm → (x ∈ gL Sc ∧ gK Sc x = 10) ∧ (m ∈ gL Sm ∧ gK Sm m = 11)) (hi : ii + 3 < L) (hL : L ≤ 2048) {k n : Nat} (hk : k + 16 ≤ room_1.cells) (hn : n + 480 ≤ room_1.slots) {f : Nat → Int64} {Sc Sm : zS} (hR : RR Sc Sm)
    (hend : ∀ (f1 : Nat → Int64) (S1 S2 : zS), RR S1 S2 → zJ E (RL, cL_law, 7, (some .boolean), false, tb, zScr E b L xs) room_1 Q XC 2818 [(0, .ref b), (1, .ref x), (2, .ref m), (3, .ref q), (4, .int (nI ii))] [] (zPl E S2 ++ [(q, zcl E f1)]) S1 (k + 16) (n + 480)) : zJ E (RL, cL_law, 7, (some .boolean), false, tb, zScr E b L xs) room_1 Q XC 1620 [(0, .ref b), (1, .ref x), (2, .ref m), (3, .ref q), (4, .int (nI ii))] [] (zPl E Sm ++ [(q, zcl E f)]) Sc k n := by
  have hx1 := hx Sc Sm hR
  refine z_aload_n 1 dL_law_1620 rfl rfl ?_
  refine z_aload_n 0 dL_law_1621 rfl rfl ?_
  refine z_iload 4 dL_law_1622 rfl ?_
  refine z_iconst (v := 1) dL_law_1624 rfl ?_
  refine z_iadd dL_law_1625 ?_
  refine z_sld (j := ii + 1) rfl (show nI ii + 1 = nI (ii + 1) from nI_add ii 1) (by omega) (by omega) dL_law_1626 ?_
  refine z_aload_n 3 dL_law_1627 rfl rfl ?_
  refine z_callX (Y := zPl E Sm) (X1 := [(q, zcl E f)]) (st := []) (w_L_bringIn (PM := pm_bringIn E m RR (xs (ii + 1)) Sm) hx1.1 (hsim Sc Sm hR (xs (ii + 1)))) zw_976 zw_974 zw_975 zw_62 zy_L_bringIn rfl rfl ⟨Nat.le_of_ble_eq_true rfl, Nat.le_of_ble_eq_true rfl⟩ ⟨Nat.le_trans (Nat.add_le_add_left (Nat.le_of_ble_eq_true rfl) _) hk, Nat.le_trans (Nat.add_le_add_left (Nat.le_of_ble_eq_true rfl) _) hn⟩ (Nat.le_of_ble_eq_true rfl) dL_law_1628 (fun v X1 S1 h => ?_)
  obtain ⟨k9, r9, f1, rfl, rfl, h0, h⟩ := h
  refine z_widen (k' := k + 16) (n' := n + 480) (Nat.add_le_add_left (Nat.le_of_ble_eq_true rfl) _) (Nat.add_le_add_left (Nat.le_of_ble_eq_true rfl) _) ?_
  refine z_rot ?_
  refine z_istore (lv' := [(5, .int k9), (0, .ref b), (1, .ref x), (2, .ref m), (3, .ref q), (4, .int (nI ii))]) dL_law_1631 (Nat.le_of_ble_eq_true rfl) rfl ?_
  refine z_aload_n 3 dL_law_1633 rfl rfl ?_
  refine z_aload_n 1 dL_law_1634 rfl rfl ?_
  refine z_iload 5 dL_law_1635 rfl ?_
  refine z_iconst (v := 1) dL_law_1637 rfl ?_
  refine z_iadd dL_law_1638 ?_
  refine z_sld (j := ii + 1) rfl (show nI ii + 1 = nI (ii + 1) from nI_add ii 1) (by omega) (by omega) dL_law_1639 ?_
  refine z_callVI (ci := 11) (st := []) (w_X11_bringIn h) hx1.2.1 hx1.2.2 (Nat.le_of_ble_eq_true rfl) rfl zw_1627 zw_1624 zw_1625 zw_1626 zw_74 zy_X11_bringIn rfl rfl ⟨Nat.le_of_ble_eq_true rfl, Nat.le_of_ble_eq_true rfl⟩ ⟨hk, hn⟩ (Nat.le_of_ble_eq_true rfl) dL_law_1640 (fun _ _ hx => hx.elim) (fun b9 S2 h => ?_)
  refine z_widen (k' := k + 16) (n' := n + 480) (Nat.le_refl _) (Nat.le_refl _) ?_
  refine z_istore (lv' := [(6, .int b9), (5, .int k9), (0, .ref b), (1, .ref x), (2, .ref m), (3, .ref q), (4, .int (nI ii))]) dL_law_1643 (Nat.le_of_ble_eq_true rfl) rfl ?_
  refine z_aload_n 4 dL_law_1645 rfl rfl ?_
  have hx2 := hx S1 S2 h.2.2
  refine z_callVI (ci := 11) (st := []) (w_X11_thrown (Q := fun r S => r = gI S2 1100 m ∧ S2 = S) (X := fun _ _ => False) ⟨hx2.2, rfl, rfl⟩) hx2.2.1 hx2.2.2 (Nat.le_of_ble_eq_true rfl) rfl zw_1428 zw_1425 zw_1426 zw_1427 zw_74 zy_X11_thrown rfl rfl ⟨Nat.le_of_ble_eq_true rfl, Nat.le_of_ble_eq_true rfl⟩ ⟨hk, hn⟩ (Nat.le_of_ble_eq_true rfl) dL_law_1646 (fun _ _ hx => hx.elim) (fun t9 S3 h3 => ?_)
  obtain ⟨rfl, rfl⟩ := h3
  refine z_widen (k' := k + 16) (n' := n + 480) (Nat.le_refl _) (Nat.le_refl _) ?_
  refine z_rotB ?_
  refine z_iload 1 dL_law_1649 rfl ?_
  refine z_icmp_eq 1656 dL_law_1651 (by decide) (fun c1 => ?_) (fun c1 => ?_)
  rotate_left
  · exact absurd h.1 c1
  refine z_iload 1 dL_law_1656 rfl ?_
  refine z_if_ne 1680 dL_law_1658 (by decide) (fun c2 => ?_) (fun c2 => ?_)
  · refine z_goto 2818 dL_law_1680 (by decide) ?_
    refine z_sub [2, 3, 4, 5, 6] (lv' := [(0, .ref b), (1, .ref x), (2, .ref m), (3, .ref q), (4, .int (nI ii))]) rfl ?_
    exact hend f1 S1 S2 h.2.2
  have hv := h0 c2
  have hb9 := h.2.1 c2
  refine z_aload_n 5 dL_law_1661 rfl rfl ?_
  refine z_iconst (v := 0) dL_law_1662 rfl ?_
  refine z_laldX dL_law_1663 ?_
  rw [hv]
  refine z_iload 0 dL_law_1664 rfl ?_
  refine z_if_eq 1673 dL_law_1666 (by decide) (fun c3 => ?_) (fun c3 => ?_)
  · refine z_lconst (v := 0) dL_law_1673 rfl ?_
    refine z_lcmp dL_law_1674 ?_
    refine z_if_eq 1680 dL_law_1675 (by decide) (fun c4 => ?_) (fun c4 => ?_)
    rotate_left
    · exact absurd (by rw [hb9]; simp [c3, zlc]) c4
    refine z_goto 2818 dL_law_1680 (by decide) ?_
    refine z_sub [2, 3, 4, 5, 6] (lv' := [(0, .ref b), (1, .ref x), (2, .ref m), (3, .ref q), (4, .int (nI ii))]) rfl ?_
    exact hend f1 S1 S2 h.2.2
  · refine z_lconst (v := 1) dL_law_1669 rfl ?_
    refine z_goto 1674 dL_law_1670 (by decide) ?_
    refine z_lcmp dL_law_1674 ?_
    refine z_if_eq 1680 dL_law_1675 (by decide) (fun c4 => ?_) (fun c4 => ?_)
    rotate_left
    · exact absurd (by rw [hb9]; simp [c3, zlc]) c4
    refine z_goto 2818 dL_law_1680 (by decide) ?_
    refine z_sub [2, 3, 4, 5, 6] (lv' := [(0, .ref b), (1, .ref x), (2, .ref m), (3, .ref q), (4, .int (nI ii))]) rfl ?_
    exact hend f1 S1 S2 h.2.2
set_option maxRecDepth 20000 in
set_option maxHeartbeats 4000000 in
theorem lc_mend {E : zE} {b L x m q ii : Nat} {xs : Nat → Int32} {tb : List ExceptionTableEntry} {RR : zS → zS → Prop} {Q : Option Value → va_W → zS → Prop} {XC : String → va_W → zS → Prop} (hsim : sim_mend E x m RR) (hx : ∀ Sc Sm, RR Sc Sm → (x ∈ gL Sc ∧ gK Sc x = 10) ∧ (m ∈ gL Sm ∧ gK Sm m = 11)) (hi : ii + 3 < L) (hL : L ≤ 2048) {k n : Nat} (hk : k + 16 ≤ room_1.cells) (hn : n + 480 ≤ room_1.slots) {f : Nat → Int64} {Sc Sm : zS} (hR : RR Sc Sm)
    (hend : ∀ (f1 : Nat → Int64) (S1 S2 : zS), RR S1 S2 → zJ E (RL, cL_law, 7, (some .boolean), false, tb, zScr E b L xs) room_1 Q XC 2818 [(0, .ref b), (1, .ref x), (2, .ref m), (3, .ref q), (4, .int (nI ii))] [] (zPl E S2 ++ [(q, zcl E f1)]) S1 (k + 16) (n + 480)) : zJ E (RL, cL_law, 7, (some .boolean), false, tb, zScr E b L xs) room_1 Q XC 1683 [(0, .ref b), (1, .ref x), (2, .ref m), (3, .ref q), (4, .int (nI ii))] [] (zPl E Sm ++ [(q, zcl E f)]) Sc k n := by
  have hx1 := hx Sc Sm hR
  refine z_aload_n 1 dL_law_1683 rfl rfl ?_
  refine z_aload_n 0 dL_law_1684 rfl rfl ?_
  refine z_iload 4 dL_law_1685 rfl ?_
  refine z_iconst (v := 1) dL_law_1687 rfl ?_
  refine z_iadd dL_law_1688 ?_
  refine z_sld (j := ii + 1) rfl (show nI ii + 1 = nI (ii + 1) from nI_add ii 1) (by omega) (by omega) dL_law_1689 ?_
  refine z_aload_n 0 dL_law_1690 rfl rfl ?_
  refine z_iload 4 dL_law_1691 rfl ?_
  refine z_iconst (v := 2) dL_law_1693 rfl ?_
  refine z_iadd dL_law_1694 ?_
  refine z_sld (j := ii + 2) rfl (show nI ii + 2 = nI (ii + 2) from nI_add ii 2) (by omega) (by omega) dL_law_1695 ?_
  refine z_aload_n 3 dL_law_1696 rfl rfl ?_
  refine z_callX (Y := zPl E Sm) (X1 := [(q, zcl E f)]) (st := []) (w_L_mend (PM := pm_mend E m RR (xs (ii + 1)) (xs (ii + 2)) Sm) hx1.1 (hsim Sc Sm hR (xs (ii + 1)) (xs (ii + 2)))) zw_985 zw_983 zw_984 zw_62 zy_L_mend rfl rfl ⟨Nat.le_of_ble_eq_true rfl, Nat.le_of_ble_eq_true rfl⟩ ⟨Nat.le_trans (Nat.add_le_add_left (Nat.le_of_ble_eq_true rfl) _) hk, Nat.le_trans (Nat.add_le_add_left (Nat.le_of_ble_eq_true rfl) _) hn⟩ (Nat.le_of_ble_eq_true rfl) dL_law_1697 (fun v X1 S1 h => ?_)
  obtain ⟨k9, r9, f1, rfl, rfl, h0, h⟩ := h
  refine z_widen (k' := k + 16) (n' := n + 480) (Nat.add_le_add_left (Nat.le_of_ble_eq_true rfl) _) (Nat.add_le_add_left (Nat.le_of_ble_eq_true rfl) _) ?_
  refine z_rot ?_
  refine z_istore (lv' := [(5, .int k9), (0, .ref b), (1, .ref x), (2, .ref m), (3, .ref q), (4, .int (nI ii))]) dL_law_1700 (Nat.le_of_ble_eq_true rfl) rfl ?_
  refine z_aload_n 3 dL_law_1702 rfl rfl ?_
  refine z_aload_n 1 dL_law_1703 rfl rfl ?_
  refine z_iload 5 dL_law_1704 rfl ?_
  refine z_iconst (v := 1) dL_law_1706 rfl ?_
  refine z_iadd dL_law_1707 ?_
  refine z_sld (j := ii + 1) rfl (show nI ii + 1 = nI (ii + 1) from nI_add ii 1) (by omega) (by omega) dL_law_1708 ?_
  refine z_aload_n 1 dL_law_1709 rfl rfl ?_
  refine z_iload 5 dL_law_1710 rfl ?_
  refine z_iconst (v := 2) dL_law_1712 rfl ?_
  refine z_iadd dL_law_1713 ?_
  refine z_sld (j := ii + 2) rfl (show nI ii + 2 = nI (ii + 2) from nI_add ii 2) (by omega) (by omega) dL_law_1714 ?_
  refine z_callVI (ci := 11) (st := []) (w_X11_mend h) hx1.2.1 hx1.2.2 (Nat.le_of_ble_eq_true rfl) rfl zw_1631 zw_1628 zw_1629 zw_1630 zw_74 zy_X11_mend rfl rfl ⟨Nat.le_of_ble_eq_true rfl, Nat.le_of_ble_eq_true rfl⟩ ⟨hk, hn⟩ (Nat.le_of_ble_eq_true rfl) dL_law_1715 (fun _ _ hx => hx.elim) (fun b9 S2 h => ?_)
  refine z_widen (k' := k + 16) (n' := n + 480) (Nat.le_refl _) (Nat.le_refl _) ?_
  refine z_istore (lv' := [(6, .int b9), (5, .int k9), (0, .ref b), (1, .ref x), (2, .ref m), (3, .ref q), (4, .int (nI ii))]) dL_law_1718 (Nat.le_of_ble_eq_true rfl) rfl ?_
  refine z_aload_n 4 dL_law_1720 rfl rfl ?_
  have hx2 := hx S1 S2 h.2.2
  refine z_callVI (ci := 11) (st := []) (w_X11_thrown (Q := fun r S => r = gI S2 1100 m ∧ S2 = S) (X := fun _ _ => False) ⟨hx2.2, rfl, rfl⟩) hx2.2.1 hx2.2.2 (Nat.le_of_ble_eq_true rfl) rfl zw_1428 zw_1425 zw_1426 zw_1427 zw_74 zy_X11_thrown rfl rfl ⟨Nat.le_of_ble_eq_true rfl, Nat.le_of_ble_eq_true rfl⟩ ⟨hk, hn⟩ (Nat.le_of_ble_eq_true rfl) dL_law_1721 (fun _ _ hx => hx.elim) (fun t9 S3 h3 => ?_)
  obtain ⟨rfl, rfl⟩ := h3
  refine z_widen (k' := k + 16) (n' := n + 480) (Nat.le_refl _) (Nat.le_refl _) ?_
  refine z_rotB ?_
  refine z_iload 1 dL_law_1724 rfl ?_
  refine z_icmp_eq 1731 dL_law_1726 (by decide) (fun c1 => ?_) (fun c1 => ?_)
  rotate_left
  · exact absurd h.1 c1
  refine z_iload 1 dL_law_1731 rfl ?_
  refine z_if_ne 1748 dL_law_1733 (by decide) (fun c2 => ?_) (fun c2 => ?_)
  · refine z_goto 2818 dL_law_1748 (by decide) ?_
    refine z_sub [2, 3, 4, 5, 6] (lv' := [(0, .ref b), (1, .ref x), (2, .ref m), (3, .ref q), (4, .int (nI ii))]) rfl ?_
    exact hend f1 S1 S2 h.2.2
  have hv := h0 c2
  have hb9 := h.2.1 c2
  refine z_aload_n 5 dL_law_1736 rfl rfl ?_
  refine z_iconst (v := 0) dL_law_1737 rfl ?_
  refine z_laldX dL_law_1738 ?_
  rw [hv]
  refine z_iload 0 dL_law_1739 rfl ?_
  refine z_i2l dL_law_1741 rfl ?_
  refine z_lcmp dL_law_1742 ?_
  refine z_if_eq 1748 dL_law_1743 (by decide) (fun c4 => ?_) (fun c4 => ?_)
  rotate_left
  · exact absurd (by rw [hb9]; exact zlc _) c4
  refine z_goto 2818 dL_law_1748 (by decide) ?_
  refine z_sub [2, 3, 4, 5, 6] (lv' := [(0, .ref b), (1, .ref x), (2, .ref m), (3, .ref q), (4, .int (nI ii))]) rfl ?_
  exact hend f1 S1 S2 h.2.2
set_option maxRecDepth 20000 in
set_option maxHeartbeats 4000000 in
theorem lc_wear {E : zE} {b L x m q ii : Nat} {xs : Nat → Int32} {tb : List ExceptionTableEntry} {RR : zS → zS → Prop} {Q : Option Value → va_W → zS → Prop} {XC : String → va_W → zS → Prop} (hsim : sim_wear E x m RR) (hx : ∀ Sc Sm, RR Sc Sm → (x ∈ gL Sc ∧ gK Sc x = 10) ∧ (m ∈ gL Sm ∧ gK Sm m = 11)) (hi : ii + 3 < L) (hL : L ≤ 2048) {k n : Nat} (hk : k + 16 ≤ room_1.cells) (hn : n + 480 ≤ room_1.slots) {f : Nat → Int64} {Sc Sm : zS} (hR : RR Sc Sm)
    (hend : ∀ (f1 : Nat → Int64) (S1 S2 : zS), RR S1 S2 → zJ E (RL, cL_law, 7, (some .boolean), false, tb, zScr E b L xs) room_1 Q XC 2818 [(0, .ref b), (1, .ref x), (2, .ref m), (3, .ref q), (4, .int (nI ii))] [] (zPl E S2 ++ [(q, zcl E f1)]) S1 (k + 16) (n + 480)) : zJ E (RL, cL_law, 7, (some .boolean), false, tb, zScr E b L xs) room_1 Q XC 1751 [(0, .ref b), (1, .ref x), (2, .ref m), (3, .ref q), (4, .int (nI ii))] [] (zPl E Sm ++ [(q, zcl E f)]) Sc k n := by
  have hx1 := hx Sc Sm hR
  refine z_aload_n 1 dL_law_1751 rfl rfl ?_
  refine z_aload_n 0 dL_law_1752 rfl rfl ?_
  refine z_iload 4 dL_law_1753 rfl ?_
  refine z_iconst (v := 1) dL_law_1755 rfl ?_
  refine z_iadd dL_law_1756 ?_
  refine z_sld (j := ii + 1) rfl (show nI ii + 1 = nI (ii + 1) from nI_add ii 1) (by omega) (by omega) dL_law_1757 ?_
  refine z_aload_n 0 dL_law_1758 rfl rfl ?_
  refine z_iload 4 dL_law_1759 rfl ?_
  refine z_iconst (v := 2) dL_law_1761 rfl ?_
  refine z_iadd dL_law_1762 ?_
  refine z_sld (j := ii + 2) rfl (show nI ii + 2 = nI (ii + 2) from nI_add ii 2) (by omega) (by omega) dL_law_1763 ?_
  refine z_aload_n 3 dL_law_1764 rfl rfl ?_
  refine z_callX (Y := zPl E Sm) (X1 := [(q, zcl E f)]) (st := []) (w_L_wear (PM := pm_wear E m RR (xs (ii + 1)) (xs (ii + 2)) Sm) hx1.1 (hsim Sc Sm hR (xs (ii + 1)) (xs (ii + 2)))) zw_996 zw_994 zw_995 zw_62 zy_L_wear rfl rfl ⟨Nat.le_of_ble_eq_true rfl, Nat.le_of_ble_eq_true rfl⟩ ⟨Nat.le_trans (Nat.add_le_add_left (Nat.le_of_ble_eq_true rfl) _) hk, Nat.le_trans (Nat.add_le_add_left (Nat.le_of_ble_eq_true rfl) _) hn⟩ (Nat.le_of_ble_eq_true rfl) dL_law_1765 (fun v X1 S1 h => ?_)
  obtain ⟨k9, r9, f1, rfl, rfl, h0, h⟩ := h
  refine z_widen (k' := k + 16) (n' := n + 480) (Nat.add_le_add_left (Nat.le_of_ble_eq_true rfl) _) (Nat.add_le_add_left (Nat.le_of_ble_eq_true rfl) _) ?_
  refine z_rot ?_
  refine z_istore (lv' := [(5, .int k9), (0, .ref b), (1, .ref x), (2, .ref m), (3, .ref q), (4, .int (nI ii))]) dL_law_1768 (Nat.le_of_ble_eq_true rfl) rfl ?_
  refine z_aload_n 3 dL_law_1770 rfl rfl ?_
  refine z_aload_n 1 dL_law_1771 rfl rfl ?_
  refine z_iload 5 dL_law_1772 rfl ?_
  refine z_iconst (v := 1) dL_law_1774 rfl ?_
  refine z_iadd dL_law_1775 ?_
  refine z_sld (j := ii + 1) rfl (show nI ii + 1 = nI (ii + 1) from nI_add ii 1) (by omega) (by omega) dL_law_1776 ?_
  refine z_aload_n 1 dL_law_1777 rfl rfl ?_
  refine z_iload 5 dL_law_1778 rfl ?_
  refine z_iconst (v := 2) dL_law_1780 rfl ?_
  refine z_iadd dL_law_1781 ?_
  refine z_sld (j := ii + 2) rfl (show nI ii + 2 = nI (ii + 2) from nI_add ii 2) (by omega) (by omega) dL_law_1782 ?_
  refine z_callVI (ci := 11) (st := []) (w_X11_wear h) hx1.2.1 hx1.2.2 (Nat.le_of_ble_eq_true rfl) rfl zw_1635 zw_1632 zw_1633 zw_1634 zw_74 zy_X11_wear rfl rfl ⟨Nat.le_of_ble_eq_true rfl, Nat.le_of_ble_eq_true rfl⟩ ⟨hk, hn⟩ (Nat.le_of_ble_eq_true rfl) dL_law_1783 (fun _ _ hx => hx.elim) (fun b9 S2 h => ?_)
  refine z_widen (k' := k + 16) (n' := n + 480) (Nat.le_refl _) (Nat.le_refl _) ?_
  refine z_istore (lv' := [(6, .int b9), (5, .int k9), (0, .ref b), (1, .ref x), (2, .ref m), (3, .ref q), (4, .int (nI ii))]) dL_law_1786 (Nat.le_of_ble_eq_true rfl) rfl ?_
  refine z_aload_n 4 dL_law_1788 rfl rfl ?_
  have hx2 := hx S1 S2 h.2.2
  refine z_callVI (ci := 11) (st := []) (w_X11_thrown (Q := fun r S => r = gI S2 1100 m ∧ S2 = S) (X := fun _ _ => False) ⟨hx2.2, rfl, rfl⟩) hx2.2.1 hx2.2.2 (Nat.le_of_ble_eq_true rfl) rfl zw_1428 zw_1425 zw_1426 zw_1427 zw_74 zy_X11_thrown rfl rfl ⟨Nat.le_of_ble_eq_true rfl, Nat.le_of_ble_eq_true rfl⟩ ⟨hk, hn⟩ (Nat.le_of_ble_eq_true rfl) dL_law_1789 (fun _ _ hx => hx.elim) (fun t9 S3 h3 => ?_)
  obtain ⟨rfl, rfl⟩ := h3
  refine z_widen (k' := k + 16) (n' := n + 480) (Nat.le_refl _) (Nat.le_refl _) ?_
  refine z_rotB ?_
  refine z_iload 1 dL_law_1792 rfl ?_
  refine z_icmp_eq 1799 dL_law_1794 (by decide) (fun c1 => ?_) (fun c1 => ?_)
  rotate_left
  · exact absurd h.1 c1
  refine z_iload 1 dL_law_1799 rfl ?_
  refine z_if_ne 1816 dL_law_1801 (by decide) (fun c2 => ?_) (fun c2 => ?_)
  · refine z_goto 2818 dL_law_1816 (by decide) ?_
    refine z_sub [2, 3, 4, 5, 6] (lv' := [(0, .ref b), (1, .ref x), (2, .ref m), (3, .ref q), (4, .int (nI ii))]) rfl ?_
    exact hend f1 S1 S2 h.2.2
  have hv := h0 c2
  have hb9 := h.2.1 c2
  refine z_aload_n 5 dL_law_1804 rfl rfl ?_
  refine z_iconst (v := 0) dL_law_1805 rfl ?_
  refine z_laldX dL_law_1806 ?_
  rw [hv]
  refine z_iload 0 dL_law_1807 rfl ?_
  refine z_i2l dL_law_1809 rfl ?_
  refine z_lcmp dL_law_1810 ?_
  refine z_if_eq 1816 dL_law_1811 (by decide) (fun c4 => ?_) (fun c4 => ?_)
  rotate_left
  · exact absurd (by rw [hb9]; exact zlc _) c4
  refine z_goto 2818 dL_law_1816 (by decide) ?_
  refine z_sub [2, 3, 4, 5, 6] (lv' := [(0, .ref b), (1, .ref x), (2, .ref m), (3, .ref q), (4, .int (nI ii))]) rfl ?_
  exact hend f1 S1 S2 h.2.2
set_option maxRecDepth 20000 in
set_option maxHeartbeats 4000000 in
theorem lc_isIn {E : zE} {b L x m q ii : Nat} {xs : Nat → Int32} {tb : List ExceptionTableEntry} {RR : zS → zS → Prop} {Q : Option Value → va_W → zS → Prop} {XC : String → va_W → zS → Prop} (hsim : sim_isIn E x m RR) (hx : ∀ Sc Sm, RR Sc Sm → (x ∈ gL Sc ∧ gK Sc x = 10) ∧ (m ∈ gL Sm ∧ gK Sm m = 11)) (hi : ii + 3 < L) (hL : L ≤ 2048) {k n : Nat} (hk : k + 16 ≤ room_1.cells) (hn : n + 480 ≤ room_1.slots) {f : Nat → Int64} {Sc Sm : zS} (hR : RR Sc Sm)
    (hend : ∀ (f1 : Nat → Int64) (S1 S2 : zS), RR S1 S2 → zJ E (RL, cL_law, 7, (some .boolean), false, tb, zScr E b L xs) room_1 Q XC 2818 [(0, .ref b), (1, .ref x), (2, .ref m), (3, .ref q), (4, .int (nI ii))] [] (zPl E S2 ++ [(q, zcl E f1)]) S1 (k + 16) (n + 480)) : zJ E (RL, cL_law, 7, (some .boolean), false, tb, zScr E b L xs) room_1 Q XC 1819 [(0, .ref b), (1, .ref x), (2, .ref m), (3, .ref q), (4, .int (nI ii))] [] (zPl E Sm ++ [(q, zcl E f)]) Sc k n := by
  have hx1 := hx Sc Sm hR
  refine z_aload_n 1 dL_law_1819 rfl rfl ?_
  refine z_aload_n 0 dL_law_1820 rfl rfl ?_
  refine z_iload 4 dL_law_1821 rfl ?_
  refine z_iconst (v := 1) dL_law_1823 rfl ?_
  refine z_iadd dL_law_1824 ?_
  refine z_sld (j := ii + 1) rfl (show nI ii + 1 = nI (ii + 1) from nI_add ii 1) (by omega) (by omega) dL_law_1825 ?_
  refine z_aload_n 3 dL_law_1826 rfl rfl ?_
  refine z_callX (Y := zPl E Sm) (X1 := [(q, zcl E f)]) (st := []) (w_L_isIn (PM := pm_isIn E m RR (xs (ii + 1)) Sm) hx1.1 (hsim Sc Sm hR (xs (ii + 1)))) zw_1003 zw_1001 zw_1002 zw_62 zy_L_isIn rfl rfl ⟨Nat.le_of_ble_eq_true rfl, Nat.le_of_ble_eq_true rfl⟩ ⟨Nat.le_trans (Nat.add_le_add_left (Nat.le_of_ble_eq_true rfl) _) hk, Nat.le_trans (Nat.add_le_add_left (Nat.le_of_ble_eq_true rfl) _) hn⟩ (Nat.le_of_ble_eq_true rfl) dL_law_1827 (fun v X1 S1 h => ?_)
  obtain ⟨k9, r9, f1, rfl, rfl, h0, h⟩ := h
  refine z_widen (k' := k + 16) (n' := n + 480) (Nat.add_le_add_left (Nat.le_of_ble_eq_true rfl) _) (Nat.add_le_add_left (Nat.le_of_ble_eq_true rfl) _) ?_
  refine z_rot ?_
  refine z_istore (lv' := [(5, .int k9), (0, .ref b), (1, .ref x), (2, .ref m), (3, .ref q), (4, .int (nI ii))]) dL_law_1830 (Nat.le_of_ble_eq_true rfl) rfl ?_
  refine z_aload_n 3 dL_law_1832 rfl rfl ?_
  refine z_aload_n 1 dL_law_1833 rfl rfl ?_
  refine z_iload 5 dL_law_1834 rfl ?_
  refine z_iconst (v := 1) dL_law_1836 rfl ?_
  refine z_iadd dL_law_1837 ?_
  refine z_sld (j := ii + 1) rfl (show nI ii + 1 = nI (ii + 1) from nI_add ii 1) (by omega) (by omega) dL_law_1838 ?_
  refine z_callVI (ci := 11) (st := []) (w_X11_isIn h) hx1.2.1 hx1.2.2 (Nat.le_of_ble_eq_true rfl) rfl zw_1639 zw_1636 zw_1637 zw_1638 zw_74 zy_X11_isIn rfl rfl ⟨Nat.le_of_ble_eq_true rfl, Nat.le_of_ble_eq_true rfl⟩ ⟨hk, hn⟩ (Nat.le_of_ble_eq_true rfl) dL_law_1839 (fun _ _ hx => hx.elim) (fun b9 S2 h => ?_)
  refine z_widen (k' := k + 16) (n' := n + 480) (Nat.le_refl _) (Nat.le_refl _) ?_
  refine z_istore (lv' := [(6, .int b9), (5, .int k9), (0, .ref b), (1, .ref x), (2, .ref m), (3, .ref q), (4, .int (nI ii))]) dL_law_1842 (Nat.le_of_ble_eq_true rfl) rfl ?_
  refine z_aload_n 4 dL_law_1844 rfl rfl ?_
  have hx2 := hx S1 S2 h.2.2
  refine z_callVI (ci := 11) (st := []) (w_X11_thrown (Q := fun r S => r = gI S2 1100 m ∧ S2 = S) (X := fun _ _ => False) ⟨hx2.2, rfl, rfl⟩) hx2.2.1 hx2.2.2 (Nat.le_of_ble_eq_true rfl) rfl zw_1428 zw_1425 zw_1426 zw_1427 zw_74 zy_X11_thrown rfl rfl ⟨Nat.le_of_ble_eq_true rfl, Nat.le_of_ble_eq_true rfl⟩ ⟨hk, hn⟩ (Nat.le_of_ble_eq_true rfl) dL_law_1845 (fun _ _ hx => hx.elim) (fun t9 S3 h3 => ?_)
  obtain ⟨rfl, rfl⟩ := h3
  refine z_widen (k' := k + 16) (n' := n + 480) (Nat.le_refl _) (Nat.le_refl _) ?_
  refine z_rotB ?_
  refine z_iload 1 dL_law_1848 rfl ?_
  refine z_icmp_eq 1855 dL_law_1850 (by decide) (fun c1 => ?_) (fun c1 => ?_)
  rotate_left
  · exact absurd h.1 c1
  refine z_iload 1 dL_law_1855 rfl ?_
  refine z_if_ne 1879 dL_law_1857 (by decide) (fun c2 => ?_) (fun c2 => ?_)
  · refine z_goto 2818 dL_law_1879 (by decide) ?_
    refine z_sub [2, 3, 4, 5, 6] (lv' := [(0, .ref b), (1, .ref x), (2, .ref m), (3, .ref q), (4, .int (nI ii))]) rfl ?_
    exact hend f1 S1 S2 h.2.2
  have hv := h0 c2
  have hb9 := h.2.1 c2
  refine z_aload_n 5 dL_law_1860 rfl rfl ?_
  refine z_iconst (v := 0) dL_law_1861 rfl ?_
  refine z_laldX dL_law_1862 ?_
  rw [hv]
  refine z_iload 0 dL_law_1863 rfl ?_
  refine z_if_eq 1872 dL_law_1865 (by decide) (fun c3 => ?_) (fun c3 => ?_)
  · refine z_lconst (v := 0) dL_law_1872 rfl ?_
    refine z_lcmp dL_law_1873 ?_
    refine z_if_eq 1879 dL_law_1874 (by decide) (fun c4 => ?_) (fun c4 => ?_)
    rotate_left
    · exact absurd (by rw [hb9]; simp [c3, zlc]) c4
    refine z_goto 2818 dL_law_1879 (by decide) ?_
    refine z_sub [2, 3, 4, 5, 6] (lv' := [(0, .ref b), (1, .ref x), (2, .ref m), (3, .ref q), (4, .int (nI ii))]) rfl ?_
    exact hend f1 S1 S2 h.2.2
  · refine z_lconst (v := 1) dL_law_1868 rfl ?_
    refine z_goto 1873 dL_law_1869 (by decide) ?_
    refine z_lcmp dL_law_1873 ?_
    refine z_if_eq 1879 dL_law_1874 (by decide) (fun c4 => ?_) (fun c4 => ?_)
    rotate_left
    · exact absurd (by rw [hb9]; simp [c3, zlc]) c4
    refine z_goto 2818 dL_law_1879 (by decide) ?_
    refine z_sub [2, 3, 4, 5, 6] (lv' := [(0, .ref b), (1, .ref x), (2, .ref m), (3, .ref q), (4, .int (nI ii))]) rfl ?_
    exact hend f1 S1 S2 h.2.2
set_option maxRecDepth 20000 in
set_option maxHeartbeats 4000000 in
theorem lc_setBand {E : zE} {b L x m q ii : Nat} {xs : Nat → Int32} {tb : List ExceptionTableEntry} {RR : zS → zS → Prop} {Q : Option Value → va_W → zS → Prop} {XC : String → va_W → zS → Prop} (hsim : sim_setBand E x m RR) (hx : ∀ Sc Sm, RR Sc Sm → (x ∈ gL Sc ∧ gK Sc x = 10) ∧ (m ∈ gL Sm ∧ gK Sm m = 11)) (hi : ii + 3 < L) (hL : L ≤ 2048) {k n : Nat} (hk : k + 16 ≤ room_1.cells) (hn : n + 480 ≤ room_1.slots) {f : Nat → Int64} {Sc Sm : zS} (hR : RR Sc Sm)
    (hend : ∀ (f1 : Nat → Int64) (S1 S2 : zS), RR S1 S2 → zJ E (RL, cL_law, 7, (some .boolean), false, tb, zScr E b L xs) room_1 Q XC 2818 [(0, .ref b), (1, .ref x), (2, .ref m), (3, .ref q), (4, .int (nI ii))] [] (zPl E S2 ++ [(q, zcl E f1)]) S1 (k + 16) (n + 480)) : zJ E (RL, cL_law, 7, (some .boolean), false, tb, zScr E b L xs) room_1 Q XC 1882 [(0, .ref b), (1, .ref x), (2, .ref m), (3, .ref q), (4, .int (nI ii))] [] (zPl E Sm ++ [(q, zcl E f)]) Sc k n := by
  have hx1 := hx Sc Sm hR
  refine z_aload_n 1 dL_law_1882 rfl rfl ?_
  refine z_aload_n 0 dL_law_1883 rfl rfl ?_
  refine z_iload 4 dL_law_1884 rfl ?_
  refine z_iconst (v := 1) dL_law_1886 rfl ?_
  refine z_iadd dL_law_1887 ?_
  refine z_sld (j := ii + 1) rfl (show nI ii + 1 = nI (ii + 1) from nI_add ii 1) (by omega) (by omega) dL_law_1888 ?_
  refine z_aload_n 0 dL_law_1889 rfl rfl ?_
  refine z_iload 4 dL_law_1890 rfl ?_
  refine z_iconst (v := 2) dL_law_1892 rfl ?_
  refine z_iadd dL_law_1893 ?_
  refine z_sld (j := ii + 2) rfl (show nI ii + 2 = nI (ii + 2) from nI_add ii 2) (by omega) (by omega) dL_law_1894 ?_
  refine z_aload_n 3 dL_law_1895 rfl rfl ?_
  refine z_callX (Y := zPl E Sm) (X1 := [(q, zcl E f)]) (st := []) (w_L_setBand (PM := pm_setBand E m RR (xs (ii + 1)) (xs (ii + 2)) Sm) hx1.1 (hsim Sc Sm hR (xs (ii + 1)) (xs (ii + 2)))) zw_1010 zw_1008 zw_1009 zw_62 zy_L_setBand rfl rfl ⟨Nat.le_of_ble_eq_true rfl, Nat.le_of_ble_eq_true rfl⟩ ⟨Nat.le_trans (Nat.add_le_add_left (Nat.le_of_ble_eq_true rfl) _) hk, Nat.le_trans (Nat.add_le_add_left (Nat.le_of_ble_eq_true rfl) _) hn⟩ (Nat.le_of_ble_eq_true rfl) dL_law_1896 (fun v X1 S1 h => ?_)
  obtain ⟨k9, r9, f1, rfl, rfl, h0, h⟩ := h
  refine z_widen (k' := k + 16) (n' := n + 480) (Nat.add_le_add_left (Nat.le_of_ble_eq_true rfl) _) (Nat.add_le_add_left (Nat.le_of_ble_eq_true rfl) _) ?_
  refine z_rot ?_
  refine z_istore (lv' := [(5, .int k9), (0, .ref b), (1, .ref x), (2, .ref m), (3, .ref q), (4, .int (nI ii))]) dL_law_1899 (Nat.le_of_ble_eq_true rfl) rfl ?_
  refine z_aload_n 3 dL_law_1901 rfl rfl ?_
  refine z_aload_n 1 dL_law_1902 rfl rfl ?_
  refine z_iload 5 dL_law_1903 rfl ?_
  refine z_iconst (v := 1) dL_law_1905 rfl ?_
  refine z_iadd dL_law_1906 ?_
  refine z_sld (j := ii + 1) rfl (show nI ii + 1 = nI (ii + 1) from nI_add ii 1) (by omega) (by omega) dL_law_1907 ?_
  refine z_aload_n 1 dL_law_1908 rfl rfl ?_
  refine z_iload 5 dL_law_1909 rfl ?_
  refine z_iconst (v := 2) dL_law_1911 rfl ?_
  refine z_iadd dL_law_1912 ?_
  refine z_sld (j := ii + 2) rfl (show nI ii + 2 = nI (ii + 2) from nI_add ii 2) (by omega) (by omega) dL_law_1913 ?_
  refine z_callVI (ci := 11) (st := []) (w_X11_setBand h) hx1.2.1 hx1.2.2 (Nat.le_of_ble_eq_true rfl) rfl zw_1643 zw_1640 zw_1641 zw_1642 zw_74 zy_X11_setBand rfl rfl ⟨Nat.le_of_ble_eq_true rfl, Nat.le_of_ble_eq_true rfl⟩ ⟨hk, hn⟩ (Nat.le_of_ble_eq_true rfl) dL_law_1914 (fun _ _ hx => hx.elim) (fun b9 S2 h => ?_)
  refine z_widen (k' := k + 16) (n' := n + 480) (Nat.le_refl _) (Nat.le_refl _) ?_
  refine z_istore (lv' := [(6, .int b9), (5, .int k9), (0, .ref b), (1, .ref x), (2, .ref m), (3, .ref q), (4, .int (nI ii))]) dL_law_1917 (Nat.le_of_ble_eq_true rfl) rfl ?_
  refine z_aload_n 4 dL_law_1919 rfl rfl ?_
  have hx2 := hx S1 S2 h.2.2
  refine z_callVI (ci := 11) (st := []) (w_X11_thrown (Q := fun r S => r = gI S2 1100 m ∧ S2 = S) (X := fun _ _ => False) ⟨hx2.2, rfl, rfl⟩) hx2.2.1 hx2.2.2 (Nat.le_of_ble_eq_true rfl) rfl zw_1428 zw_1425 zw_1426 zw_1427 zw_74 zy_X11_thrown rfl rfl ⟨Nat.le_of_ble_eq_true rfl, Nat.le_of_ble_eq_true rfl⟩ ⟨hk, hn⟩ (Nat.le_of_ble_eq_true rfl) dL_law_1920 (fun _ _ hx => hx.elim) (fun t9 S3 h3 => ?_)
  obtain ⟨rfl, rfl⟩ := h3
  refine z_widen (k' := k + 16) (n' := n + 480) (Nat.le_refl _) (Nat.le_refl _) ?_
  refine z_rotB ?_
  refine z_iload 1 dL_law_1923 rfl ?_
  refine z_icmp_eq 1930 dL_law_1925 (by decide) (fun c1 => ?_) (fun c1 => ?_)
  rotate_left
  · exact absurd h.1 c1
  refine z_iload 1 dL_law_1930 rfl ?_
  refine z_if_ne 1947 dL_law_1932 (by decide) (fun c2 => ?_) (fun c2 => ?_)
  · refine z_goto 2818 dL_law_1947 (by decide) ?_
    refine z_sub [2, 3, 4, 5, 6] (lv' := [(0, .ref b), (1, .ref x), (2, .ref m), (3, .ref q), (4, .int (nI ii))]) rfl ?_
    exact hend f1 S1 S2 h.2.2
  have hv := h0 c2
  have hb9 := h.2.1 c2
  refine z_aload_n 5 dL_law_1935 rfl rfl ?_
  refine z_iconst (v := 0) dL_law_1936 rfl ?_
  refine z_laldX dL_law_1937 ?_
  rw [hv]
  refine z_iload 0 dL_law_1938 rfl ?_
  refine z_i2l dL_law_1940 rfl ?_
  refine z_lcmp dL_law_1941 ?_
  refine z_if_eq 1947 dL_law_1942 (by decide) (fun c4 => ?_) (fun c4 => ?_)
  rotate_left
  · exact absurd (by rw [hb9]; exact zlc _) c4
  refine z_goto 2818 dL_law_1947 (by decide) ?_
  refine z_sub [2, 3, 4, 5, 6] (lv' := [(0, .ref b), (1, .ref x), (2, .ref m), (3, .ref q), (4, .int (nI ii))]) rfl ?_
  exact hend f1 S1 S2 h.2.2
set_option maxRecDepth 20000 in
set_option maxHeartbeats 4000000 in
theorem lc_plan {E : zE} {b L x m q ii : Nat} {xs : Nat → Int32} {tb : List ExceptionTableEntry} {RR : zS → zS → Prop} {Q : Option Value → va_W → zS → Prop} {XC : String → va_W → zS → Prop} (hsim : sim_plan E x m RR) (hx : ∀ Sc Sm, RR Sc Sm → (x ∈ gL Sc ∧ gK Sc x = 10) ∧ (m ∈ gL Sm ∧ gK Sm m = 11)) (hi : ii + 3 < L) (hL : L ≤ 2048) {k n : Nat} (hk : k + 16 ≤ room_1.cells) (hn : n + 480 ≤ room_1.slots) {f : Nat → Int64} {Sc Sm : zS} (hR : RR Sc Sm)
    (hend : ∀ (f1 : Nat → Int64) (S1 S2 : zS), RR S1 S2 → zJ E (RL, cL_law, 7, (some .boolean), false, tb, zScr E b L xs) room_1 Q XC 2818 [(0, .ref b), (1, .ref x), (2, .ref m), (3, .ref q), (4, .int (nI ii))] [] (zPl E S2 ++ [(q, zcl E f1)]) S1 (k + 16) (n + 480)) : zJ E (RL, cL_law, 7, (some .boolean), false, tb, zScr E b L xs) room_1 Q XC 1950 [(0, .ref b), (1, .ref x), (2, .ref m), (3, .ref q), (4, .int (nI ii))] [] (zPl E Sm ++ [(q, zcl E f)]) Sc k n := by
  have hx1 := hx Sc Sm hR
  refine z_aload_n 1 dL_law_1950 rfl rfl ?_
  refine z_aload_n 0 dL_law_1951 rfl rfl ?_
  refine z_iload 4 dL_law_1952 rfl ?_
  refine z_iconst (v := 1) dL_law_1954 rfl ?_
  refine z_iadd dL_law_1955 ?_
  refine z_sld (j := ii + 1) rfl (show nI ii + 1 = nI (ii + 1) from nI_add ii 1) (by omega) (by omega) dL_law_1956 ?_
  refine z_aload_n 0 dL_law_1957 rfl rfl ?_
  refine z_iload 4 dL_law_1958 rfl ?_
  refine z_iconst (v := 2) dL_law_1960 rfl ?_
  refine z_iadd dL_law_1961 ?_
  refine z_sld (j := ii + 2) rfl (show nI ii + 2 = nI (ii + 2) from nI_add ii 2) (by omega) (by omega) dL_law_1962 ?_
  refine z_aload_n 3 dL_law_1963 rfl rfl ?_
  refine z_callX (Y := zPl E Sm) (X1 := [(q, zcl E f)]) (st := []) (w_L_plan (PM := pm_plan E m RR (xs (ii + 1)) (xs (ii + 2)) Sm) hx1.1 (hsim Sc Sm hR (xs (ii + 1)) (xs (ii + 2)))) zw_1017 zw_1015 zw_1016 zw_62 zy_L_plan rfl rfl ⟨Nat.le_of_ble_eq_true rfl, Nat.le_of_ble_eq_true rfl⟩ ⟨Nat.le_trans (Nat.add_le_add_left (Nat.le_of_ble_eq_true rfl) _) hk, Nat.le_trans (Nat.add_le_add_left (Nat.le_of_ble_eq_true rfl) _) hn⟩ (Nat.le_of_ble_eq_true rfl) dL_law_1964 (fun v X1 S1 h => ?_)
  obtain ⟨k9, r9, f1, rfl, rfl, h0, h⟩ := h
  refine z_widen (k' := k + 16) (n' := n + 480) (Nat.add_le_add_left (Nat.le_of_ble_eq_true rfl) _) (Nat.add_le_add_left (Nat.le_of_ble_eq_true rfl) _) ?_
  refine z_rot ?_
  refine z_istore (lv' := [(5, .int k9), (0, .ref b), (1, .ref x), (2, .ref m), (3, .ref q), (4, .int (nI ii))]) dL_law_1967 (Nat.le_of_ble_eq_true rfl) rfl ?_
  refine z_aload_n 3 dL_law_1969 rfl rfl ?_
  refine z_aload_n 1 dL_law_1970 rfl rfl ?_
  refine z_iload 5 dL_law_1971 rfl ?_
  refine z_iconst (v := 1) dL_law_1973 rfl ?_
  refine z_iadd dL_law_1974 ?_
  refine z_sld (j := ii + 1) rfl (show nI ii + 1 = nI (ii + 1) from nI_add ii 1) (by omega) (by omega) dL_law_1975 ?_
  refine z_aload_n 1 dL_law_1976 rfl rfl ?_
  refine z_iload 5 dL_law_1977 rfl ?_
  refine z_iconst (v := 2) dL_law_1979 rfl ?_
  refine z_iadd dL_law_1980 ?_
  refine z_sld (j := ii + 2) rfl (show nI ii + 2 = nI (ii + 2) from nI_add ii 2) (by omega) (by omega) dL_law_1981 ?_
  refine z_callVI (ci := 11) (st := []) (w_X11_plan h) hx1.2.1 hx1.2.2 (Nat.le_of_ble_eq_true rfl) rfl zw_1647 zw_1644 zw_1645 zw_1646 zw_74 zy_X11_plan rfl rfl ⟨Nat.le_of_ble_eq_true rfl, Nat.le_of_ble_eq_true rfl⟩ ⟨hk, hn⟩ (Nat.le_of_ble_eq_true rfl) dL_law_1982 (fun _ _ hx => hx.elim) (fun b9 S2 h => ?_)
  refine z_widen (k' := k + 16) (n' := n + 480) (Nat.le_refl _) (Nat.le_refl _) ?_
  refine z_istore (lv' := [(6, .int b9), (5, .int k9), (0, .ref b), (1, .ref x), (2, .ref m), (3, .ref q), (4, .int (nI ii))]) dL_law_1985 (Nat.le_of_ble_eq_true rfl) rfl ?_
  refine z_aload_n 4 dL_law_1987 rfl rfl ?_
  have hx2 := hx S1 S2 h.2.2
  refine z_callVI (ci := 11) (st := []) (w_X11_thrown (Q := fun r S => r = gI S2 1100 m ∧ S2 = S) (X := fun _ _ => False) ⟨hx2.2, rfl, rfl⟩) hx2.2.1 hx2.2.2 (Nat.le_of_ble_eq_true rfl) rfl zw_1428 zw_1425 zw_1426 zw_1427 zw_74 zy_X11_thrown rfl rfl ⟨Nat.le_of_ble_eq_true rfl, Nat.le_of_ble_eq_true rfl⟩ ⟨hk, hn⟩ (Nat.le_of_ble_eq_true rfl) dL_law_1988 (fun _ _ hx => hx.elim) (fun t9 S3 h3 => ?_)
  obtain ⟨rfl, rfl⟩ := h3
  refine z_widen (k' := k + 16) (n' := n + 480) (Nat.le_refl _) (Nat.le_refl _) ?_
  refine z_rotB ?_
  refine z_iload 1 dL_law_1991 rfl ?_
  refine z_icmp_eq 1998 dL_law_1993 (by decide) (fun c1 => ?_) (fun c1 => ?_)
  rotate_left
  · exact absurd h.1 c1
  refine z_iload 1 dL_law_1998 rfl ?_
  refine z_if_ne 2015 dL_law_2000 (by decide) (fun c2 => ?_) (fun c2 => ?_)
  · refine z_goto 2818 dL_law_2015 (by decide) ?_
    refine z_sub [2, 3, 4, 5, 6] (lv' := [(0, .ref b), (1, .ref x), (2, .ref m), (3, .ref q), (4, .int (nI ii))]) rfl ?_
    exact hend f1 S1 S2 h.2.2
  have hv := h0 c2
  have hb9 := h.2.1 c2
  refine z_aload_n 5 dL_law_2003 rfl rfl ?_
  refine z_iconst (v := 0) dL_law_2004 rfl ?_
  refine z_laldX dL_law_2005 ?_
  rw [hv]
  refine z_iload 0 dL_law_2006 rfl ?_
  refine z_i2l dL_law_2008 rfl ?_
  refine z_lcmp dL_law_2009 ?_
  refine z_if_eq 2015 dL_law_2010 (by decide) (fun c4 => ?_) (fun c4 => ?_)
  rotate_left
  · exact absurd (by rw [hb9]; exact zlc _) c4
  refine z_goto 2818 dL_law_2015 (by decide) ?_
  refine z_sub [2, 3, 4, 5, 6] (lv' := [(0, .ref b), (1, .ref x), (2, .ref m), (3, .ref q), (4, .int (nI ii))]) rfl ?_
  exact hend f1 S1 S2 h.2.2
set_option maxRecDepth 20000 in
set_option maxHeartbeats 4000000 in
theorem lc_planned {E : zE} {b L x m q ii : Nat} {xs : Nat → Int32} {tb : List ExceptionTableEntry} {RR : zS → zS → Prop} {Q : Option Value → va_W → zS → Prop} {XC : String → va_W → zS → Prop} (hsim : sim_planned E x m RR) (hx : ∀ Sc Sm, RR Sc Sm → (x ∈ gL Sc ∧ gK Sc x = 10) ∧ (m ∈ gL Sm ∧ gK Sm m = 11)) (hi : ii + 3 < L) (hL : L ≤ 2048) {k n : Nat} (hk : k + 16 ≤ room_1.cells) (hn : n + 480 ≤ room_1.slots) {f : Nat → Int64} {Sc Sm : zS} (hR : RR Sc Sm)
    (hend : ∀ (f1 : Nat → Int64) (S1 S2 : zS), RR S1 S2 → zJ E (RL, cL_law, 7, (some .boolean), false, tb, zScr E b L xs) room_1 Q XC 2818 [(0, .ref b), (1, .ref x), (2, .ref m), (3, .ref q), (4, .int (nI ii))] [] (zPl E S2 ++ [(q, zcl E f1)]) S1 (k + 16) (n + 480)) : zJ E (RL, cL_law, 7, (some .boolean), false, tb, zScr E b L xs) room_1 Q XC 2018 [(0, .ref b), (1, .ref x), (2, .ref m), (3, .ref q), (4, .int (nI ii))] [] (zPl E Sm ++ [(q, zcl E f)]) Sc k n := by
  have hx1 := hx Sc Sm hR
  refine z_aload_n 1 dL_law_2018 rfl rfl ?_
  refine z_aload_n 0 dL_law_2019 rfl rfl ?_
  refine z_iload 4 dL_law_2020 rfl ?_
  refine z_iconst (v := 1) dL_law_2022 rfl ?_
  refine z_iadd dL_law_2023 ?_
  refine z_sld (j := ii + 1) rfl (show nI ii + 1 = nI (ii + 1) from nI_add ii 1) (by omega) (by omega) dL_law_2024 ?_
  refine z_aload_n 3 dL_law_2025 rfl rfl ?_
  refine z_callX (Y := zPl E Sm) (X1 := [(q, zcl E f)]) (st := []) (w_L_planned (PM := pm_planned E m RR (xs (ii + 1)) Sm) hx1.1 (hsim Sc Sm hR (xs (ii + 1)))) zw_1038 zw_1036 zw_1037 zw_62 zy_L_planned rfl rfl ⟨Nat.le_of_ble_eq_true rfl, Nat.le_of_ble_eq_true rfl⟩ ⟨Nat.le_trans (Nat.add_le_add_left (Nat.le_of_ble_eq_true rfl) _) hk, Nat.le_trans (Nat.add_le_add_left (Nat.le_of_ble_eq_true rfl) _) hn⟩ (Nat.le_of_ble_eq_true rfl) dL_law_2026 (fun v X1 S1 h => ?_)
  obtain ⟨k9, r9, f1, rfl, rfl, h0, h⟩ := h
  refine z_widen (k' := k + 16) (n' := n + 480) (Nat.add_le_add_left (Nat.le_of_ble_eq_true rfl) _) (Nat.add_le_add_left (Nat.le_of_ble_eq_true rfl) _) ?_
  refine z_rot ?_
  refine z_istore (lv' := [(5, .int k9), (0, .ref b), (1, .ref x), (2, .ref m), (3, .ref q), (4, .int (nI ii))]) dL_law_2029 (Nat.le_of_ble_eq_true rfl) rfl ?_
  refine z_aload_n 3 dL_law_2031 rfl rfl ?_
  refine z_aload_n 1 dL_law_2032 rfl rfl ?_
  refine z_iload 5 dL_law_2033 rfl ?_
  refine z_iconst (v := 1) dL_law_2035 rfl ?_
  refine z_iadd dL_law_2036 ?_
  refine z_sld (j := ii + 1) rfl (show nI ii + 1 = nI (ii + 1) from nI_add ii 1) (by omega) (by omega) dL_law_2037 ?_
  refine z_callVI (ci := 11) (st := []) (w_X11_planned h) hx1.2.1 hx1.2.2 (Nat.le_of_ble_eq_true rfl) rfl zw_1659 zw_1656 zw_1657 zw_1658 zw_74 zy_X11_planned rfl rfl ⟨Nat.le_of_ble_eq_true rfl, Nat.le_of_ble_eq_true rfl⟩ ⟨hk, hn⟩ (Nat.le_of_ble_eq_true rfl) dL_law_2038 (fun _ _ hx => hx.elim) (fun b9 S2 h => ?_)
  refine z_widen (k' := k + 16) (n' := n + 480) (Nat.le_refl _) (Nat.le_refl _) ?_
  refine z_istore (lv' := [(6, .int b9), (5, .int k9), (0, .ref b), (1, .ref x), (2, .ref m), (3, .ref q), (4, .int (nI ii))]) dL_law_2041 (Nat.le_of_ble_eq_true rfl) rfl ?_
  refine z_aload_n 4 dL_law_2043 rfl rfl ?_
  have hx2 := hx S1 S2 h.2.2
  refine z_callVI (ci := 11) (st := []) (w_X11_thrown (Q := fun r S => r = gI S2 1100 m ∧ S2 = S) (X := fun _ _ => False) ⟨hx2.2, rfl, rfl⟩) hx2.2.1 hx2.2.2 (Nat.le_of_ble_eq_true rfl) rfl zw_1428 zw_1425 zw_1426 zw_1427 zw_74 zy_X11_thrown rfl rfl ⟨Nat.le_of_ble_eq_true rfl, Nat.le_of_ble_eq_true rfl⟩ ⟨hk, hn⟩ (Nat.le_of_ble_eq_true rfl) dL_law_2044 (fun _ _ hx => hx.elim) (fun t9 S3 h3 => ?_)
  obtain ⟨rfl, rfl⟩ := h3
  refine z_widen (k' := k + 16) (n' := n + 480) (Nat.le_refl _) (Nat.le_refl _) ?_
  refine z_rotB ?_
  refine z_iload 1 dL_law_2047 rfl ?_
  refine z_icmp_eq 2054 dL_law_2049 (by decide) (fun c1 => ?_) (fun c1 => ?_)
  rotate_left
  · exact absurd h.1 c1
  refine z_iload 1 dL_law_2054 rfl ?_
  refine z_if_ne 2071 dL_law_2056 (by decide) (fun c2 => ?_) (fun c2 => ?_)
  · refine z_goto 2818 dL_law_2071 (by decide) ?_
    refine z_sub [2, 3, 4, 5, 6] (lv' := [(0, .ref b), (1, .ref x), (2, .ref m), (3, .ref q), (4, .int (nI ii))]) rfl ?_
    exact hend f1 S1 S2 h.2.2
  have hv := h0 c2
  have hb9 := h.2.1 c2
  refine z_aload_n 5 dL_law_2059 rfl rfl ?_
  refine z_iconst (v := 0) dL_law_2060 rfl ?_
  refine z_laldX dL_law_2061 ?_
  rw [hv]
  refine z_iload 0 dL_law_2062 rfl ?_
  refine z_i2l dL_law_2064 rfl ?_
  refine z_lcmp dL_law_2065 ?_
  refine z_if_eq 2071 dL_law_2066 (by decide) (fun c4 => ?_) (fun c4 => ?_)
  rotate_left
  · exact absurd (by rw [hb9]; exact zlc _) c4
  refine z_goto 2818 dL_law_2071 (by decide) ?_
  refine z_sub [2, 3, 4, 5, 6] (lv' := [(0, .ref b), (1, .ref x), (2, .ref m), (3, .ref q), (4, .int (nI ii))]) rfl ?_
  exact hend f1 S1 S2 h.2.2
set_option maxRecDepth 20000 in
set_option maxHeartbeats 4000000 in
theorem lc_plannedAt {E : zE} {b L x m q ii : Nat} {xs : Nat → Int32} {tb : List ExceptionTableEntry} {RR : zS → zS → Prop} {Q : Option Value → va_W → zS → Prop} {XC : String → va_W → zS → Prop} (hsim : sim_plannedAt E x m RR) (hx : ∀ Sc Sm, RR Sc Sm → (x ∈ gL Sc ∧ gK Sc x = 10) ∧ (m ∈ gL Sm ∧ gK Sm m = 11)) (hi : ii + 3 < L) (hL : L ≤ 2048) {k n : Nat} (hk : k + 16 ≤ room_1.cells) (hn : n + 480 ≤ room_1.slots) {f : Nat → Int64} {Sc Sm : zS} (hR : RR Sc Sm)
    (hend : ∀ (f1 : Nat → Int64) (S1 S2 : zS), RR S1 S2 → zJ E (RL, cL_law, 7, (some .boolean), false, tb, zScr E b L xs) room_1 Q XC 2818 [(0, .ref b), (1, .ref x), (2, .ref m), (3, .ref q), (4, .int (nI ii))] [] (zPl E S2 ++ [(q, zcl E f1)]) S1 (k + 16) (n + 480)) : zJ E (RL, cL_law, 7, (some .boolean), false, tb, zScr E b L xs) room_1 Q XC 2074 [(0, .ref b), (1, .ref x), (2, .ref m), (3, .ref q), (4, .int (nI ii))] [] (zPl E Sm ++ [(q, zcl E f)]) Sc k n := by
  have hx1 := hx Sc Sm hR
  refine z_aload_n 1 dL_law_2074 rfl rfl ?_
  refine z_aload_n 0 dL_law_2075 rfl rfl ?_
  refine z_iload 4 dL_law_2076 rfl ?_
  refine z_iconst (v := 1) dL_law_2078 rfl ?_
  refine z_iadd dL_law_2079 ?_
  refine z_sld (j := ii + 1) rfl (show nI ii + 1 = nI (ii + 1) from nI_add ii 1) (by omega) (by omega) dL_law_2080 ?_
  refine z_aload_n 0 dL_law_2081 rfl rfl ?_
  refine z_iload 4 dL_law_2082 rfl ?_
  refine z_iconst (v := 2) dL_law_2084 rfl ?_
  refine z_iadd dL_law_2085 ?_
  refine z_sld (j := ii + 2) rfl (show nI ii + 2 = nI (ii + 2) from nI_add ii 2) (by omega) (by omega) dL_law_2086 ?_
  refine z_aload_n 3 dL_law_2087 rfl rfl ?_
  refine z_callX (Y := zPl E Sm) (X1 := [(q, zcl E f)]) (st := []) (w_L_plannedAt (PM := pm_plannedAt E m RR (xs (ii + 1)) (xs (ii + 2)) Sm) hx1.1 (hsim Sc Sm hR (xs (ii + 1)) (xs (ii + 2)))) zw_1045 zw_1043 zw_1044 zw_62 zy_L_plannedAt rfl rfl ⟨Nat.le_of_ble_eq_true rfl, Nat.le_of_ble_eq_true rfl⟩ ⟨Nat.le_trans (Nat.add_le_add_left (Nat.le_of_ble_eq_true rfl) _) hk, Nat.le_trans (Nat.add_le_add_left (Nat.le_of_ble_eq_true rfl) _) hn⟩ (Nat.le_of_ble_eq_true rfl) dL_law_2088 (fun v X1 S1 h => ?_)
  obtain ⟨k9, r9, f1, rfl, rfl, h0, h⟩ := h
  refine z_widen (k' := k + 16) (n' := n + 480) (Nat.add_le_add_left (Nat.le_of_ble_eq_true rfl) _) (Nat.add_le_add_left (Nat.le_of_ble_eq_true rfl) _) ?_
  refine z_rot ?_
  refine z_istore (lv' := [(5, .int k9), (0, .ref b), (1, .ref x), (2, .ref m), (3, .ref q), (4, .int (nI ii))]) dL_law_2091 (Nat.le_of_ble_eq_true rfl) rfl ?_
  refine z_aload_n 3 dL_law_2093 rfl rfl ?_
  refine z_aload_n 1 dL_law_2094 rfl rfl ?_
  refine z_iload 5 dL_law_2095 rfl ?_
  refine z_iconst (v := 1) dL_law_2097 rfl ?_
  refine z_iadd dL_law_2098 ?_
  refine z_sld (j := ii + 1) rfl (show nI ii + 1 = nI (ii + 1) from nI_add ii 1) (by omega) (by omega) dL_law_2099 ?_
  refine z_aload_n 1 dL_law_2100 rfl rfl ?_
  refine z_iload 5 dL_law_2101 rfl ?_
  refine z_iconst (v := 2) dL_law_2103 rfl ?_
  refine z_iadd dL_law_2104 ?_
  refine z_sld (j := ii + 2) rfl (show nI ii + 2 = nI (ii + 2) from nI_add ii 2) (by omega) (by omega) dL_law_2105 ?_
  refine z_callVI (ci := 11) (st := []) (w_X11_plannedAt h) hx1.2.1 hx1.2.2 (Nat.le_of_ble_eq_true rfl) rfl zw_1663 zw_1660 zw_1661 zw_1662 zw_74 zy_X11_plannedAt rfl rfl ⟨Nat.le_of_ble_eq_true rfl, Nat.le_of_ble_eq_true rfl⟩ ⟨hk, hn⟩ (Nat.le_of_ble_eq_true rfl) dL_law_2106 (fun _ _ hx => hx.elim) (fun b9 S2 h => ?_)
  refine z_widen (k' := k + 16) (n' := n + 480) (Nat.le_refl _) (Nat.le_refl _) ?_
  refine z_istore (lv' := [(6, .int b9), (5, .int k9), (0, .ref b), (1, .ref x), (2, .ref m), (3, .ref q), (4, .int (nI ii))]) dL_law_2109 (Nat.le_of_ble_eq_true rfl) rfl ?_
  refine z_aload_n 4 dL_law_2111 rfl rfl ?_
  have hx2 := hx S1 S2 h.2.2
  refine z_callVI (ci := 11) (st := []) (w_X11_thrown (Q := fun r S => r = gI S2 1100 m ∧ S2 = S) (X := fun _ _ => False) ⟨hx2.2, rfl, rfl⟩) hx2.2.1 hx2.2.2 (Nat.le_of_ble_eq_true rfl) rfl zw_1428 zw_1425 zw_1426 zw_1427 zw_74 zy_X11_thrown rfl rfl ⟨Nat.le_of_ble_eq_true rfl, Nat.le_of_ble_eq_true rfl⟩ ⟨hk, hn⟩ (Nat.le_of_ble_eq_true rfl) dL_law_2112 (fun _ _ hx => hx.elim) (fun t9 S3 h3 => ?_)
  obtain ⟨rfl, rfl⟩ := h3
  refine z_widen (k' := k + 16) (n' := n + 480) (Nat.le_refl _) (Nat.le_refl _) ?_
  refine z_rotB ?_
  refine z_iload 1 dL_law_2115 rfl ?_
  refine z_icmp_eq 2122 dL_law_2117 (by decide) (fun c1 => ?_) (fun c1 => ?_)
  rotate_left
  · exact absurd h.1 c1
  refine z_iload 1 dL_law_2122 rfl ?_
  refine z_if_ne 2139 dL_law_2124 (by decide) (fun c2 => ?_) (fun c2 => ?_)
  · refine z_goto 2818 dL_law_2139 (by decide) ?_
    refine z_sub [2, 3, 4, 5, 6] (lv' := [(0, .ref b), (1, .ref x), (2, .ref m), (3, .ref q), (4, .int (nI ii))]) rfl ?_
    exact hend f1 S1 S2 h.2.2
  have hv := h0 c2
  have hb9 := h.2.1 c2
  refine z_aload_n 5 dL_law_2127 rfl rfl ?_
  refine z_iconst (v := 0) dL_law_2128 rfl ?_
  refine z_laldX dL_law_2129 ?_
  rw [hv]
  refine z_iload 0 dL_law_2130 rfl ?_
  refine z_i2l dL_law_2132 rfl ?_
  refine z_lcmp dL_law_2133 ?_
  refine z_if_eq 2139 dL_law_2134 (by decide) (fun c4 => ?_) (fun c4 => ?_)
  rotate_left
  · exact absurd (by rw [hb9]; exact zlc _) c4
  refine z_goto 2818 dL_law_2139 (by decide) ?_
  refine z_sub [2, 3, 4, 5, 6] (lv' := [(0, .ref b), (1, .ref x), (2, .ref m), (3, .ref q), (4, .int (nI ii))]) rfl ?_
  exact hend f1 S1 S2 h.2.2
set_option maxRecDepth 20000 in
set_option maxHeartbeats 4000000 in
theorem lc_rota {E : zE} {b L x m q ii : Nat} {xs : Nat → Int32} {tb : List ExceptionTableEntry} {RR : zS → zS → Prop} {Q : Option Value → va_W → zS → Prop} {XC : String → va_W → zS → Prop} (hsim : sim_rota E x m RR) (hx : ∀ Sc Sm, RR Sc Sm → (x ∈ gL Sc ∧ gK Sc x = 10) ∧ (m ∈ gL Sm ∧ gK Sm m = 11)) (hi : ii + 3 < L) (hL : L ≤ 2048) {k n : Nat} (hk : k + 16 ≤ room_1.cells) (hn : n + 480 ≤ room_1.slots) {f : Nat → Int64} {Sc Sm : zS} (hR : RR Sc Sm)
    (hend : ∀ (f1 : Nat → Int64) (S1 S2 : zS), RR S1 S2 → zJ E (RL, cL_law, 7, (some .boolean), false, tb, zScr E b L xs) room_1 Q XC 2818 [(0, .ref b), (1, .ref x), (2, .ref m), (3, .ref q), (4, .int (nI ii))] [] (zPl E S2 ++ [(q, zcl E f1)]) S1 (k + 16) (n + 480)) : zJ E (RL, cL_law, 7, (some .boolean), false, tb, zScr E b L xs) room_1 Q XC 2142 [(0, .ref b), (1, .ref x), (2, .ref m), (3, .ref q), (4, .int (nI ii))] [] (zPl E Sm ++ [(q, zcl E f)]) Sc k n := by
  have hx1 := hx Sc Sm hR
  refine z_aload_n 1 dL_law_2142 rfl rfl ?_
  refine z_aload_n 0 dL_law_2143 rfl rfl ?_
  refine z_iload 4 dL_law_2144 rfl ?_
  refine z_iconst (v := 1) dL_law_2146 rfl ?_
  refine z_iadd dL_law_2147 ?_
  refine z_sld (j := ii + 1) rfl (show nI ii + 1 = nI (ii + 1) from nI_add ii 1) (by omega) (by omega) dL_law_2148 ?_
  refine z_aload_n 3 dL_law_2149 rfl rfl ?_
  refine z_callX (Y := zPl E Sm) (X1 := [(q, zcl E f)]) (st := []) (w_L_rota (PM := pm_rota E m RR (xs (ii + 1)) Sm) hx1.1 (hsim Sc Sm hR (xs (ii + 1)))) zw_1052 zw_1050 zw_1051 zw_62 zy_L_rota rfl rfl ⟨Nat.le_of_ble_eq_true rfl, Nat.le_of_ble_eq_true rfl⟩ ⟨Nat.le_trans (Nat.add_le_add_left (Nat.le_of_ble_eq_true rfl) _) hk, Nat.le_trans (Nat.add_le_add_left (Nat.le_of_ble_eq_true rfl) _) hn⟩ (Nat.le_of_ble_eq_true rfl) dL_law_2150 (fun v X1 S1 h => ?_)
  obtain ⟨k9, r9, f1, rfl, rfl, h0, h⟩ := h
  refine z_widen (k' := k + 16) (n' := n + 480) (Nat.add_le_add_left (Nat.le_of_ble_eq_true rfl) _) (Nat.add_le_add_left (Nat.le_of_ble_eq_true rfl) _) ?_
  refine z_rot ?_
  refine z_istore (lv' := [(5, .int k9), (0, .ref b), (1, .ref x), (2, .ref m), (3, .ref q), (4, .int (nI ii))]) dL_law_2153 (Nat.le_of_ble_eq_true rfl) rfl ?_
  refine z_aload_n 3 dL_law_2155 rfl rfl ?_
  refine z_aload_n 1 dL_law_2156 rfl rfl ?_
  refine z_iload 5 dL_law_2157 rfl ?_
  refine z_iconst (v := 1) dL_law_2159 rfl ?_
  refine z_iadd dL_law_2160 ?_
  refine z_sld (j := ii + 1) rfl (show nI ii + 1 = nI (ii + 1) from nI_add ii 1) (by omega) (by omega) dL_law_2161 ?_
  refine z_callVI (ci := 11) (st := []) (w_X11_rota h) hx1.2.1 hx1.2.2 (Nat.le_of_ble_eq_true rfl) rfl zw_1667 zw_1664 zw_1665 zw_1666 zw_74 zy_X11_rota rfl rfl ⟨Nat.le_of_ble_eq_true rfl, Nat.le_of_ble_eq_true rfl⟩ ⟨hk, hn⟩ (Nat.le_of_ble_eq_true rfl) dL_law_2162 (fun _ _ hx => hx.elim) (fun b9 S2 h => ?_)
  refine z_widen (k' := k + 16) (n' := n + 480) (Nat.le_refl _) (Nat.le_refl _) ?_
  refine z_istore (lv' := [(6, .int b9), (5, .int k9), (0, .ref b), (1, .ref x), (2, .ref m), (3, .ref q), (4, .int (nI ii))]) dL_law_2165 (Nat.le_of_ble_eq_true rfl) rfl ?_
  refine z_aload_n 4 dL_law_2167 rfl rfl ?_
  have hx2 := hx S1 S2 h.2.2
  refine z_callVI (ci := 11) (st := []) (w_X11_thrown (Q := fun r S => r = gI S2 1100 m ∧ S2 = S) (X := fun _ _ => False) ⟨hx2.2, rfl, rfl⟩) hx2.2.1 hx2.2.2 (Nat.le_of_ble_eq_true rfl) rfl zw_1428 zw_1425 zw_1426 zw_1427 zw_74 zy_X11_thrown rfl rfl ⟨Nat.le_of_ble_eq_true rfl, Nat.le_of_ble_eq_true rfl⟩ ⟨hk, hn⟩ (Nat.le_of_ble_eq_true rfl) dL_law_2168 (fun _ _ hx => hx.elim) (fun t9 S3 h3 => ?_)
  obtain ⟨rfl, rfl⟩ := h3
  refine z_widen (k' := k + 16) (n' := n + 480) (Nat.le_refl _) (Nat.le_refl _) ?_
  refine z_rotB ?_
  refine z_iload 1 dL_law_2171 rfl ?_
  refine z_icmp_eq 2178 dL_law_2173 (by decide) (fun c1 => ?_) (fun c1 => ?_)
  rotate_left
  · exact absurd h.1 c1
  refine z_iload 1 dL_law_2178 rfl ?_
  refine z_if_ne 2195 dL_law_2180 (by decide) (fun c2 => ?_) (fun c2 => ?_)
  · refine z_goto 2818 dL_law_2195 (by decide) ?_
    refine z_sub [2, 3, 4, 5, 6] (lv' := [(0, .ref b), (1, .ref x), (2, .ref m), (3, .ref q), (4, .int (nI ii))]) rfl ?_
    exact hend f1 S1 S2 h.2.2
  have hv := h0 c2
  have hb9 := h.2.1 c2
  refine z_aload_n 5 dL_law_2183 rfl rfl ?_
  refine z_iconst (v := 0) dL_law_2184 rfl ?_
  refine z_laldX dL_law_2185 ?_
  rw [hv]
  refine z_iload 0 dL_law_2186 rfl ?_
  refine z_i2l dL_law_2188 rfl ?_
  refine z_lcmp dL_law_2189 ?_
  refine z_if_eq 2195 dL_law_2190 (by decide) (fun c4 => ?_) (fun c4 => ?_)
  rotate_left
  · exact absurd (by rw [hb9]; exact zlc _) c4
  refine z_goto 2818 dL_law_2195 (by decide) ?_
  refine z_sub [2, 3, 4, 5, 6] (lv' := [(0, .ref b), (1, .ref x), (2, .ref m), (3, .ref q), (4, .int (nI ii))]) rfl ?_
  exact hend f1 S1 S2 h.2.2
set_option maxRecDepth 20000 in
set_option maxHeartbeats 4000000 in
theorem lc_pass {E : zE} {b L x m q ii : Nat} {xs : Nat → Int32} {tb : List ExceptionTableEntry} {RR : zS → zS → Prop} {Q : Option Value → va_W → zS → Prop} {XC : String → va_W → zS → Prop} (hsim : sim_pass E x m RR) (hx : ∀ Sc Sm, RR Sc Sm → (x ∈ gL Sc ∧ gK Sc x = 10) ∧ (m ∈ gL Sm ∧ gK Sm m = 11)) (hi : ii + 3 < L) (hL : L ≤ 2048) {k n : Nat} (hk : k + 16 ≤ room_1.cells) (hn : n + 480 ≤ room_1.slots) {f : Nat → Int64} {Sc Sm : zS} (hR : RR Sc Sm)
    (hend : ∀ (f1 : Nat → Int64) (S1 S2 : zS), RR S1 S2 → zJ E (RL, cL_law, 7, (some .boolean), false, tb, zScr E b L xs) room_1 Q XC 2818 [(0, .ref b), (1, .ref x), (2, .ref m), (3, .ref q), (4, .int (nI ii))] [] (zPl E S2 ++ [(q, zcl E f1)]) S1 (k + 16) (n + 480)) : zJ E (RL, cL_law, 7, (some .boolean), false, tb, zScr E b L xs) room_1 Q XC 2198 [(0, .ref b), (1, .ref x), (2, .ref m), (3, .ref q), (4, .int (nI ii))] [] (zPl E Sm ++ [(q, zcl E f)]) Sc k n := by
  have hx1 := hx Sc Sm hR
  refine z_aload_n 1 dL_law_2198 rfl rfl ?_
  refine z_aload_n 3 dL_law_2199 rfl rfl ?_
  refine z_callX (Y := zPl E Sm) (X1 := [(q, zcl E f)]) (st := []) (w_L_pass (_u := ()) (PM := pm_pass E m RR Sm) hx1.1 (hsim Sc Sm hR ())) zw_1075 zw_1073 zw_1074 zw_62 zy_L_pass rfl rfl ⟨Nat.le_of_ble_eq_true rfl, Nat.le_of_ble_eq_true rfl⟩ ⟨Nat.le_trans (Nat.add_le_add_left (Nat.le_of_ble_eq_true rfl) _) hk, Nat.le_trans (Nat.add_le_add_left (Nat.le_of_ble_eq_true rfl) _) hn⟩ (Nat.le_of_ble_eq_true rfl) dL_law_2200 (fun v X1 S1 h => ?_)
  obtain ⟨k9, r9, f1, rfl, rfl, h0, h⟩ := h
  refine z_widen (k' := k + 16) (n' := n + 480) (Nat.add_le_add_left (Nat.le_of_ble_eq_true rfl) _) (Nat.add_le_add_left (Nat.le_of_ble_eq_true rfl) _) ?_
  refine z_rot ?_
  refine z_istore (lv' := [(5, .int k9), (0, .ref b), (1, .ref x), (2, .ref m), (3, .ref q), (4, .int (nI ii))]) dL_law_2203 (Nat.le_of_ble_eq_true rfl) rfl ?_
  refine z_aload_n 3 dL_law_2205 rfl rfl ?_
  refine z_callVI (ci := 11) (st := []) (w_X11_pass h) hx1.2.1 hx1.2.2 (Nat.le_of_ble_eq_true rfl) rfl zw_1679 zw_1676 zw_1677 zw_1678 zw_74 zy_X11_pass rfl rfl ⟨Nat.le_of_ble_eq_true rfl, Nat.le_of_ble_eq_true rfl⟩ ⟨hk, hn⟩ (Nat.le_of_ble_eq_true rfl) dL_law_2206 (fun _ _ hx => hx.elim) (fun b9 S2 h => ?_)
  refine z_widen (k' := k + 16) (n' := n + 480) (Nat.le_refl _) (Nat.le_refl _) ?_
  refine z_istore (lv' := [(6, .int b9), (5, .int k9), (0, .ref b), (1, .ref x), (2, .ref m), (3, .ref q), (4, .int (nI ii))]) dL_law_2209 (Nat.le_of_ble_eq_true rfl) rfl ?_
  refine z_aload_n 4 dL_law_2211 rfl rfl ?_
  have hx2 := hx S1 S2 h.2.2
  refine z_callVI (ci := 11) (st := []) (w_X11_thrown (Q := fun r S => r = gI S2 1100 m ∧ S2 = S) (X := fun _ _ => False) ⟨hx2.2, rfl, rfl⟩) hx2.2.1 hx2.2.2 (Nat.le_of_ble_eq_true rfl) rfl zw_1428 zw_1425 zw_1426 zw_1427 zw_74 zy_X11_thrown rfl rfl ⟨Nat.le_of_ble_eq_true rfl, Nat.le_of_ble_eq_true rfl⟩ ⟨hk, hn⟩ (Nat.le_of_ble_eq_true rfl) dL_law_2212 (fun _ _ hx => hx.elim) (fun t9 S3 h3 => ?_)
  obtain ⟨rfl, rfl⟩ := h3
  refine z_widen (k' := k + 16) (n' := n + 480) (Nat.le_refl _) (Nat.le_refl _) ?_
  refine z_rotB ?_
  refine z_iload 1 dL_law_2215 rfl ?_
  refine z_icmp_eq 2222 dL_law_2217 (by decide) (fun c1 => ?_) (fun c1 => ?_)
  rotate_left
  · exact absurd h.1 c1
  refine z_iload 1 dL_law_2222 rfl ?_
  refine z_if_ne 2239 dL_law_2224 (by decide) (fun c2 => ?_) (fun c2 => ?_)
  · refine z_goto 2818 dL_law_2239 (by decide) ?_
    refine z_sub [2, 3, 4, 5, 6] (lv' := [(0, .ref b), (1, .ref x), (2, .ref m), (3, .ref q), (4, .int (nI ii))]) rfl ?_
    exact hend f1 S1 S2 h.2.2
  have hv := h0 c2
  have hb9 := h.2.1 c2
  refine z_aload_n 5 dL_law_2227 rfl rfl ?_
  refine z_iconst (v := 0) dL_law_2228 rfl ?_
  refine z_laldX dL_law_2229 ?_
  rw [hv]
  refine z_iload 0 dL_law_2230 rfl ?_
  refine z_i2l dL_law_2232 rfl ?_
  refine z_lcmp dL_law_2233 ?_
  refine z_if_eq 2239 dL_law_2234 (by decide) (fun c4 => ?_) (fun c4 => ?_)
  rotate_left
  · exact absurd (by rw [hb9]; exact zlc _) c4
  refine z_goto 2818 dL_law_2239 (by decide) ?_
  refine z_sub [2, 3, 4, 5, 6] (lv' := [(0, .ref b), (1, .ref x), (2, .ref m), (3, .ref q), (4, .int (nI ii))]) rfl ?_
  exact hend f1 S1 S2 h.2.2
set_option maxRecDepth 20000 in
set_option maxHeartbeats 4000000 in
theorem lc_today {E : zE} {b L x m q ii : Nat} {xs : Nat → Int32} {tb : List ExceptionTableEntry} {RR : zS → zS → Prop} {Q : Option Value → va_W → zS → Prop} {XC : String → va_W → zS → Prop} (hsim : sim_today E x m RR) (hx : ∀ Sc Sm, RR Sc Sm → (x ∈ gL Sc ∧ gK Sc x = 10) ∧ (m ∈ gL Sm ∧ gK Sm m = 11)) (hi : ii + 3 < L) (hL : L ≤ 2048) {k n : Nat} (hk : k + 16 ≤ room_1.cells) (hn : n + 480 ≤ room_1.slots) {f : Nat → Int64} {Sc Sm : zS} (hR : RR Sc Sm)
    (hend : ∀ (f1 : Nat → Int64) (S1 S2 : zS), RR S1 S2 → zJ E (RL, cL_law, 7, (some .boolean), false, tb, zScr E b L xs) room_1 Q XC 2818 [(0, .ref b), (1, .ref x), (2, .ref m), (3, .ref q), (4, .int (nI ii))] [] (zPl E S2 ++ [(q, zcl E f1)]) S1 (k + 16) (n + 480)) : zJ E (RL, cL_law, 7, (some .boolean), false, tb, zScr E b L xs) room_1 Q XC 2242 [(0, .ref b), (1, .ref x), (2, .ref m), (3, .ref q), (4, .int (nI ii))] [] (zPl E Sm ++ [(q, zcl E f)]) Sc k n := by
  have hx1 := hx Sc Sm hR
  refine z_aload_n 1 dL_law_2242 rfl rfl ?_
  refine z_callVI (ci := 10) (st := []) (w_X10_today (hsim Sc Sm hR)) hx1.1.1 hx1.1.2 (Nat.le_of_ble_eq_true rfl) rfl zw_373 zw_370 zw_371 zw_372 zw_63 zy_X10_today rfl rfl ⟨Nat.le_of_ble_eq_true rfl, Nat.le_of_ble_eq_true rfl⟩ ⟨Nat.le_trans (Nat.le_add_right _ _) hk, Nat.le_trans (Nat.le_add_right _ _) hn⟩ (Nat.le_of_ble_eq_true rfl) dL_law_2243 (fun _ _ hx => hx.elim) (fun r9 S1 h => ?_)
  refine z_widen (k' := k + 16) (n' := n + 480) (Nat.le_add_right _ _) (Nat.le_add_right _ _) ?_
  refine z_rot ?_
  refine z_aload_n 2 dL_law_2246 rfl rfl ?_
  refine z_callVI (ci := 11) (st := [.int r9]) (w_X11_today h) hx1.2.1 hx1.2.2 (Nat.le_of_ble_eq_true rfl) rfl zw_1683 zw_1680 zw_1681 zw_1682 zw_74 zy_X11_today rfl rfl ⟨Nat.le_of_ble_eq_true rfl, Nat.le_of_ble_eq_true rfl⟩ ⟨hk, hn⟩ (Nat.le_of_ble_eq_true rfl) dL_law_2247 (fun _ _ hx => hx.elim) (fun b9 S2 h => ?_)
  refine z_widen (k' := k + 16) (n' := n + 480) (Nat.le_refl _) (Nat.le_refl _) ?_
  refine z_rotB ?_
  refine z_icmp_eq 2818 dL_law_2250 (by decide) (fun c1 => ?_) (fun c1 => ?_)
  rotate_left
  · exact absurd h.1 c1
  exact hend f S1 S2 h.2
set_option maxRecDepth 20000 in
set_option maxHeartbeats 4000000 in
theorem lc_dropped {E : zE} {b L x m q ii : Nat} {xs : Nat → Int32} {tb : List ExceptionTableEntry} {RR : zS → zS → Prop} {Q : Option Value → va_W → zS → Prop} {XC : String → va_W → zS → Prop} (hsim : sim_dropped E x m RR) (hx : ∀ Sc Sm, RR Sc Sm → (x ∈ gL Sc ∧ gK Sc x = 10) ∧ (m ∈ gL Sm ∧ gK Sm m = 11)) (hi : ii + 3 < L) (hL : L ≤ 2048) {k n : Nat} (hk : k + 16 ≤ room_1.cells) (hn : n + 480 ≤ room_1.slots) {f : Nat → Int64} {Sc Sm : zS} (hR : RR Sc Sm)
    (hend : ∀ (f1 : Nat → Int64) (S1 S2 : zS), RR S1 S2 → zJ E (RL, cL_law, 7, (some .boolean), false, tb, zScr E b L xs) room_1 Q XC 2818 [(0, .ref b), (1, .ref x), (2, .ref m), (3, .ref q), (4, .int (nI ii))] [] (zPl E S2 ++ [(q, zcl E f1)]) S1 (k + 16) (n + 480)) : zJ E (RL, cL_law, 7, (some .boolean), false, tb, zScr E b L xs) room_1 Q XC 2255 [(0, .ref b), (1, .ref x), (2, .ref m), (3, .ref q), (4, .int (nI ii))] [] (zPl E Sm ++ [(q, zcl E f)]) Sc k n := by
  have hx1 := hx Sc Sm hR
  refine z_aload_n 1 dL_law_2255 rfl rfl ?_
  refine z_callVI (ci := 10) (st := []) (w_X10_dropped (hsim Sc Sm hR)) hx1.1.1 hx1.1.2 (Nat.le_of_ble_eq_true rfl) rfl zw_377 zw_374 zw_375 zw_376 zw_63 zy_X10_dropped rfl rfl ⟨Nat.le_of_ble_eq_true rfl, Nat.le_of_ble_eq_true rfl⟩ ⟨Nat.le_trans (Nat.le_add_right _ _) hk, Nat.le_trans (Nat.le_add_right _ _) hn⟩ (Nat.le_of_ble_eq_true rfl) dL_law_2256 (fun _ _ hx => hx.elim) (fun r9 S1 h => ?_)
  refine z_widen (k' := k + 16) (n' := n + 480) (Nat.le_add_right _ _) (Nat.le_add_right _ _) ?_
  refine z_rot ?_
  refine z_aload_n 2 dL_law_2259 rfl rfl ?_
  refine z_callVI (ci := 11) (st := [.int r9]) (w_X11_dropped h) hx1.2.1 hx1.2.2 (Nat.le_of_ble_eq_true rfl) rfl zw_1687 zw_1684 zw_1685 zw_1686 zw_74 zy_X11_dropped rfl rfl ⟨Nat.le_of_ble_eq_true rfl, Nat.le_of_ble_eq_true rfl⟩ ⟨hk, hn⟩ (Nat.le_of_ble_eq_true rfl) dL_law_2260 (fun _ _ hx => hx.elim) (fun b9 S2 h => ?_)
  refine z_widen (k' := k + 16) (n' := n + 480) (Nat.le_refl _) (Nat.le_refl _) ?_
  refine z_rotB ?_
  refine z_icmp_eq 2818 dL_law_2263 (by decide) (fun c1 => ?_) (fun c1 => ?_)
  rotate_left
  · exact absurd h.1 c1
  exact hend f S1 S2 h.2
set_option maxRecDepth 20000 in
set_option maxHeartbeats 4000000 in
theorem lc_ring {E : zE} {b L x m q ii : Nat} {xs : Nat → Int32} {tb : List ExceptionTableEntry} {RR : zS → zS → Prop} {Q : Option Value → va_W → zS → Prop} {XC : String → va_W → zS → Prop} (hsim : sim_ring E x m RR) (hx : ∀ Sc Sm, RR Sc Sm → (x ∈ gL Sc ∧ gK Sc x = 10) ∧ (m ∈ gL Sm ∧ gK Sm m = 11)) (hi : ii + 3 < L) (hL : L ≤ 2048) {k n : Nat} (hk : k + 16 ≤ room_1.cells) (hn : n + 480 ≤ room_1.slots) {f : Nat → Int64} {Sc Sm : zS} (hR : RR Sc Sm)
    (hend : ∀ (f1 : Nat → Int64) (S1 S2 : zS), RR S1 S2 → zJ E (RL, cL_law, 7, (some .boolean), false, tb, zScr E b L xs) room_1 Q XC 2818 [(0, .ref b), (1, .ref x), (2, .ref m), (3, .ref q), (4, .int (nI ii))] [] (zPl E S2 ++ [(q, zcl E f1)]) S1 (k + 16) (n + 480)) : zJ E (RL, cL_law, 7, (some .boolean), false, tb, zScr E b L xs) room_1 Q XC 2268 [(0, .ref b), (1, .ref x), (2, .ref m), (3, .ref q), (4, .int (nI ii))] [] (zPl E Sm ++ [(q, zcl E f)]) Sc k n := by
  have hx1 := hx Sc Sm hR
  refine z_aload_n 1 dL_law_2268 rfl rfl ?_
  refine z_aload_n 0 dL_law_2269 rfl rfl ?_
  refine z_iload 4 dL_law_2270 rfl ?_
  refine z_iconst (v := 1) dL_law_2272 rfl ?_
  refine z_iadd dL_law_2273 ?_
  refine z_sld (j := ii + 1) rfl (show nI ii + 1 = nI (ii + 1) from nI_add ii 1) (by omega) (by omega) dL_law_2274 ?_
  refine z_aload_n 0 dL_law_2275 rfl rfl ?_
  refine z_iload 4 dL_law_2276 rfl ?_
  refine z_iconst (v := 2) dL_law_2278 rfl ?_
  refine z_iadd dL_law_2279 ?_
  refine z_sld (j := ii + 2) rfl (show nI ii + 2 = nI (ii + 2) from nI_add ii 2) (by omega) (by omega) dL_law_2280 ?_
  refine z_aload_n 0 dL_law_2281 rfl rfl ?_
  refine z_iload 4 dL_law_2282 rfl ?_
  refine z_iconst (v := 3) dL_law_2284 rfl ?_
  refine z_iadd dL_law_2285 ?_
  refine z_sld (j := ii + 3) rfl (show nI ii + 3 = nI (ii + 3) from nI_add ii 3) (by omega) (by omega) dL_law_2286 ?_
  refine z_aload_n 3 dL_law_2287 rfl rfl ?_
  refine z_callX (Y := zPl E Sm) (X1 := [(q, zcl E f)]) (st := []) (w_L_ring (PM := pm_ring E m RR (xs (ii + 1)) (xs (ii + 2)) (xs (ii + 3)) Sm) hx1.1 (hsim Sc Sm hR (xs (ii + 1)) (xs (ii + 2)) (xs (ii + 3)))) zw_1089 zw_1087 zw_1088 zw_62 zy_L_ring rfl rfl ⟨Nat.le_of_ble_eq_true rfl, Nat.le_of_ble_eq_true rfl⟩ ⟨Nat.le_trans (Nat.add_le_add_left (Nat.le_of_ble_eq_true rfl) _) hk, Nat.le_trans (Nat.add_le_add_left (Nat.le_of_ble_eq_true rfl) _) hn⟩ (Nat.le_of_ble_eq_true rfl) dL_law_2288 (fun v X1 S1 h => ?_)
  obtain ⟨k9, r9, f1, rfl, rfl, h0, h⟩ := h
  refine z_widen (k' := k + 16) (n' := n + 480) (Nat.add_le_add_left (Nat.le_of_ble_eq_true rfl) _) (Nat.add_le_add_left (Nat.le_of_ble_eq_true rfl) _) ?_
  refine z_rot ?_
  refine z_istore (lv' := [(5, .int k9), (0, .ref b), (1, .ref x), (2, .ref m), (3, .ref q), (4, .int (nI ii))]) dL_law_2291 (Nat.le_of_ble_eq_true rfl) rfl ?_
  refine z_aload_n 3 dL_law_2293 rfl rfl ?_
  refine z_aload_n 1 dL_law_2294 rfl rfl ?_
  refine z_iload 5 dL_law_2295 rfl ?_
  refine z_iconst (v := 1) dL_law_2297 rfl ?_
  refine z_iadd dL_law_2298 ?_
  refine z_sld (j := ii + 1) rfl (show nI ii + 1 = nI (ii + 1) from nI_add ii 1) (by omega) (by omega) dL_law_2299 ?_
  refine z_aload_n 1 dL_law_2300 rfl rfl ?_
  refine z_iload 5 dL_law_2301 rfl ?_
  refine z_iconst (v := 2) dL_law_2303 rfl ?_
  refine z_iadd dL_law_2304 ?_
  refine z_sld (j := ii + 2) rfl (show nI ii + 2 = nI (ii + 2) from nI_add ii 2) (by omega) (by omega) dL_law_2305 ?_
  refine z_aload_n 1 dL_law_2306 rfl rfl ?_
  refine z_iload 5 dL_law_2307 rfl ?_
  refine z_iconst (v := 3) dL_law_2309 rfl ?_
  refine z_iadd dL_law_2310 ?_
  refine z_sld (j := ii + 3) rfl (show nI ii + 3 = nI (ii + 3) from nI_add ii 3) (by omega) (by omega) dL_law_2311 ?_
  refine z_callVI (ci := 11) (st := []) (w_X11_ring h) hx1.2.1 hx1.2.2 (Nat.le_of_ble_eq_true rfl) rfl zw_1691 zw_1688 zw_1689 zw_1690 zw_74 zy_X11_ring rfl rfl ⟨Nat.le_of_ble_eq_true rfl, Nat.le_of_ble_eq_true rfl⟩ ⟨hk, hn⟩ (Nat.le_of_ble_eq_true rfl) dL_law_2312 (fun _ _ hx => hx.elim) (fun b9 S2 h => ?_)
  refine z_widen (k' := k + 16) (n' := n + 480) (Nat.le_refl _) (Nat.le_refl _) ?_
  refine z_istore (lv' := [(6, .int b9), (5, .int k9), (0, .ref b), (1, .ref x), (2, .ref m), (3, .ref q), (4, .int (nI ii))]) dL_law_2315 (Nat.le_of_ble_eq_true rfl) rfl ?_
  refine z_aload_n 4 dL_law_2317 rfl rfl ?_
  have hx2 := hx S1 S2 h.2.2
  refine z_callVI (ci := 11) (st := []) (w_X11_thrown (Q := fun r S => r = gI S2 1100 m ∧ S2 = S) (X := fun _ _ => False) ⟨hx2.2, rfl, rfl⟩) hx2.2.1 hx2.2.2 (Nat.le_of_ble_eq_true rfl) rfl zw_1428 zw_1425 zw_1426 zw_1427 zw_74 zy_X11_thrown rfl rfl ⟨Nat.le_of_ble_eq_true rfl, Nat.le_of_ble_eq_true rfl⟩ ⟨hk, hn⟩ (Nat.le_of_ble_eq_true rfl) dL_law_2318 (fun _ _ hx => hx.elim) (fun t9 S3 h3 => ?_)
  obtain ⟨rfl, rfl⟩ := h3
  refine z_widen (k' := k + 16) (n' := n + 480) (Nat.le_refl _) (Nat.le_refl _) ?_
  refine z_rotB ?_
  refine z_iload 1 dL_law_2321 rfl ?_
  refine z_icmp_eq 2328 dL_law_2323 (by decide) (fun c1 => ?_) (fun c1 => ?_)
  rotate_left
  · exact absurd h.1 c1
  refine z_iload 1 dL_law_2328 rfl ?_
  refine z_if_ne 2345 dL_law_2330 (by decide) (fun c2 => ?_) (fun c2 => ?_)
  · refine z_goto 2818 dL_law_2345 (by decide) ?_
    refine z_sub [2, 3, 4, 5, 6] (lv' := [(0, .ref b), (1, .ref x), (2, .ref m), (3, .ref q), (4, .int (nI ii))]) rfl ?_
    exact hend f1 S1 S2 h.2.2
  have hv := h0 c2
  have hb9 := h.2.1 c2
  refine z_aload_n 5 dL_law_2333 rfl rfl ?_
  refine z_iconst (v := 0) dL_law_2334 rfl ?_
  refine z_laldX dL_law_2335 ?_
  rw [hv]
  refine z_iload 0 dL_law_2336 rfl ?_
  refine z_i2l dL_law_2338 rfl ?_
  refine z_lcmp dL_law_2339 ?_
  refine z_if_eq 2345 dL_law_2340 (by decide) (fun c4 => ?_) (fun c4 => ?_)
  rotate_left
  · exact absurd (by rw [hb9]; exact zlc _) c4
  refine z_goto 2818 dL_law_2345 (by decide) ?_
  refine z_sub [2, 3, 4, 5, 6] (lv' := [(0, .ref b), (1, .ref x), (2, .ref m), (3, .ref q), (4, .int (nI ii))]) rfl ?_
  exact hend f1 S1 S2 h.2.2
set_option maxRecDepth 20000 in
set_option maxHeartbeats 4000000 in
theorem lc_stand {E : zE} {b L x m q ii : Nat} {xs : Nat → Int32} {tb : List ExceptionTableEntry} {RR : zS → zS → Prop} {Q : Option Value → va_W → zS → Prop} {XC : String → va_W → zS → Prop} (hsim : sim_stand E x m RR) (hx : ∀ Sc Sm, RR Sc Sm → (x ∈ gL Sc ∧ gK Sc x = 10) ∧ (m ∈ gL Sm ∧ gK Sm m = 11)) (hi : ii + 3 < L) (hL : L ≤ 2048) {k n : Nat} (hk : k + 16 ≤ room_1.cells) (hn : n + 480 ≤ room_1.slots) {f : Nat → Int64} {Sc Sm : zS} (hR : RR Sc Sm)
    (hend : ∀ (f1 : Nat → Int64) (S1 S2 : zS), RR S1 S2 → zJ E (RL, cL_law, 7, (some .boolean), false, tb, zScr E b L xs) room_1 Q XC 2818 [(0, .ref b), (1, .ref x), (2, .ref m), (3, .ref q), (4, .int (nI ii))] [] (zPl E S2 ++ [(q, zcl E f1)]) S1 (k + 16) (n + 480)) : zJ E (RL, cL_law, 7, (some .boolean), false, tb, zScr E b L xs) room_1 Q XC 2348 [(0, .ref b), (1, .ref x), (2, .ref m), (3, .ref q), (4, .int (nI ii))] [] (zPl E Sm ++ [(q, zcl E f)]) Sc k n := by
  have hx1 := hx Sc Sm hR
  refine z_aload_n 1 dL_law_2348 rfl rfl ?_
  refine z_aload_n 3 dL_law_2349 rfl rfl ?_
  refine z_callX (Y := zPl E Sm) (X1 := [(q, zcl E f)]) (st := []) (w_L_stand (_u := ()) (PM := pm_stand E m RR Sm) hx1.1 (hsim Sc Sm hR ())) zw_1200 zw_1198 zw_1199 zw_62 zy_L_stand rfl rfl ⟨Nat.le_of_ble_eq_true rfl, Nat.le_of_ble_eq_true rfl⟩ ⟨Nat.le_trans (Nat.add_le_add_left (Nat.le_of_ble_eq_true rfl) _) hk, Nat.le_trans (Nat.add_le_add_left (Nat.le_of_ble_eq_true rfl) _) hn⟩ (Nat.le_of_ble_eq_true rfl) dL_law_2350 (fun v X1 S1 h => ?_)
  obtain ⟨k9, r9, f1, rfl, rfl, h0, h⟩ := h
  refine z_widen (k' := k + 16) (n' := n + 480) (Nat.add_le_add_left (Nat.le_of_ble_eq_true rfl) _) (Nat.add_le_add_left (Nat.le_of_ble_eq_true rfl) _) ?_
  refine z_rot ?_
  refine z_istore (lv' := [(5, .int k9), (0, .ref b), (1, .ref x), (2, .ref m), (3, .ref q), (4, .int (nI ii))]) dL_law_2353 (Nat.le_of_ble_eq_true rfl) rfl ?_
  refine z_aload_n 3 dL_law_2355 rfl rfl ?_
  refine z_callVI (ci := 11) (st := []) (w_X11_stand h) hx1.2.1 hx1.2.2 (Nat.le_of_ble_eq_true rfl) rfl zw_1723 zw_1720 zw_1721 zw_1722 zw_74 zy_X11_stand rfl rfl ⟨Nat.le_of_ble_eq_true rfl, Nat.le_of_ble_eq_true rfl⟩ ⟨hk, hn⟩ (Nat.le_of_ble_eq_true rfl) dL_law_2356 (fun _ _ hx => hx.elim) (fun b9 S2 h => ?_)
  refine z_widen (k' := k + 16) (n' := n + 480) (Nat.le_refl _) (Nat.le_refl _) ?_
  refine z_istore (lv' := [(6, .int b9), (5, .int k9), (0, .ref b), (1, .ref x), (2, .ref m), (3, .ref q), (4, .int (nI ii))]) dL_law_2359 (Nat.le_of_ble_eq_true rfl) rfl ?_
  refine z_aload_n 4 dL_law_2361 rfl rfl ?_
  have hx2 := hx S1 S2 h.2.2
  refine z_callVI (ci := 11) (st := []) (w_X11_thrown (Q := fun r S => r = gI S2 1100 m ∧ S2 = S) (X := fun _ _ => False) ⟨hx2.2, rfl, rfl⟩) hx2.2.1 hx2.2.2 (Nat.le_of_ble_eq_true rfl) rfl zw_1428 zw_1425 zw_1426 zw_1427 zw_74 zy_X11_thrown rfl rfl ⟨Nat.le_of_ble_eq_true rfl, Nat.le_of_ble_eq_true rfl⟩ ⟨hk, hn⟩ (Nat.le_of_ble_eq_true rfl) dL_law_2362 (fun _ _ hx => hx.elim) (fun t9 S3 h3 => ?_)
  obtain ⟨rfl, rfl⟩ := h3
  refine z_widen (k' := k + 16) (n' := n + 480) (Nat.le_refl _) (Nat.le_refl _) ?_
  refine z_rotB ?_
  refine z_iload 1 dL_law_2365 rfl ?_
  refine z_icmp_eq 2372 dL_law_2367 (by decide) (fun c1 => ?_) (fun c1 => ?_)
  rotate_left
  · exact absurd h.1 c1
  refine z_iload 1 dL_law_2372 rfl ?_
  refine z_if_ne 2389 dL_law_2374 (by decide) (fun c2 => ?_) (fun c2 => ?_)
  · refine z_goto 2818 dL_law_2389 (by decide) ?_
    refine z_sub [2, 3, 4, 5, 6] (lv' := [(0, .ref b), (1, .ref x), (2, .ref m), (3, .ref q), (4, .int (nI ii))]) rfl ?_
    exact hend f1 S1 S2 h.2.2
  have hv := h0 c2
  have hb9 := h.2.1 c2
  refine z_aload_n 5 dL_law_2377 rfl rfl ?_
  refine z_iconst (v := 0) dL_law_2378 rfl ?_
  refine z_laldX dL_law_2379 ?_
  rw [hv]
  refine z_iload 0 dL_law_2380 rfl ?_
  refine z_i2l dL_law_2382 rfl ?_
  refine z_lcmp dL_law_2383 ?_
  refine z_if_eq 2389 dL_law_2384 (by decide) (fun c4 => ?_) (fun c4 => ?_)
  rotate_left
  · exact absurd (by rw [hb9]; exact zlc _) c4
  refine z_goto 2818 dL_law_2389 (by decide) ?_
  refine z_sub [2, 3, 4, 5, 6] (lv' := [(0, .ref b), (1, .ref x), (2, .ref m), (3, .ref q), (4, .int (nI ii))]) rfl ?_
  exact hend f1 S1 S2 h.2.2
set_option maxRecDepth 20000 in
set_option maxHeartbeats 4000000 in
theorem lc_isRinging {E : zE} {b L x m q ii : Nat} {xs : Nat → Int32} {tb : List ExceptionTableEntry} {RR : zS → zS → Prop} {Q : Option Value → va_W → zS → Prop} {XC : String → va_W → zS → Prop} (hsim : sim_isRinging E x m RR) (hx : ∀ Sc Sm, RR Sc Sm → (x ∈ gL Sc ∧ gK Sc x = 10) ∧ (m ∈ gL Sm ∧ gK Sm m = 11)) (hi : ii + 3 < L) (hL : L ≤ 2048) {k n : Nat} (hk : k + 16 ≤ room_1.cells) (hn : n + 480 ≤ room_1.slots) {f : Nat → Int64} {Sc Sm : zS} (hR : RR Sc Sm)
    (hend : ∀ (f1 : Nat → Int64) (S1 S2 : zS), RR S1 S2 → zJ E (RL, cL_law, 7, (some .boolean), false, tb, zScr E b L xs) room_1 Q XC 2818 [(0, .ref b), (1, .ref x), (2, .ref m), (3, .ref q), (4, .int (nI ii))] [] (zPl E S2 ++ [(q, zcl E f1)]) S1 (k + 16) (n + 480)) : zJ E (RL, cL_law, 7, (some .boolean), false, tb, zScr E b L xs) room_1 Q XC 2392 [(0, .ref b), (1, .ref x), (2, .ref m), (3, .ref q), (4, .int (nI ii))] [] (zPl E Sm ++ [(q, zcl E f)]) Sc k n := by
  have hx1 := hx Sc Sm hR
  refine z_aload_n 1 dL_law_2392 rfl rfl ?_
  refine z_callVI (ci := 10) (st := []) (w_X10_isRinging (hsim Sc Sm hR)) hx1.1.1 hx1.1.2 (Nat.le_of_ble_eq_true rfl) rfl zw_381 zw_378 zw_379 zw_380 zw_63 zy_X10_isRinging rfl rfl ⟨Nat.le_of_ble_eq_true rfl, Nat.le_of_ble_eq_true rfl⟩ ⟨Nat.le_trans (Nat.le_add_right _ _) hk, Nat.le_trans (Nat.le_add_right _ _) hn⟩ (Nat.le_of_ble_eq_true rfl) dL_law_2393 (fun _ _ hx => hx.elim) (fun r9 S1 h => ?_)
  refine z_widen (k' := k + 16) (n' := n + 480) (Nat.le_add_right _ _) (Nat.le_add_right _ _) ?_
  refine z_rot ?_
  refine z_aload_n 2 dL_law_2396 rfl rfl ?_
  refine z_callVI (ci := 11) (st := [.int r9]) (w_X11_isRinging h) hx1.2.1 hx1.2.2 (Nat.le_of_ble_eq_true rfl) rfl zw_1727 zw_1724 zw_1725 zw_1726 zw_74 zy_X11_isRinging rfl rfl ⟨Nat.le_of_ble_eq_true rfl, Nat.le_of_ble_eq_true rfl⟩ ⟨hk, hn⟩ (Nat.le_of_ble_eq_true rfl) dL_law_2397 (fun _ _ hx => hx.elim) (fun b9 S2 h => ?_)
  refine z_widen (k' := k + 16) (n' := n + 480) (Nat.le_refl _) (Nat.le_refl _) ?_
  refine z_rotB ?_
  refine z_icmp_eq 2818 dL_law_2400 (by decide) (fun c1 => ?_) (fun c1 => ?_)
  rotate_left
  · exact absurd h.1 c1
  exact hend f S1 S2 h.2
set_option maxRecDepth 20000 in
set_option maxHeartbeats 4000000 in
theorem lc_pull {E : zE} {b L x m q ii : Nat} {xs : Nat → Int32} {tb : List ExceptionTableEntry} {RR : zS → zS → Prop} {Q : Option Value → va_W → zS → Prop} {XC : String → va_W → zS → Prop} (hsim : sim_pull E x m RR) (hx : ∀ Sc Sm, RR Sc Sm → (x ∈ gL Sc ∧ gK Sc x = 10) ∧ (m ∈ gL Sm ∧ gK Sm m = 11)) (hi : ii + 3 < L) (hL : L ≤ 2048) {k n : Nat} (hk : k + 16 ≤ room_1.cells) (hn : n + 480 ≤ room_1.slots) {f : Nat → Int64} {Sc Sm : zS} (hR : RR Sc Sm)
    (hend : ∀ (f1 : Nat → Int64) (S1 S2 : zS), RR S1 S2 → zJ E (RL, cL_law, 7, (some .boolean), false, tb, zScr E b L xs) room_1 Q XC 2818 [(0, .ref b), (1, .ref x), (2, .ref m), (3, .ref q), (4, .int (nI ii))] [] (zPl E S2 ++ [(q, zcl E f1)]) S1 (k + 16) (n + 480)) : zJ E (RL, cL_law, 7, (some .boolean), false, tb, zScr E b L xs) room_1 Q XC 2405 [(0, .ref b), (1, .ref x), (2, .ref m), (3, .ref q), (4, .int (nI ii))] [] (zPl E Sm ++ [(q, zcl E f)]) Sc k n := by
  have hx1 := hx Sc Sm hR
  refine z_aload_n 1 dL_law_2405 rfl rfl ?_
  refine z_aload_n 0 dL_law_2406 rfl rfl ?_
  refine z_iload 4 dL_law_2407 rfl ?_
  refine z_iconst (v := 1) dL_law_2409 rfl ?_
  refine z_iadd dL_law_2410 ?_
  refine z_sld (j := ii + 1) rfl (show nI ii + 1 = nI (ii + 1) from nI_add ii 1) (by omega) (by omega) dL_law_2411 ?_
  refine z_aload_n 0 dL_law_2412 rfl rfl ?_
  refine z_iload 4 dL_law_2413 rfl ?_
  refine z_iconst (v := 2) dL_law_2415 rfl ?_
  refine z_iadd dL_law_2416 ?_
  refine z_sld (j := ii + 2) rfl (show nI ii + 2 = nI (ii + 2) from nI_add ii 2) (by omega) (by omega) dL_law_2417 ?_
  refine z_aload_n 3 dL_law_2418 rfl rfl ?_
  refine z_callX (Y := zPl E Sm) (X1 := [(q, zcl E f)]) (st := []) (w_L_pull (PM := pm_pull E m RR (xs (ii + 1)) (xs (ii + 2)) Sm) hx1.1 (hsim Sc Sm hR (xs (ii + 1)) (xs (ii + 2)))) zw_1208 zw_1206 zw_1207 zw_62 zy_L_pull rfl rfl ⟨Nat.le_of_ble_eq_true rfl, Nat.le_of_ble_eq_true rfl⟩ ⟨Nat.le_trans (Nat.add_le_add_left (Nat.le_of_ble_eq_true rfl) _) hk, Nat.le_trans (Nat.add_le_add_left (Nat.le_of_ble_eq_true rfl) _) hn⟩ (Nat.le_of_ble_eq_true rfl) dL_law_2419 (fun v X1 S1 h => ?_)
  obtain ⟨k9, r9, f1, rfl, rfl, h0, h⟩ := h
  refine z_widen (k' := k + 16) (n' := n + 480) (Nat.add_le_add_left (Nat.le_of_ble_eq_true rfl) _) (Nat.add_le_add_left (Nat.le_of_ble_eq_true rfl) _) ?_
  refine z_rot ?_
  refine z_istore (lv' := [(5, .int k9), (0, .ref b), (1, .ref x), (2, .ref m), (3, .ref q), (4, .int (nI ii))]) dL_law_2422 (Nat.le_of_ble_eq_true rfl) rfl ?_
  refine z_aload_n 3 dL_law_2424 rfl rfl ?_
  refine z_aload_n 1 dL_law_2425 rfl rfl ?_
  refine z_iload 5 dL_law_2426 rfl ?_
  refine z_iconst (v := 1) dL_law_2428 rfl ?_
  refine z_iadd dL_law_2429 ?_
  refine z_sld (j := ii + 1) rfl (show nI ii + 1 = nI (ii + 1) from nI_add ii 1) (by omega) (by omega) dL_law_2430 ?_
  refine z_aload_n 1 dL_law_2431 rfl rfl ?_
  refine z_iload 5 dL_law_2432 rfl ?_
  refine z_iconst (v := 2) dL_law_2434 rfl ?_
  refine z_iadd dL_law_2435 ?_
  refine z_sld (j := ii + 2) rfl (show nI ii + 2 = nI (ii + 2) from nI_add ii 2) (by omega) (by omega) dL_law_2436 ?_
  refine z_callVI (ci := 11) (st := []) (w_X11_pull h) hx1.2.1 hx1.2.2 (Nat.le_of_ble_eq_true rfl) rfl zw_1731 zw_1728 zw_1729 zw_1730 zw_74 zy_X11_pull rfl rfl ⟨Nat.le_of_ble_eq_true rfl, Nat.le_of_ble_eq_true rfl⟩ ⟨hk, hn⟩ (Nat.le_of_ble_eq_true rfl) dL_law_2437 (fun _ _ hx => hx.elim) (fun b9 S2 h => ?_)
  refine z_widen (k' := k + 16) (n' := n + 480) (Nat.le_refl _) (Nat.le_refl _) ?_
  refine z_istore (lv' := [(6, .int b9), (5, .int k9), (0, .ref b), (1, .ref x), (2, .ref m), (3, .ref q), (4, .int (nI ii))]) dL_law_2440 (Nat.le_of_ble_eq_true rfl) rfl ?_
  refine z_aload_n 4 dL_law_2442 rfl rfl ?_
  have hx2 := hx S1 S2 h.2.2
  refine z_callVI (ci := 11) (st := []) (w_X11_thrown (Q := fun r S => r = gI S2 1100 m ∧ S2 = S) (X := fun _ _ => False) ⟨hx2.2, rfl, rfl⟩) hx2.2.1 hx2.2.2 (Nat.le_of_ble_eq_true rfl) rfl zw_1428 zw_1425 zw_1426 zw_1427 zw_74 zy_X11_thrown rfl rfl ⟨Nat.le_of_ble_eq_true rfl, Nat.le_of_ble_eq_true rfl⟩ ⟨hk, hn⟩ (Nat.le_of_ble_eq_true rfl) dL_law_2443 (fun _ _ hx => hx.elim) (fun t9 S3 h3 => ?_)
  obtain ⟨rfl, rfl⟩ := h3
  refine z_widen (k' := k + 16) (n' := n + 480) (Nat.le_refl _) (Nat.le_refl _) ?_
  refine z_rotB ?_
  refine z_iload 1 dL_law_2446 rfl ?_
  refine z_icmp_eq 2453 dL_law_2448 (by decide) (fun c1 => ?_) (fun c1 => ?_)
  rotate_left
  · exact absurd h.1 c1
  refine z_iload 1 dL_law_2453 rfl ?_
  refine z_if_ne 2470 dL_law_2455 (by decide) (fun c2 => ?_) (fun c2 => ?_)
  · refine z_goto 2818 dL_law_2470 (by decide) ?_
    refine z_sub [2, 3, 4, 5, 6] (lv' := [(0, .ref b), (1, .ref x), (2, .ref m), (3, .ref q), (4, .int (nI ii))]) rfl ?_
    exact hend f1 S1 S2 h.2.2
  have hv := h0 c2
  have hb9 := h.2.1 c2
  refine z_aload_n 5 dL_law_2458 rfl rfl ?_
  refine z_iconst (v := 0) dL_law_2459 rfl ?_
  refine z_laldX dL_law_2460 ?_
  rw [hv]
  refine z_iload 0 dL_law_2461 rfl ?_
  refine z_i2l dL_law_2463 rfl ?_
  refine z_lcmp dL_law_2464 ?_
  refine z_if_eq 2470 dL_law_2465 (by decide) (fun c4 => ?_) (fun c4 => ?_)
  rotate_left
  · exact absurd (by rw [hb9]; exact zlc _) c4
  refine z_goto 2818 dL_law_2470 (by decide) ?_
  refine z_sub [2, 3, 4, 5, 6] (lv' := [(0, .ref b), (1, .ref x), (2, .ref m), (3, .ref q), (4, .int (nI ii))]) rfl ?_
  exact hend f1 S1 S2 h.2.2
set_option maxRecDepth 20000 in
set_option maxHeartbeats 4000000 in
theorem lc_due {E : zE} {b L x m q ii : Nat} {xs : Nat → Int32} {tb : List ExceptionTableEntry} {RR : zS → zS → Prop} {Q : Option Value → va_W → zS → Prop} {XC : String → va_W → zS → Prop} (hsim : sim_due E x m RR) (hx : ∀ Sc Sm, RR Sc Sm → (x ∈ gL Sc ∧ gK Sc x = 10) ∧ (m ∈ gL Sm ∧ gK Sm m = 11)) (hi : ii + 3 < L) (hL : L ≤ 2048) {k n : Nat} (hk : k + 16 ≤ room_1.cells) (hn : n + 480 ≤ room_1.slots) {f : Nat → Int64} {Sc Sm : zS} (hR : RR Sc Sm)
    (hend : ∀ (f1 : Nat → Int64) (S1 S2 : zS), RR S1 S2 → zJ E (RL, cL_law, 7, (some .boolean), false, tb, zScr E b L xs) room_1 Q XC 2818 [(0, .ref b), (1, .ref x), (2, .ref m), (3, .ref q), (4, .int (nI ii))] [] (zPl E S2 ++ [(q, zcl E f1)]) S1 (k + 16) (n + 480)) : zJ E (RL, cL_law, 7, (some .boolean), false, tb, zScr E b L xs) room_1 Q XC 2473 [(0, .ref b), (1, .ref x), (2, .ref m), (3, .ref q), (4, .int (nI ii))] [] (zPl E Sm ++ [(q, zcl E f)]) Sc k n := by
  have hx1 := hx Sc Sm hR
  refine z_aload_n 1 dL_law_2473 rfl rfl ?_
  refine z_aload_n 0 dL_law_2474 rfl rfl ?_
  refine z_iload 4 dL_law_2475 rfl ?_
  refine z_iconst (v := 1) dL_law_2477 rfl ?_
  refine z_iadd dL_law_2478 ?_
  refine z_sld (j := ii + 1) rfl (show nI ii + 1 = nI (ii + 1) from nI_add ii 1) (by omega) (by omega) dL_law_2479 ?_
  refine z_aload_n 3 dL_law_2480 rfl rfl ?_
  refine z_callX (Y := zPl E Sm) (X1 := [(q, zcl E f)]) (st := []) (w_L_due (PM := pm_due E m RR (xs (ii + 1)) Sm) hx1.1 (hsim Sc Sm hR (xs (ii + 1)))) zw_1259 zw_1257 zw_1258 zw_62 zy_L_due rfl rfl ⟨Nat.le_of_ble_eq_true rfl, Nat.le_of_ble_eq_true rfl⟩ ⟨Nat.le_trans (Nat.add_le_add_left (Nat.le_of_ble_eq_true rfl) _) hk, Nat.le_trans (Nat.add_le_add_left (Nat.le_of_ble_eq_true rfl) _) hn⟩ (Nat.le_of_ble_eq_true rfl) dL_law_2481 (fun v X1 S1 h => ?_)
  obtain ⟨k9, r9, f1, rfl, rfl, h0, h⟩ := h
  refine z_widen (k' := k + 16) (n' := n + 480) (Nat.add_le_add_left (Nat.le_of_ble_eq_true rfl) _) (Nat.add_le_add_left (Nat.le_of_ble_eq_true rfl) _) ?_
  refine z_rot ?_
  refine z_istore (lv' := [(5, .int k9), (0, .ref b), (1, .ref x), (2, .ref m), (3, .ref q), (4, .int (nI ii))]) dL_law_2484 (Nat.le_of_ble_eq_true rfl) rfl ?_
  refine z_aload_n 3 dL_law_2486 rfl rfl ?_
  refine z_aload_n 1 dL_law_2487 rfl rfl ?_
  refine z_iload 5 dL_law_2488 rfl ?_
  refine z_iconst (v := 1) dL_law_2490 rfl ?_
  refine z_iadd dL_law_2491 ?_
  refine z_sld (j := ii + 1) rfl (show nI ii + 1 = nI (ii + 1) from nI_add ii 1) (by omega) (by omega) dL_law_2492 ?_
  refine z_callVI (ci := 11) (st := []) (w_X11_due h) hx1.2.1 hx1.2.2 (Nat.le_of_ble_eq_true rfl) rfl zw_1751 zw_1748 zw_1749 zw_1750 zw_74 zy_X11_due rfl rfl ⟨Nat.le_of_ble_eq_true rfl, Nat.le_of_ble_eq_true rfl⟩ ⟨hk, hn⟩ (Nat.le_of_ble_eq_true rfl) dL_law_2493 (fun _ _ hx => hx.elim) (fun b9 S2 h => ?_)
  refine z_widen (k' := k + 16) (n' := n + 480) (Nat.le_refl _) (Nat.le_refl _) ?_
  refine z_istore (lv' := [(6, .int b9), (5, .int k9), (0, .ref b), (1, .ref x), (2, .ref m), (3, .ref q), (4, .int (nI ii))]) dL_law_2496 (Nat.le_of_ble_eq_true rfl) rfl ?_
  refine z_aload_n 4 dL_law_2498 rfl rfl ?_
  have hx2 := hx S1 S2 h.2.2
  refine z_callVI (ci := 11) (st := []) (w_X11_thrown (Q := fun r S => r = gI S2 1100 m ∧ S2 = S) (X := fun _ _ => False) ⟨hx2.2, rfl, rfl⟩) hx2.2.1 hx2.2.2 (Nat.le_of_ble_eq_true rfl) rfl zw_1428 zw_1425 zw_1426 zw_1427 zw_74 zy_X11_thrown rfl rfl ⟨Nat.le_of_ble_eq_true rfl, Nat.le_of_ble_eq_true rfl⟩ ⟨hk, hn⟩ (Nat.le_of_ble_eq_true rfl) dL_law_2499 (fun _ _ hx => hx.elim) (fun t9 S3 h3 => ?_)
  obtain ⟨rfl, rfl⟩ := h3
  refine z_widen (k' := k + 16) (n' := n + 480) (Nat.le_refl _) (Nat.le_refl _) ?_
  refine z_rotB ?_
  refine z_iload 1 dL_law_2502 rfl ?_
  refine z_icmp_eq 2509 dL_law_2504 (by decide) (fun c1 => ?_) (fun c1 => ?_)
  rotate_left
  · exact absurd h.1 c1
  refine z_iload 1 dL_law_2509 rfl ?_
  refine z_if_ne 2526 dL_law_2511 (by decide) (fun c2 => ?_) (fun c2 => ?_)
  · refine z_goto 2818 dL_law_2526 (by decide) ?_
    refine z_sub [2, 3, 4, 5, 6] (lv' := [(0, .ref b), (1, .ref x), (2, .ref m), (3, .ref q), (4, .int (nI ii))]) rfl ?_
    exact hend f1 S1 S2 h.2.2
  have hv := h0 c2
  have hb9 := h.2.1 c2
  refine z_aload_n 5 dL_law_2514 rfl rfl ?_
  refine z_iconst (v := 0) dL_law_2515 rfl ?_
  refine z_laldX dL_law_2516 ?_
  rw [hv]
  refine z_iload 0 dL_law_2517 rfl ?_
  refine z_i2l dL_law_2519 rfl ?_
  refine z_lcmp dL_law_2520 ?_
  refine z_if_eq 2526 dL_law_2521 (by decide) (fun c4 => ?_) (fun c4 => ?_)
  rotate_left
  · exact absurd (by rw [hb9]; exact zlc _) c4
  refine z_goto 2818 dL_law_2526 (by decide) ?_
  refine z_sub [2, 3, 4, 5, 6] (lv' := [(0, .ref b), (1, .ref x), (2, .ref m), (3, .ref q), (4, .int (nI ii))]) rfl ?_
  exact hend f1 S1 S2 h.2.2
set_option maxRecDepth 20000 in
set_option maxHeartbeats 4000000 in
theorem lc_setPatience {E : zE} {b L x m q ii : Nat} {xs : Nat → Int32} {tb : List ExceptionTableEntry} {RR : zS → zS → Prop} {Q : Option Value → va_W → zS → Prop} {XC : String → va_W → zS → Prop} (hsim : sim_setPatience E x m RR) (hx : ∀ Sc Sm, RR Sc Sm → (x ∈ gL Sc ∧ gK Sc x = 10) ∧ (m ∈ gL Sm ∧ gK Sm m = 11)) (hi : ii + 3 < L) (hL : L ≤ 2048) {k n : Nat} (hk : k + 16 ≤ room_1.cells) (hn : n + 480 ≤ room_1.slots) {f : Nat → Int64} {Sc Sm : zS} (hR : RR Sc Sm)
    (hend : ∀ (f1 : Nat → Int64) (S1 S2 : zS), RR S1 S2 → zJ E (RL, cL_law, 7, (some .boolean), false, tb, zScr E b L xs) room_1 Q XC 2818 [(0, .ref b), (1, .ref x), (2, .ref m), (3, .ref q), (4, .int (nI ii))] [] (zPl E S2 ++ [(q, zcl E f1)]) S1 (k + 16) (n + 480)) : zJ E (RL, cL_law, 7, (some .boolean), false, tb, zScr E b L xs) room_1 Q XC 2529 [(0, .ref b), (1, .ref x), (2, .ref m), (3, .ref q), (4, .int (nI ii))] [] (zPl E Sm ++ [(q, zcl E f)]) Sc k n := by
  have hx1 := hx Sc Sm hR
  refine z_aload_n 1 dL_law_2529 rfl rfl ?_
  refine z_aload_n 0 dL_law_2530 rfl rfl ?_
  refine z_iload 4 dL_law_2531 rfl ?_
  refine z_iconst (v := 1) dL_law_2533 rfl ?_
  refine z_iadd dL_law_2534 ?_
  refine z_sld (j := ii + 1) rfl (show nI ii + 1 = nI (ii + 1) from nI_add ii 1) (by omega) (by omega) dL_law_2535 ?_
  refine z_aload_n 3 dL_law_2536 rfl rfl ?_
  refine z_callX (Y := zPl E Sm) (X1 := [(q, zcl E f)]) (st := []) (w_L_setPatience (PM := pm_setPatience E m RR (xs (ii + 1)) Sm) hx1.1 (hsim Sc Sm hR (xs (ii + 1)))) zw_1266 zw_1264 zw_1265 zw_62 zy_L_setPatience rfl rfl ⟨Nat.le_of_ble_eq_true rfl, Nat.le_of_ble_eq_true rfl⟩ ⟨Nat.le_trans (Nat.add_le_add_left (Nat.le_of_ble_eq_true rfl) _) hk, Nat.le_trans (Nat.add_le_add_left (Nat.le_of_ble_eq_true rfl) _) hn⟩ (Nat.le_of_ble_eq_true rfl) dL_law_2537 (fun v X1 S1 h => ?_)
  obtain ⟨k9, r9, f1, rfl, rfl, h0, h⟩ := h
  refine z_widen (k' := k + 16) (n' := n + 480) (Nat.add_le_add_left (Nat.le_of_ble_eq_true rfl) _) (Nat.add_le_add_left (Nat.le_of_ble_eq_true rfl) _) ?_
  refine z_rot ?_
  refine z_istore (lv' := [(5, .int k9), (0, .ref b), (1, .ref x), (2, .ref m), (3, .ref q), (4, .int (nI ii))]) dL_law_2540 (Nat.le_of_ble_eq_true rfl) rfl ?_
  refine z_aload_n 3 dL_law_2542 rfl rfl ?_
  refine z_aload_n 1 dL_law_2543 rfl rfl ?_
  refine z_iload 5 dL_law_2544 rfl ?_
  refine z_iconst (v := 1) dL_law_2546 rfl ?_
  refine z_iadd dL_law_2547 ?_
  refine z_sld (j := ii + 1) rfl (show nI ii + 1 = nI (ii + 1) from nI_add ii 1) (by omega) (by omega) dL_law_2548 ?_
  refine z_callVI (ci := 11) (st := []) (w_X11_setPatience h) hx1.2.1 hx1.2.2 (Nat.le_of_ble_eq_true rfl) rfl zw_1755 zw_1752 zw_1753 zw_1754 zw_74 zy_X11_setPatience rfl rfl ⟨Nat.le_of_ble_eq_true rfl, Nat.le_of_ble_eq_true rfl⟩ ⟨hk, hn⟩ (Nat.le_of_ble_eq_true rfl) dL_law_2549 (fun _ _ hx => hx.elim) (fun b9 S2 h => ?_)
  refine z_widen (k' := k + 16) (n' := n + 480) (Nat.le_refl _) (Nat.le_refl _) ?_
  refine z_istore (lv' := [(6, .int b9), (5, .int k9), (0, .ref b), (1, .ref x), (2, .ref m), (3, .ref q), (4, .int (nI ii))]) dL_law_2552 (Nat.le_of_ble_eq_true rfl) rfl ?_
  refine z_aload_n 4 dL_law_2554 rfl rfl ?_
  have hx2 := hx S1 S2 h.2.2
  refine z_callVI (ci := 11) (st := []) (w_X11_thrown (Q := fun r S => r = gI S2 1100 m ∧ S2 = S) (X := fun _ _ => False) ⟨hx2.2, rfl, rfl⟩) hx2.2.1 hx2.2.2 (Nat.le_of_ble_eq_true rfl) rfl zw_1428 zw_1425 zw_1426 zw_1427 zw_74 zy_X11_thrown rfl rfl ⟨Nat.le_of_ble_eq_true rfl, Nat.le_of_ble_eq_true rfl⟩ ⟨hk, hn⟩ (Nat.le_of_ble_eq_true rfl) dL_law_2555 (fun _ _ hx => hx.elim) (fun t9 S3 h3 => ?_)
  obtain ⟨rfl, rfl⟩ := h3
  refine z_widen (k' := k + 16) (n' := n + 480) (Nat.le_refl _) (Nat.le_refl _) ?_
  refine z_rotB ?_
  refine z_iload 1 dL_law_2558 rfl ?_
  refine z_icmp_eq 2565 dL_law_2560 (by decide) (fun c1 => ?_) (fun c1 => ?_)
  rotate_left
  · exact absurd h.1 c1
  refine z_iload 1 dL_law_2565 rfl ?_
  refine z_if_ne 2582 dL_law_2567 (by decide) (fun c2 => ?_) (fun c2 => ?_)
  · refine z_goto 2818 dL_law_2582 (by decide) ?_
    refine z_sub [2, 3, 4, 5, 6] (lv' := [(0, .ref b), (1, .ref x), (2, .ref m), (3, .ref q), (4, .int (nI ii))]) rfl ?_
    exact hend f1 S1 S2 h.2.2
  have hv := h0 c2
  have hb9 := h.2.1 c2
  refine z_aload_n 5 dL_law_2570 rfl rfl ?_
  refine z_iconst (v := 0) dL_law_2571 rfl ?_
  refine z_laldX dL_law_2572 ?_
  rw [hv]
  refine z_iload 0 dL_law_2573 rfl ?_
  refine z_i2l dL_law_2575 rfl ?_
  refine z_lcmp dL_law_2576 ?_
  refine z_if_eq 2582 dL_law_2577 (by decide) (fun c4 => ?_) (fun c4 => ?_)
  rotate_left
  · exact absurd (by rw [hb9]; exact zlc _) c4
  refine z_goto 2818 dL_law_2582 (by decide) ?_
  refine z_sub [2, 3, 4, 5, 6] (lv' := [(0, .ref b), (1, .ref x), (2, .ref m), (3, .ref q), (4, .int (nI ii))]) rfl ?_
  exact hend f1 S1 S2 h.2.2
set_option maxRecDepth 20000 in
set_option maxHeartbeats 4000000 in
theorem lc_done {E : zE} {b L x m q ii : Nat} {xs : Nat → Int32} {tb : List ExceptionTableEntry} {RR : zS → zS → Prop} {Q : Option Value → va_W → zS → Prop} {XC : String → va_W → zS → Prop} (hsim : sim_done E x m RR) (hx : ∀ Sc Sm, RR Sc Sm → (x ∈ gL Sc ∧ gK Sc x = 10) ∧ (m ∈ gL Sm ∧ gK Sm m = 11)) (hi : ii + 3 < L) (hL : L ≤ 2048) {k n : Nat} (hk : k + 16 ≤ room_1.cells) (hn : n + 480 ≤ room_1.slots) {f : Nat → Int64} {Sc Sm : zS} (hR : RR Sc Sm)
    (hend : ∀ (f1 : Nat → Int64) (S1 S2 : zS), RR S1 S2 → zJ E (RL, cL_law, 7, (some .boolean), false, tb, zScr E b L xs) room_1 Q XC 2818 [(0, .ref b), (1, .ref x), (2, .ref m), (3, .ref q), (4, .int (nI ii))] [] (zPl E S2 ++ [(q, zcl E f1)]) S1 (k + 16) (n + 480)) : zJ E (RL, cL_law, 7, (some .boolean), false, tb, zScr E b L xs) room_1 Q XC 2585 [(0, .ref b), (1, .ref x), (2, .ref m), (3, .ref q), (4, .int (nI ii))] [] (zPl E Sm ++ [(q, zcl E f)]) Sc k n := by
  have hx1 := hx Sc Sm hR
  refine z_aload_n 1 dL_law_2585 rfl rfl ?_
  refine z_callVI (ci := 10) (st := []) (w_X10_done (hsim Sc Sm hR)) hx1.1.1 hx1.1.2 (Nat.le_of_ble_eq_true rfl) rfl zw_385 zw_382 zw_383 zw_384 zw_63 zy_X10_done rfl rfl ⟨Nat.le_of_ble_eq_true rfl, Nat.le_of_ble_eq_true rfl⟩ ⟨Nat.le_trans (Nat.le_add_right _ _) hk, Nat.le_trans (Nat.le_add_right _ _) hn⟩ (Nat.le_of_ble_eq_true rfl) dL_law_2586 (fun _ _ hx => hx.elim) (fun r9 S1 h => ?_)
  refine z_widen (k' := k + 16) (n' := n + 480) (Nat.le_add_right _ _) (Nat.le_add_right _ _) ?_
  refine z_rot ?_
  refine z_aload_n 2 dL_law_2589 rfl rfl ?_
  refine z_callVI (ci := 11) (st := [.int r9]) (w_X11_done h) hx1.2.1 hx1.2.2 (Nat.le_of_ble_eq_true rfl) rfl zw_1759 zw_1756 zw_1757 zw_1758 zw_74 zy_X11_done rfl rfl ⟨Nat.le_of_ble_eq_true rfl, Nat.le_of_ble_eq_true rfl⟩ ⟨hk, hn⟩ (Nat.le_of_ble_eq_true rfl) dL_law_2590 (fun _ _ hx => hx.elim) (fun b9 S2 h => ?_)
  refine z_widen (k' := k + 16) (n' := n + 480) (Nat.le_refl _) (Nat.le_refl _) ?_
  refine z_rotB ?_
  refine z_icmp_eq 2818 dL_law_2593 (by decide) (fun c1 => ?_) (fun c1 => ?_)
  rotate_left
  · exact absurd h.1 c1
  exact hend f S1 S2 h.2
set_option maxRecDepth 20000 in
set_option maxHeartbeats 4000000 in
theorem lc_delay {E : zE} {b L x m q ii : Nat} {xs : Nat → Int32} {tb : List ExceptionTableEntry} {RR : zS → zS → Prop} {Q : Option Value → va_W → zS → Prop} {XC : String → va_W → zS → Prop} (hsim : sim_delay E x m RR) (hx : ∀ Sc Sm, RR Sc Sm → (x ∈ gL Sc ∧ gK Sc x = 10) ∧ (m ∈ gL Sm ∧ gK Sm m = 11)) (hi : ii + 3 < L) (hL : L ≤ 2048) {k n : Nat} (hk : k + 16 ≤ room_1.cells) (hn : n + 480 ≤ room_1.slots) {f : Nat → Int64} {Sc Sm : zS} (hR : RR Sc Sm)
    (hend : ∀ (f1 : Nat → Int64) (S1 S2 : zS), RR S1 S2 → zJ E (RL, cL_law, 7, (some .boolean), false, tb, zScr E b L xs) room_1 Q XC 2818 [(0, .ref b), (1, .ref x), (2, .ref m), (3, .ref q), (4, .int (nI ii))] [] (zPl E S2 ++ [(q, zcl E f1)]) S1 (k + 16) (n + 480)) : zJ E (RL, cL_law, 7, (some .boolean), false, tb, zScr E b L xs) room_1 Q XC 2598 [(0, .ref b), (1, .ref x), (2, .ref m), (3, .ref q), (4, .int (nI ii))] [] (zPl E Sm ++ [(q, zcl E f)]) Sc k n := by
  have hx1 := hx Sc Sm hR
  refine z_aload_n 1 dL_law_2598 rfl rfl ?_
  refine z_callVI (ci := 10) (st := []) (w_X10_delay (hsim Sc Sm hR)) hx1.1.1 hx1.1.2 (Nat.le_of_ble_eq_true rfl) rfl zw_389 zw_386 zw_387 zw_388 zw_63 zy_X10_delay rfl rfl ⟨Nat.le_of_ble_eq_true rfl, Nat.le_of_ble_eq_true rfl⟩ ⟨Nat.le_trans (Nat.le_add_right _ _) hk, Nat.le_trans (Nat.le_add_right _ _) hn⟩ (Nat.le_of_ble_eq_true rfl) dL_law_2599 (fun _ _ hx => hx.elim) (fun r9 S1 h => ?_)
  refine z_widen (k' := k + 16) (n' := n + 480) (Nat.le_add_right _ _) (Nat.le_add_right _ _) ?_
  refine z_rot ?_
  refine z_aload_n 2 dL_law_2602 rfl rfl ?_
  refine z_callVI (ci := 11) (st := [.int r9]) (w_X11_delay h) hx1.2.1 hx1.2.2 (Nat.le_of_ble_eq_true rfl) rfl zw_1763 zw_1760 zw_1761 zw_1762 zw_74 zy_X11_delay rfl rfl ⟨Nat.le_of_ble_eq_true rfl, Nat.le_of_ble_eq_true rfl⟩ ⟨hk, hn⟩ (Nat.le_of_ble_eq_true rfl) dL_law_2603 (fun _ _ hx => hx.elim) (fun b9 S2 h => ?_)
  refine z_widen (k' := k + 16) (n' := n + 480) (Nat.le_refl _) (Nat.le_refl _) ?_
  refine z_rotB ?_
  refine z_icmp_eq 2818 dL_law_2606 (by decide) (fun c1 => ?_) (fun c1 => ?_)
  rotate_left
  · exact absurd h.1 c1
  exact hend f S1 S2 h.2
set_option maxRecDepth 20000 in
set_option maxHeartbeats 4000000 in
theorem lc_late {E : zE} {b L x m q ii : Nat} {xs : Nat → Int32} {tb : List ExceptionTableEntry} {RR : zS → zS → Prop} {Q : Option Value → va_W → zS → Prop} {XC : String → va_W → zS → Prop} (hsim : sim_late E x m RR) (hx : ∀ Sc Sm, RR Sc Sm → (x ∈ gL Sc ∧ gK Sc x = 10) ∧ (m ∈ gL Sm ∧ gK Sm m = 11)) (hi : ii + 3 < L) (hL : L ≤ 2048) {k n : Nat} (hk : k + 16 ≤ room_1.cells) (hn : n + 480 ≤ room_1.slots) {f : Nat → Int64} {Sc Sm : zS} (hR : RR Sc Sm)
    (hend : ∀ (f1 : Nat → Int64) (S1 S2 : zS), RR S1 S2 → zJ E (RL, cL_law, 7, (some .boolean), false, tb, zScr E b L xs) room_1 Q XC 2818 [(0, .ref b), (1, .ref x), (2, .ref m), (3, .ref q), (4, .int (nI ii))] [] (zPl E S2 ++ [(q, zcl E f1)]) S1 (k + 16) (n + 480)) : zJ E (RL, cL_law, 7, (some .boolean), false, tb, zScr E b L xs) room_1 Q XC 2611 [(0, .ref b), (1, .ref x), (2, .ref m), (3, .ref q), (4, .int (nI ii))] [] (zPl E Sm ++ [(q, zcl E f)]) Sc k n := by
  have hx1 := hx Sc Sm hR
  refine z_aload_n 1 dL_law_2611 rfl rfl ?_
  refine z_aload_n 0 dL_law_2612 rfl rfl ?_
  refine z_iload 4 dL_law_2613 rfl ?_
  refine z_iconst (v := 1) dL_law_2615 rfl ?_
  refine z_iadd dL_law_2616 ?_
  refine z_sld (j := ii + 1) rfl (show nI ii + 1 = nI (ii + 1) from nI_add ii 1) (by omega) (by omega) dL_law_2617 ?_
  refine z_aload_n 3 dL_law_2618 rfl rfl ?_
  refine z_callX (Y := zPl E Sm) (X1 := [(q, zcl E f)]) (st := []) (w_L_late (PM := pm_late E m RR (xs (ii + 1)) Sm) hx1.1 (hsim Sc Sm hR (xs (ii + 1)))) zw_1273 zw_1271 zw_1272 zw_62 zy_L_late rfl rfl ⟨Nat.le_of_ble_eq_true rfl, Nat.le_of_ble_eq_true rfl⟩ ⟨Nat.le_trans (Nat.add_le_add_left (Nat.le_of_ble_eq_true rfl) _) hk, Nat.le_trans (Nat.add_le_add_left (Nat.le_of_ble_eq_true rfl) _) hn⟩ (Nat.le_of_ble_eq_true rfl) dL_law_2619 (fun v X1 S1 h => ?_)
  obtain ⟨k9, r9, f1, rfl, rfl, h0, h⟩ := h
  refine z_widen (k' := k + 16) (n' := n + 480) (Nat.add_le_add_left (Nat.le_of_ble_eq_true rfl) _) (Nat.add_le_add_left (Nat.le_of_ble_eq_true rfl) _) ?_
  refine z_rot ?_
  refine z_istore (lv' := [(5, .int k9), (0, .ref b), (1, .ref x), (2, .ref m), (3, .ref q), (4, .int (nI ii))]) dL_law_2622 (Nat.le_of_ble_eq_true rfl) rfl ?_
  refine z_aload_n 3 dL_law_2624 rfl rfl ?_
  refine z_aload_n 1 dL_law_2625 rfl rfl ?_
  refine z_iload 5 dL_law_2626 rfl ?_
  refine z_iconst (v := 1) dL_law_2628 rfl ?_
  refine z_iadd dL_law_2629 ?_
  refine z_sld (j := ii + 1) rfl (show nI ii + 1 = nI (ii + 1) from nI_add ii 1) (by omega) (by omega) dL_law_2630 ?_
  refine z_callVI (ci := 11) (st := []) (w_X11_late h) hx1.2.1 hx1.2.2 (Nat.le_of_ble_eq_true rfl) rfl zw_1767 zw_1764 zw_1765 zw_1766 zw_74 zy_X11_late rfl rfl ⟨Nat.le_of_ble_eq_true rfl, Nat.le_of_ble_eq_true rfl⟩ ⟨hk, hn⟩ (Nat.le_of_ble_eq_true rfl) dL_law_2631 (fun _ _ hx => hx.elim) (fun b9 S2 h => ?_)
  refine z_widen (k' := k + 16) (n' := n + 480) (Nat.le_refl _) (Nat.le_refl _) ?_
  refine z_istore (lv' := [(6, .int b9), (5, .int k9), (0, .ref b), (1, .ref x), (2, .ref m), (3, .ref q), (4, .int (nI ii))]) dL_law_2634 (Nat.le_of_ble_eq_true rfl) rfl ?_
  refine z_aload_n 4 dL_law_2636 rfl rfl ?_
  have hx2 := hx S1 S2 h.2.2
  refine z_callVI (ci := 11) (st := []) (w_X11_thrown (Q := fun r S => r = gI S2 1100 m ∧ S2 = S) (X := fun _ _ => False) ⟨hx2.2, rfl, rfl⟩) hx2.2.1 hx2.2.2 (Nat.le_of_ble_eq_true rfl) rfl zw_1428 zw_1425 zw_1426 zw_1427 zw_74 zy_X11_thrown rfl rfl ⟨Nat.le_of_ble_eq_true rfl, Nat.le_of_ble_eq_true rfl⟩ ⟨hk, hn⟩ (Nat.le_of_ble_eq_true rfl) dL_law_2637 (fun _ _ hx => hx.elim) (fun t9 S3 h3 => ?_)
  obtain ⟨rfl, rfl⟩ := h3
  refine z_widen (k' := k + 16) (n' := n + 480) (Nat.le_refl _) (Nat.le_refl _) ?_
  refine z_rotB ?_
  refine z_iload 1 dL_law_2640 rfl ?_
  refine z_icmp_eq 2647 dL_law_2642 (by decide) (fun c1 => ?_) (fun c1 => ?_)
  rotate_left
  · exact absurd h.1 c1
  refine z_iload 1 dL_law_2647 rfl ?_
  refine z_if_ne 2664 dL_law_2649 (by decide) (fun c2 => ?_) (fun c2 => ?_)
  · refine z_goto 2818 dL_law_2664 (by decide) ?_
    refine z_sub [2, 3, 4, 5, 6] (lv' := [(0, .ref b), (1, .ref x), (2, .ref m), (3, .ref q), (4, .int (nI ii))]) rfl ?_
    exact hend f1 S1 S2 h.2.2
  have hv := h0 c2
  have hb9 := h.2.1 c2
  refine z_aload_n 5 dL_law_2652 rfl rfl ?_
  refine z_iconst (v := 0) dL_law_2653 rfl ?_
  refine z_laldX dL_law_2654 ?_
  rw [hv]
  refine z_iload 0 dL_law_2655 rfl ?_
  refine z_i2l dL_law_2657 rfl ?_
  refine z_lcmp dL_law_2658 ?_
  refine z_if_eq 2664 dL_law_2659 (by decide) (fun c4 => ?_) (fun c4 => ?_)
  rotate_left
  · exact absurd (by rw [hb9]; exact zlc _) c4
  refine z_goto 2818 dL_law_2664 (by decide) ?_
  refine z_sub [2, 3, 4, 5, 6] (lv' := [(0, .ref b), (1, .ref x), (2, .ref m), (3, .ref q), (4, .int (nI ii))]) rfl ?_
  exact hend f1 S1 S2 h.2.2
set_option maxRecDepth 20000 in
set_option maxHeartbeats 4000000 in
theorem lc_early {E : zE} {b L x m q ii : Nat} {xs : Nat → Int32} {tb : List ExceptionTableEntry} {RR : zS → zS → Prop} {Q : Option Value → va_W → zS → Prop} {XC : String → va_W → zS → Prop} (hsim : sim_early E x m RR) (hx : ∀ Sc Sm, RR Sc Sm → (x ∈ gL Sc ∧ gK Sc x = 10) ∧ (m ∈ gL Sm ∧ gK Sm m = 11)) (hi : ii + 3 < L) (hL : L ≤ 2048) {k n : Nat} (hk : k + 16 ≤ room_1.cells) (hn : n + 480 ≤ room_1.slots) {f : Nat → Int64} {Sc Sm : zS} (hR : RR Sc Sm)
    (hend : ∀ (f1 : Nat → Int64) (S1 S2 : zS), RR S1 S2 → zJ E (RL, cL_law, 7, (some .boolean), false, tb, zScr E b L xs) room_1 Q XC 2818 [(0, .ref b), (1, .ref x), (2, .ref m), (3, .ref q), (4, .int (nI ii))] [] (zPl E S2 ++ [(q, zcl E f1)]) S1 (k + 16) (n + 480)) : zJ E (RL, cL_law, 7, (some .boolean), false, tb, zScr E b L xs) room_1 Q XC 2667 [(0, .ref b), (1, .ref x), (2, .ref m), (3, .ref q), (4, .int (nI ii))] [] (zPl E Sm ++ [(q, zcl E f)]) Sc k n := by
  have hx1 := hx Sc Sm hR
  refine z_aload_n 1 dL_law_2667 rfl rfl ?_
  refine z_aload_n 0 dL_law_2668 rfl rfl ?_
  refine z_iload 4 dL_law_2669 rfl ?_
  refine z_iconst (v := 1) dL_law_2671 rfl ?_
  refine z_iadd dL_law_2672 ?_
  refine z_sld (j := ii + 1) rfl (show nI ii + 1 = nI (ii + 1) from nI_add ii 1) (by omega) (by omega) dL_law_2673 ?_
  refine z_aload_n 3 dL_law_2674 rfl rfl ?_
  refine z_callX (Y := zPl E Sm) (X1 := [(q, zcl E f)]) (st := []) (w_L_early (PM := pm_early E m RR (xs (ii + 1)) Sm) hx1.1 (hsim Sc Sm hR (xs (ii + 1)))) zw_1280 zw_1278 zw_1279 zw_62 zy_L_early rfl rfl ⟨Nat.le_of_ble_eq_true rfl, Nat.le_of_ble_eq_true rfl⟩ ⟨Nat.le_trans (Nat.add_le_add_left (Nat.le_of_ble_eq_true rfl) _) hk, Nat.le_trans (Nat.add_le_add_left (Nat.le_of_ble_eq_true rfl) _) hn⟩ (Nat.le_of_ble_eq_true rfl) dL_law_2675 (fun v X1 S1 h => ?_)
  obtain ⟨k9, r9, f1, rfl, rfl, h0, h⟩ := h
  refine z_widen (k' := k + 16) (n' := n + 480) (Nat.add_le_add_left (Nat.le_of_ble_eq_true rfl) _) (Nat.add_le_add_left (Nat.le_of_ble_eq_true rfl) _) ?_
  refine z_rot ?_
  refine z_istore (lv' := [(5, .int k9), (0, .ref b), (1, .ref x), (2, .ref m), (3, .ref q), (4, .int (nI ii))]) dL_law_2678 (Nat.le_of_ble_eq_true rfl) rfl ?_
  refine z_aload_n 3 dL_law_2680 rfl rfl ?_
  refine z_aload_n 1 dL_law_2681 rfl rfl ?_
  refine z_iload 5 dL_law_2682 rfl ?_
  refine z_iconst (v := 1) dL_law_2684 rfl ?_
  refine z_iadd dL_law_2685 ?_
  refine z_sld (j := ii + 1) rfl (show nI ii + 1 = nI (ii + 1) from nI_add ii 1) (by omega) (by omega) dL_law_2686 ?_
  refine z_callVI (ci := 11) (st := []) (w_X11_early h) hx1.2.1 hx1.2.2 (Nat.le_of_ble_eq_true rfl) rfl zw_1775 zw_1772 zw_1773 zw_1774 zw_74 zy_X11_early rfl rfl ⟨Nat.le_of_ble_eq_true rfl, Nat.le_of_ble_eq_true rfl⟩ ⟨hk, hn⟩ (Nat.le_of_ble_eq_true rfl) dL_law_2687 (fun _ _ hx => hx.elim) (fun b9 S2 h => ?_)
  refine z_widen (k' := k + 16) (n' := n + 480) (Nat.le_refl _) (Nat.le_refl _) ?_
  refine z_istore (lv' := [(6, .int b9), (5, .int k9), (0, .ref b), (1, .ref x), (2, .ref m), (3, .ref q), (4, .int (nI ii))]) dL_law_2690 (Nat.le_of_ble_eq_true rfl) rfl ?_
  refine z_aload_n 4 dL_law_2692 rfl rfl ?_
  have hx2 := hx S1 S2 h.2.2
  refine z_callVI (ci := 11) (st := []) (w_X11_thrown (Q := fun r S => r = gI S2 1100 m ∧ S2 = S) (X := fun _ _ => False) ⟨hx2.2, rfl, rfl⟩) hx2.2.1 hx2.2.2 (Nat.le_of_ble_eq_true rfl) rfl zw_1428 zw_1425 zw_1426 zw_1427 zw_74 zy_X11_thrown rfl rfl ⟨Nat.le_of_ble_eq_true rfl, Nat.le_of_ble_eq_true rfl⟩ ⟨hk, hn⟩ (Nat.le_of_ble_eq_true rfl) dL_law_2693 (fun _ _ hx => hx.elim) (fun t9 S3 h3 => ?_)
  obtain ⟨rfl, rfl⟩ := h3
  refine z_widen (k' := k + 16) (n' := n + 480) (Nat.le_refl _) (Nat.le_refl _) ?_
  refine z_rotB ?_
  refine z_iload 1 dL_law_2696 rfl ?_
  refine z_icmp_eq 2703 dL_law_2698 (by decide) (fun c1 => ?_) (fun c1 => ?_)
  rotate_left
  · exact absurd h.1 c1
  refine z_iload 1 dL_law_2703 rfl ?_
  refine z_if_ne 2720 dL_law_2705 (by decide) (fun c2 => ?_) (fun c2 => ?_)
  · refine z_goto 2818 dL_law_2720 (by decide) ?_
    refine z_sub [2, 3, 4, 5, 6] (lv' := [(0, .ref b), (1, .ref x), (2, .ref m), (3, .ref q), (4, .int (nI ii))]) rfl ?_
    exact hend f1 S1 S2 h.2.2
  have hv := h0 c2
  have hb9 := h.2.1 c2
  refine z_aload_n 5 dL_law_2708 rfl rfl ?_
  refine z_iconst (v := 0) dL_law_2709 rfl ?_
  refine z_laldX dL_law_2710 ?_
  rw [hv]
  refine z_iload 0 dL_law_2711 rfl ?_
  refine z_i2l dL_law_2713 rfl ?_
  refine z_lcmp dL_law_2714 ?_
  refine z_if_eq 2720 dL_law_2715 (by decide) (fun c4 => ?_) (fun c4 => ?_)
  rotate_left
  · exact absurd (by rw [hb9]; exact zlc _) c4
  refine z_goto 2818 dL_law_2720 (by decide) ?_
  refine z_sub [2, 3, 4, 5, 6] (lv' := [(0, .ref b), (1, .ref x), (2, .ref m), (3, .ref q), (4, .int (nI ii))]) rfl ?_
  exact hend f1 S1 S2 h.2.2
set_option maxRecDepth 20000 in
set_option maxHeartbeats 4000000 in
theorem lc_errors {E : zE} {b L x m q ii : Nat} {xs : Nat → Int32} {tb : List ExceptionTableEntry} {RR : zS → zS → Prop} {Q : Option Value → va_W → zS → Prop} {XC : String → va_W → zS → Prop} (hsim : sim_errors E x m RR) (hx : ∀ Sc Sm, RR Sc Sm → (x ∈ gL Sc ∧ gK Sc x = 10) ∧ (m ∈ gL Sm ∧ gK Sm m = 11)) (hi : ii + 3 < L) (hL : L ≤ 2048) {k n : Nat} (hk : k + 16 ≤ room_1.cells) (hn : n + 480 ≤ room_1.slots) {f : Nat → Int64} {Sc Sm : zS} (hR : RR Sc Sm)
    (hend : ∀ (f1 : Nat → Int64) (S1 S2 : zS), RR S1 S2 → zJ E (RL, cL_law, 7, (some .boolean), false, tb, zScr E b L xs) room_1 Q XC 2818 [(0, .ref b), (1, .ref x), (2, .ref m), (3, .ref q), (4, .int (nI ii))] [] (zPl E S2 ++ [(q, zcl E f1)]) S1 (k + 16) (n + 480)) : zJ E (RL, cL_law, 7, (some .boolean), false, tb, zScr E b L xs) room_1 Q XC 2723 [(0, .ref b), (1, .ref x), (2, .ref m), (3, .ref q), (4, .int (nI ii))] [] (zPl E Sm ++ [(q, zcl E f)]) Sc k n := by
  have hx1 := hx Sc Sm hR
  refine z_aload_n 1 dL_law_2723 rfl rfl ?_
  refine z_aload_n 0 dL_law_2724 rfl rfl ?_
  refine z_iload 4 dL_law_2725 rfl ?_
  refine z_iconst (v := 1) dL_law_2727 rfl ?_
  refine z_iadd dL_law_2728 ?_
  refine z_sld (j := ii + 1) rfl (show nI ii + 1 = nI (ii + 1) from nI_add ii 1) (by omega) (by omega) dL_law_2729 ?_
  refine z_aload_n 3 dL_law_2730 rfl rfl ?_
  refine z_callX (Y := zPl E Sm) (X1 := [(q, zcl E f)]) (st := []) (w_L_errors (PM := pm_errors E m RR (xs (ii + 1)) Sm) hx1.1 (hsim Sc Sm hR (xs (ii + 1)))) zw_1287 zw_1285 zw_1286 zw_62 zy_L_errors rfl rfl ⟨Nat.le_of_ble_eq_true rfl, Nat.le_of_ble_eq_true rfl⟩ ⟨Nat.le_trans (Nat.add_le_add_left (Nat.le_of_ble_eq_true rfl) _) hk, Nat.le_trans (Nat.add_le_add_left (Nat.le_of_ble_eq_true rfl) _) hn⟩ (Nat.le_of_ble_eq_true rfl) dL_law_2731 (fun v X1 S1 h => ?_)
  obtain ⟨k9, r9, f1, rfl, rfl, h0, h⟩ := h
  refine z_widen (k' := k + 16) (n' := n + 480) (Nat.add_le_add_left (Nat.le_of_ble_eq_true rfl) _) (Nat.add_le_add_left (Nat.le_of_ble_eq_true rfl) _) ?_
  refine z_rot ?_
  refine z_istore (lv' := [(5, .int k9), (0, .ref b), (1, .ref x), (2, .ref m), (3, .ref q), (4, .int (nI ii))]) dL_law_2734 (Nat.le_of_ble_eq_true rfl) rfl ?_
  refine z_aload_n 3 dL_law_2736 rfl rfl ?_
  refine z_aload_n 1 dL_law_2737 rfl rfl ?_
  refine z_iload 5 dL_law_2738 rfl ?_
  refine z_iconst (v := 1) dL_law_2740 rfl ?_
  refine z_iadd dL_law_2741 ?_
  refine z_sld (j := ii + 1) rfl (show nI ii + 1 = nI (ii + 1) from nI_add ii 1) (by omega) (by omega) dL_law_2742 ?_
  refine z_callVI (ci := 11) (st := []) (w_X11_errors h) hx1.2.1 hx1.2.2 (Nat.le_of_ble_eq_true rfl) rfl zw_1779 zw_1776 zw_1777 zw_1778 zw_74 zy_X11_errors rfl rfl ⟨Nat.le_of_ble_eq_true rfl, Nat.le_of_ble_eq_true rfl⟩ ⟨hk, hn⟩ (Nat.le_of_ble_eq_true rfl) dL_law_2743 (fun _ _ hx => hx.elim) (fun b9 S2 h => ?_)
  refine z_widen (k' := k + 16) (n' := n + 480) (Nat.le_refl _) (Nat.le_refl _) ?_
  refine z_istore (lv' := [(6, .int b9), (5, .int k9), (0, .ref b), (1, .ref x), (2, .ref m), (3, .ref q), (4, .int (nI ii))]) dL_law_2746 (Nat.le_of_ble_eq_true rfl) rfl ?_
  refine z_aload_n 4 dL_law_2748 rfl rfl ?_
  have hx2 := hx S1 S2 h.2.2
  refine z_callVI (ci := 11) (st := []) (w_X11_thrown (Q := fun r S => r = gI S2 1100 m ∧ S2 = S) (X := fun _ _ => False) ⟨hx2.2, rfl, rfl⟩) hx2.2.1 hx2.2.2 (Nat.le_of_ble_eq_true rfl) rfl zw_1428 zw_1425 zw_1426 zw_1427 zw_74 zy_X11_thrown rfl rfl ⟨Nat.le_of_ble_eq_true rfl, Nat.le_of_ble_eq_true rfl⟩ ⟨hk, hn⟩ (Nat.le_of_ble_eq_true rfl) dL_law_2749 (fun _ _ hx => hx.elim) (fun t9 S3 h3 => ?_)
  obtain ⟨rfl, rfl⟩ := h3
  refine z_widen (k' := k + 16) (n' := n + 480) (Nat.le_refl _) (Nat.le_refl _) ?_
  refine z_rotB ?_
  refine z_iload 1 dL_law_2752 rfl ?_
  refine z_icmp_eq 2759 dL_law_2754 (by decide) (fun c1 => ?_) (fun c1 => ?_)
  rotate_left
  · exact absurd h.1 c1
  refine z_iload 1 dL_law_2759 rfl ?_
  refine z_if_ne 2776 dL_law_2761 (by decide) (fun c2 => ?_) (fun c2 => ?_)
  · refine z_goto 2818 dL_law_2776 (by decide) ?_
    refine z_sub [2, 3, 4, 5, 6] (lv' := [(0, .ref b), (1, .ref x), (2, .ref m), (3, .ref q), (4, .int (nI ii))]) rfl ?_
    exact hend f1 S1 S2 h.2.2
  have hv := h0 c2
  have hb9 := h.2.1 c2
  refine z_aload_n 5 dL_law_2764 rfl rfl ?_
  refine z_iconst (v := 0) dL_law_2765 rfl ?_
  refine z_laldX dL_law_2766 ?_
  rw [hv]
  refine z_iload 0 dL_law_2767 rfl ?_
  refine z_i2l dL_law_2769 rfl ?_
  refine z_lcmp dL_law_2770 ?_
  refine z_if_eq 2776 dL_law_2771 (by decide) (fun c4 => ?_) (fun c4 => ?_)
  rotate_left
  · exact absurd (by rw [hb9]; exact zlc _) c4
  refine z_goto 2818 dL_law_2776 (by decide) ?_
  refine z_sub [2, 3, 4, 5, 6] (lv' := [(0, .ref b), (1, .ref x), (2, .ref m), (3, .ref q), (4, .int (nI ii))]) rfl ?_
  exact hend f1 S1 S2 h.2.2
set_option maxRecDepth 20000 in
set_option maxHeartbeats 4000000 in
theorem lc_wrong {E : zE} {b L x m q ii : Nat} {xs : Nat → Int32} {tb : List ExceptionTableEntry} {RR : zS → zS → Prop} {Q : Option Value → va_W → zS → Prop} {XC : String → va_W → zS → Prop} (hsim : sim_wrong E x m RR) (hx : ∀ Sc Sm, RR Sc Sm → (x ∈ gL Sc ∧ gK Sc x = 10) ∧ (m ∈ gL Sm ∧ gK Sm m = 11)) (hi : ii + 3 < L) (hL : L ≤ 2048) {k n : Nat} (hk : k + 16 ≤ room_1.cells) (hn : n + 480 ≤ room_1.slots) {f : Nat → Int64} {Sc Sm : zS} (hR : RR Sc Sm)
    (hend : ∀ (f1 : Nat → Int64) (S1 S2 : zS), RR S1 S2 → zJ E (RL, cL_law, 7, (some .boolean), false, tb, zScr E b L xs) room_1 Q XC 2818 [(0, .ref b), (1, .ref x), (2, .ref m), (3, .ref q), (4, .int (nI ii))] [] (zPl E S2 ++ [(q, zcl E f1)]) S1 (k + 16) (n + 480)) : zJ E (RL, cL_law, 7, (some .boolean), false, tb, zScr E b L xs) room_1 Q XC 2779 [(0, .ref b), (1, .ref x), (2, .ref m), (3, .ref q), (4, .int (nI ii))] [] (zPl E Sm ++ [(q, zcl E f)]) Sc k n := by
  have hx1 := hx Sc Sm hR
  refine z_aload_n 1 dL_law_2779 rfl rfl ?_
  refine z_callVI (ci := 10) (st := []) (w_X10_wrong (hsim Sc Sm hR)) hx1.1.1 hx1.1.2 (Nat.le_of_ble_eq_true rfl) rfl zw_393 zw_390 zw_391 zw_392 zw_63 zy_X10_wrong rfl rfl ⟨Nat.le_of_ble_eq_true rfl, Nat.le_of_ble_eq_true rfl⟩ ⟨Nat.le_trans (Nat.le_add_right _ _) hk, Nat.le_trans (Nat.le_add_right _ _) hn⟩ (Nat.le_of_ble_eq_true rfl) dL_law_2780 (fun _ _ hx => hx.elim) (fun r9 S1 h => ?_)
  refine z_widen (k' := k + 16) (n' := n + 480) (Nat.le_add_right _ _) (Nat.le_add_right _ _) ?_
  refine z_rot ?_
  refine z_aload_n 2 dL_law_2783 rfl rfl ?_
  refine z_callVI (ci := 11) (st := [.int r9]) (w_X11_wrong h) hx1.2.1 hx1.2.2 (Nat.le_of_ble_eq_true rfl) rfl zw_1783 zw_1780 zw_1781 zw_1782 zw_74 zy_X11_wrong rfl rfl ⟨Nat.le_of_ble_eq_true rfl, Nat.le_of_ble_eq_true rfl⟩ ⟨hk, hn⟩ (Nat.le_of_ble_eq_true rfl) dL_law_2784 (fun _ _ hx => hx.elim) (fun b9 S2 h => ?_)
  refine z_widen (k' := k + 16) (n' := n + 480) (Nat.le_refl _) (Nat.le_refl _) ?_
  refine z_rotB ?_
  refine z_icmp_eq 2818 dL_law_2787 (by decide) (fun c1 => ?_) (fun c1 => ?_)
  rotate_left
  · exact absurd h.1 c1
  exact hend f S1 S2 h.2
set_option maxRecDepth 20000 in
set_option maxHeartbeats 4000000 in
theorem lc_rung {E : zE} {b L x m q ii : Nat} {xs : Nat → Int32} {tb : List ExceptionTableEntry} {RR : zS → zS → Prop} {Q : Option Value → va_W → zS → Prop} {XC : String → va_W → zS → Prop} (hsim : sim_rung E x m RR) (hx : ∀ Sc Sm, RR Sc Sm → (x ∈ gL Sc ∧ gK Sc x = 10) ∧ (m ∈ gL Sm ∧ gK Sm m = 11)) (hi : ii + 3 < L) (hL : L ≤ 2048) {k n : Nat} (hk : k + 16 ≤ room_1.cells) (hn : n + 480 ≤ room_1.slots) {f : Nat → Int64} {Sc Sm : zS} (hR : RR Sc Sm)
    (hend : ∀ (f1 : Nat → Int64) (S1 S2 : zS), RR S1 S2 → zJ E (RL, cL_law, 7, (some .boolean), false, tb, zScr E b L xs) room_1 Q XC 2818 [(0, .ref b), (1, .ref x), (2, .ref m), (3, .ref q), (4, .int (nI ii))] [] (zPl E S2 ++ [(q, zcl E f1)]) S1 (k + 16) (n + 480)) : zJ E (RL, cL_law, 7, (some .boolean), false, tb, zScr E b L xs) room_1 Q XC 2792 [(0, .ref b), (1, .ref x), (2, .ref m), (3, .ref q), (4, .int (nI ii))] [] (zPl E Sm ++ [(q, zcl E f)]) Sc k n := by
  have hx1 := hx Sc Sm hR
  refine z_aload_n 1 dL_law_2792 rfl rfl ?_
  refine z_callVI (ci := 10) (st := []) (w_X10_rung (hsim Sc Sm hR)) hx1.1.1 hx1.1.2 (Nat.le_of_ble_eq_true rfl) rfl zw_397 zw_394 zw_395 zw_396 zw_63 zy_X10_rung rfl rfl ⟨Nat.le_of_ble_eq_true rfl, Nat.le_of_ble_eq_true rfl⟩ ⟨Nat.le_trans (Nat.le_add_right _ _) hk, Nat.le_trans (Nat.le_add_right _ _) hn⟩ (Nat.le_of_ble_eq_true rfl) dL_law_2793 (fun _ _ hx => hx.elim) (fun r9 S1 h => ?_)
  refine z_widen (k' := k + 16) (n' := n + 480) (Nat.le_add_right _ _) (Nat.le_add_right _ _) ?_
  refine z_rot ?_
  refine z_aload_n 2 dL_law_2796 rfl rfl ?_
  refine z_callVI (ci := 11) (st := [.int r9]) (w_X11_rung h) hx1.2.1 hx1.2.2 (Nat.le_of_ble_eq_true rfl) rfl zw_1787 zw_1784 zw_1785 zw_1786 zw_74 zy_X11_rung rfl rfl ⟨Nat.le_of_ble_eq_true rfl, Nat.le_of_ble_eq_true rfl⟩ ⟨hk, hn⟩ (Nat.le_of_ble_eq_true rfl) dL_law_2797 (fun _ _ hx => hx.elim) (fun b9 S2 h => ?_)
  refine z_widen (k' := k + 16) (n' := n + 480) (Nat.le_refl _) (Nat.le_refl _) ?_
  refine z_rotB ?_
  refine z_icmp_eq 2818 dL_law_2800 (by decide) (fun c1 => ?_) (fun c1 => ?_)
  rotate_left
  · exact absurd h.1 c1
  exact hend f S1 S2 h.2
set_option maxRecDepth 20000 in
set_option maxHeartbeats 4000000 in
theorem lc_latest {E : zE} {b L x m q ii : Nat} {xs : Nat → Int32} {tb : List ExceptionTableEntry} {RR : zS → zS → Prop} {Q : Option Value → va_W → zS → Prop} {XC : String → va_W → zS → Prop} (hsim : sim_latest E x m RR) (hx : ∀ Sc Sm, RR Sc Sm → (x ∈ gL Sc ∧ gK Sc x = 10) ∧ (m ∈ gL Sm ∧ gK Sm m = 11)) (hi : ii + 3 < L) (hL : L ≤ 2048) {k n : Nat} (hk : k + 16 ≤ room_1.cells) (hn : n + 480 ≤ room_1.slots) {f : Nat → Int64} {Sc Sm : zS} (hR : RR Sc Sm)
    (hend : ∀ (f1 : Nat → Int64) (S1 S2 : zS), RR S1 S2 → zJ E (RL, cL_law, 7, (some .boolean), false, tb, zScr E b L xs) room_1 Q XC 2818 [(0, .ref b), (1, .ref x), (2, .ref m), (3, .ref q), (4, .int (nI ii))] [] (zPl E S2 ++ [(q, zcl E f1)]) S1 (k + 16) (n + 480)) : zJ E (RL, cL_law, 7, (some .boolean), false, tb, zScr E b L xs) room_1 Q XC 2805 [(0, .ref b), (1, .ref x), (2, .ref m), (3, .ref q), (4, .int (nI ii))] [] (zPl E Sm ++ [(q, zcl E f)]) Sc k n := by
  have hx1 := hx Sc Sm hR
  refine z_aload_n 1 dL_law_2805 rfl rfl ?_
  refine z_callVI (ci := 10) (st := []) (w_X10_latest (hsim Sc Sm hR)) hx1.1.1 hx1.1.2 (Nat.le_of_ble_eq_true rfl) rfl zw_401 zw_398 zw_399 zw_400 zw_63 zy_X10_latest rfl rfl ⟨Nat.le_of_ble_eq_true rfl, Nat.le_of_ble_eq_true rfl⟩ ⟨Nat.le_trans (Nat.le_add_right _ _) hk, Nat.le_trans (Nat.le_add_right _ _) hn⟩ (Nat.le_of_ble_eq_true rfl) dL_law_2806 (fun _ _ hx => hx.elim) (fun r9 S1 h => ?_)
  refine z_widen (k' := k + 16) (n' := n + 480) (Nat.le_add_right _ _) (Nat.le_add_right _ _) ?_
  refine z_rot ?_
  refine z_aload_n 2 dL_law_2809 rfl rfl ?_
  refine z_callVI (ci := 11) (st := [.int r9]) (w_X11_latest h) hx1.2.1 hx1.2.2 (Nat.le_of_ble_eq_true rfl) rfl zw_1791 zw_1788 zw_1789 zw_1790 zw_74 zy_X11_latest rfl rfl ⟨Nat.le_of_ble_eq_true rfl, Nat.le_of_ble_eq_true rfl⟩ ⟨hk, hn⟩ (Nat.le_of_ble_eq_true rfl) dL_law_2810 (fun _ _ hx => hx.elim) (fun b9 S2 h => ?_)
  refine z_widen (k' := k + 16) (n' := n + 480) (Nat.le_refl _) (Nat.le_refl _) ?_
  refine z_rotB ?_
  refine z_icmp_eq 2818 dL_law_2813 (by decide) (fun c1 => ?_) (fun c1 => ?_)
  rotate_left
  · exact absurd h.1 c1
  exact hend f S1 S2 h.2
