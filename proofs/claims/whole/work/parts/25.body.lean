def zS0 : zS := ([], fun _ => 0, fun _ _ => 0, fun _ _ => none, fun _ => 0, fun _ _ => 0, fun _ _ => none)
def sim_init (E : zE) (RR : Nat → Nat → zS → zS → Prop) : Prop := ∀ x, p_X10_init E x (nO zS0 x 10) (fun Sc => ∀ m, p_X11_init E m (nO zS0 m 11) (fun Sm => RR x m Sc Sm) (fun _ _ => False)) (fun _ _ => False)
section ZB
variable {E : zE} {I : zI} {R : Room} {Q : Option Value → va_W → zS → Prop} {XC : String → va_W → zS → Prop} {pc : Nat} {lv : List (Nat × Value)} {st : List Value} {k n : Nat}
theorem z_open {Sc : zS} (kk : zJ E I R Q XC pc lv st (zPl E Sc) zS0 k n) : zJ E I R Q XC pc lv st [] Sc k n := by
  intro p e s m args below meth c0 H locs ls A C0 K h1 h2 hS hP hD hl
  have e9 : zPl E Sc ++ zPl E zS0 = [] ++ zPl E Sc := List.append_nil _
  exact kk p e s m args below meth c0 H locs ls A C0 K h1 h2 hS (by rw [e9]; exact hP) (by rw [e9]; exact hD) hl
theorem z_flip {o : va_W} {Sc Sm : zS} (kk : zJ E I R Q XC pc lv st (zPl E Sm ++ o) Sc k n) : zJ E I R Q XC pc lv st (zPl E Sc ++ o) Sm k n := by
  intro p e s m args below meth c0 H locs ls A C0 K h1 h2 hS hP hD hl
  obtain ⟨g1, g2⟩ := z_perm hP hD
  rw [← List.append_assoc] at g1 g2
  exact kk p e s m args below meth c0 H locs ls A C0 K h1 h2 hS (va_P.swap g1) (va_D.swap g2) hl
end ZB
set_option maxRecDepth 20000 in
set_option maxHeartbeats 4000000 in
theorem law_body {E : zE} {b L : Nat} {xs : Nat → Int32} {tb : List ExceptionTableEntry} (RR : Nat → Nat → zS → zS → Prop) (hinit : sim_init E RR) (hsim : ∀ x m, SIM E x m (RR x m)) (hx : ∀ x m Sc Sm, RR x m Sc Sm → (x ∈ gL Sc ∧ gK Sc x = 10) ∧ (m ∈ gL Sm ∧ gK Sm m = 11)) (hL : L ≤ 2048) : zJ E (RL, cL_law, 7, (some .boolean), false, tb, zScr E b L xs) room_1 (fun v _ _ => v = some (.int 1)) (fun _ _ _ => False) 0 [(0, .ref b)] [] [] zS0 0 0 := by
  refine z_new (c := 10) (ty0 := tyX10) (Nat.le_of_ble_eq_true rfl) rfl zU_X10 tyX10_ok z0_X10 zw_91 zw_92 zw_63 (Nat.le_of_ble_eq_true rfl) (Nat.le_of_ble_eq_true rfl) dL_law_0 (fun x hx1 => ?_)
  refine z_widen (k' := 1) (n' := 14) (Nat.le_refl _) (Nat.le_refl _) ?_
  refine z_dup dL_law_3 rfl ?_
  refine z_callIV (st := [.ref x]) (w_X10_init (Q := fun Sc => ∀ m, p_X11_init E m (nO zS0 m 11) (fun Sm => RR x m Sc Sm) (fun _ _ => False)) (X := (fun _ _ => False)) (hinit x)) zw_95 zw_93 zw_94 zw_63 rfl zy_X10_init rfl rfl ⟨Nat.le_of_ble_eq_true rfl, Nat.le_of_ble_eq_true rfl⟩ ⟨Nat.le_of_ble_eq_true rfl, Nat.le_of_ble_eq_true rfl⟩ (Nat.le_of_ble_eq_true rfl) dL_law_4 (fun _ _ hx => hx.elim) (fun Sc h => ?_)
  refine z_widen (k' := 172) (n' := 3389) (Nat.le_refl _) (Nat.le_refl _) ?_
  refine z_astore_n (lv' := [(1, .ref x), (0, .ref b)]) dL_law_7 rfl (Nat.le_of_ble_eq_true rfl) rfl ?_
  refine z_open ?_
  refine z_new (c := 11) (ty0 := tyX11) (Nat.le_of_ble_eq_true rfl) rfl zU_X11 tyX11_ok z0_X11 zw_1292 zw_1293 zw_74 (Nat.le_of_ble_eq_true rfl) (Nat.le_of_ble_eq_true rfl) dL_law_8 (fun m hm1 => ?_)
  refine z_widen (k' := 173) (n' := 3431) (Nat.le_refl _) (Nat.le_refl _) ?_
  refine z_dup dL_law_11 rfl ?_
  refine z_callIV (st := [.ref m]) (w_X11_init (h m)) zw_1296 zw_1294 zw_1295 zw_74 rfl zy_X11_init rfl rfl ⟨Nat.le_of_ble_eq_true rfl, Nat.le_of_ble_eq_true rfl⟩ ⟨Nat.le_of_ble_eq_true rfl, Nat.le_of_ble_eq_true rfl⟩ (Nat.le_of_ble_eq_true rfl) dL_law_12 (fun _ _ hx => hx.elim) (fun Sm h => ?_)
  refine z_widen (k' := 195) (n' := 5904) (Nat.le_refl _) (Nat.le_refl _) ?_
  refine z_astore_n (lv' := [(2, .ref m), (1, .ref x), (0, .ref b)]) dL_law_15 rfl (Nat.le_of_ble_eq_true rfl) rfl ?_
  refine z_iconst (v := 1) dL_law_16 rfl ?_
  refine z_newJ rfl zw_1792 (Nat.le_of_ble_eq_true rfl) (Nat.le_of_ble_eq_true rfl) dL_law_17 (fun q => ?_)
  refine z_widen (k' := 196) (n' := 5905) (Nat.le_refl _) (Nat.le_refl _) ?_
  refine z_flip ?_
  refine z_astore_n (lv' := [(3, .ref q), (2, .ref m), (1, .ref x), (0, .ref b)]) dL_law_19 rfl (Nat.le_of_ble_eq_true rfl) rfl ?_
  refine z_iconst (v := 0) dL_law_20 rfl ?_
  refine z_istore (lv' := [(4, .int 0), (3, .ref q), (2, .ref m), (1, .ref x), (0, .ref b)]) dL_law_21 (Nat.le_of_ble_eq_true rfl) rfl ?_
  refine z_sub [4, 3, 2, 1, 0] (lv' := [(0, .ref b), (1, .ref x), (2, .ref m), (3, .ref q), (4, .int (nI 0))]) rfl ?_
  exact law_loop (hsim x m) (hx x m) hL 512 0 196 5905 _ Sc Sm h (by omega) (by omega) (Nat.le_of_ble_eq_true rfl) (Nat.le_of_ble_eq_true rfl)
