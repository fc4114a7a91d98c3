/-! the row that leads from one row to another -/
theorem ro_bl_bit (x q j : Nat) : (ro_bl x q).testBit j = (decide (j < 3) && x.testBit (3 * q + j)) := by
  unfold ro_bl
  rw [show (8 : Nat) = 2 ^ 3 from rfl, ← Nat.pow_mul, Nat.testBit_mod_two_pow, Nat.testBit_div_two_pow]
  congr 2
  omega
theorem ro_or {a b q0 q : Nat} (hb : b < 8) (h0 : ro_bl a q0 = 0) : ro_bl (a ||| (b * 8 ^ q0)) q = if q = q0 then b else ro_bl a q := by
  have e8 : b * 8 ^ q0 = b <<< (3 * q0) := by
    rw [Nat.shiftLeft_eq, show (8 : Nat) = 2 ^ 3 from rfl, ← Nat.pow_mul]
  have b3 : ∀ j, 3 ≤ j → b.testBit j = false := fun j hj => Nat.testBit_lt_two_pow (Nat.lt_of_lt_of_le hb (show 8 ≤ 2 ^ j from Nat.le_trans (by decide) (Nat.pow_le_pow_right (by decide) hj)))
  apply Nat.eq_of_testBit_eq
  intro j
  rw [ro_bl_bit, Nat.testBit_or, e8, Nat.testBit_shiftLeft]
  by_cases e : q = q0
  · subst e
    rw [if_pos rfl]
    by_cases hj : j < 3
    · have z : a.testBit (3 * q + j) = false := by
        have := congrArg (fun x => x.testBit j) h0
        simp only [ro_bl_bit, Nat.zero_testBit] at this
        rw [decide_eq_true hj, Bool.true_and] at this
        exact this
      rw [z, decide_eq_true hj, decide_eq_true (show 3 * q + j ≥ 3 * q by omega), show 3 * q + j - 3 * q = j by omega]
      simp
    · rw [decide_eq_false hj, b3 j (by omega)]
      rfl
  · rw [if_neg e, ro_bl_bit]
    by_cases hj : j < 3
    · have z : (decide (3 * q + j ≥ 3 * q0) && b.testBit (3 * q + j - 3 * q0)) = false := by
        by_cases l : q < q0
        · rw [decide_eq_false (by omega)]
          rfl
        · rw [b3 _ (by omega), Bool.and_false]
      rw [z, Bool.or_false]
    · rw [decide_eq_false hj]
      rfl
theorem ro_org_L {n r w : Nat} (hN : ro_N n) (hw : ro_V n w) : ∀ (k p a : Nat), p ≤ n → n < p + k → (∀ p', p ≤ p' → p' < n → ro_bl a (ro_bl w p') = 0) → a < 8 ^ n →
    (∀ p', p ≤ p' → p' < n → ro_bl (ro_org n r w k p a) (ro_bl w p') = ro_bl r p') ∧ (∀ q, (∀ p', p ≤ p' → p' < n → ro_bl w p' ≠ q) → ro_bl (ro_org n r w k p a) q = ro_bl a q) ∧ ro_org n r w k p a < 8 ^ n
  | 0, p, a, h1, h2, h3, h4 => by omega
  | k + 1, p, a, h1, h2, h3, h4 => by
    unfold ro_org
    by_cases e : n ≤ p
    · rw [if_pos e]
      exact ⟨fun p' x y => by omega, fun _ _ => rfl, h4⟩
    · rw [if_neg e]
      have hp : p < n := by omega
      have or := fun q => ro_or (a := a) (q := q) (ro_bl_lt r p) (h3 p (Nat.le_refl _) hp)
      have b1 := hw.2.1 p hp
      have lt : a ||| (ro_bl r p * 8 ^ ro_bl w p) < 8 ^ n := by
        rw [show (8 : Nat) = 2 ^ 3 from rfl, ← Nat.pow_mul, ← Nat.pow_mul] at *
        refine Nat.or_lt_two_pow h4 ?_
        have c : ro_bl r p * 2 ^ (3 * ro_bl w p) < 2 ^ 3 * 2 ^ (3 * ro_bl w p) := Nat.mul_lt_mul_of_pos_right (ro_bl_lt r p) (Nat.pow_pos (by decide))
        rw [← Nat.pow_add] at c
        exact Nat.lt_of_lt_of_le c (Nat.pow_le_pow_right (by decide) (by omega))
      have ih := ro_org_L (r := r) hN hw k (p + 1) (a ||| (ro_bl r p * 8 ^ ro_bl w p)) (by omega) (by omega) (fun p' x y => by
        rw [or, if_neg (fun c => by have := hw.2.2 p' p y hp c; omega)]
        exact h3 p' (by omega) y) lt
      refine ⟨fun p' x y => ?_, fun q hq => ?_, ih.2.2⟩
      · by_cases c : p' = p
        · subst c
          rw [ih.2.1 (ro_bl w p') (fun p2 x2 y2 c => by have := hw.2.2 p2 p' y2 y c; omega), or, if_pos rfl]
        · exact ih.1 p' (by omega) y
      · rw [ih.2.1 q (fun p' x y => hq p' (by omega) y), or, if_neg (fun c => hq p (Nat.le_refl _) hp c.symm)]
theorem ro_pk_mod (x : Nat) : ∀ n, ro_pk (ro_bl x) n = x % 8 ^ n
  | 0 => by rw [Nat.pow_zero, Nat.mod_one]; rfl
  | n + 1 => by
    show ro_pk (ro_bl x) n + 8 ^ n * ro_bl x n = _
    rw [ro_pk_mod x n, Nat.mod_pow_succ]
    rfl
theorem ro_org_V {n r w : Nat} (hN : ro_N n) (hr : ro_V n r) (hw : ro_V n w) : ro_V n (ro_org n r w 7 0 0) ∧ ro_mul n (ro_org n r w 7 0 0) w = r := by
  have n6 := (ro_N6 hN).1
  have z0 : ∀ q, ro_bl 0 q = 0 := fun q => by
    unfold ro_bl
    rw [Nat.zero_div]
  obtain ⟨h1, _, h3⟩ := ro_org_L (r := r) hN hw 7 0 0 (by omega) (by omega) (fun _ _ _ => z0 _) (Nat.pow_pos (by decide))
  have hV : ro_V n (ro_org n r w 7 0 0) := by
    refine ⟨?_, fun q hq => ?_, fun q q' hq hq' e => ?_⟩
    · rw [ro_pk_mod, Nat.mod_eq_of_lt h3]
    · obtain ⟨p, hp, e, _⟩ := ro_place hN hw hq
      rw [← e, h1 p (Nat.zero_le _) hp]
      exact hr.2.1 p hp
    · obtain ⟨p, hp, ep, _⟩ := ro_place hN hw hq
      obtain ⟨p', hp', ep', _⟩ := ro_place hN hw hq'
      rw [← ep, ← ep', h1 p (Nat.zero_le _) hp, h1 p' (Nat.zero_le _) hp'] at e
      rw [← ep, ← ep', hr.2.2 p p' hp hp' e]
  refine ⟨hV, ?_⟩
  have m := ro_V_mul hN hV hw
  refine ro_V_ext m.1 hr (fun p hp => ?_)
  rw [m.2 p hp, h1 p (Nat.zero_le _) hp]
theorem ro_org_u {n r w b : Nat} (hN : ro_N n) (hr : ro_V n r) (hw : ro_V n w) (hb : ro_V n b) (h : ro_mul n b w = r) : b = ro_org n r w 7 0 0 := by
  have o := ro_org_V hN hr hw
  refine ro_V_ext hb o.1 (fun q hq => ?_)
  obtain ⟨p, hp, e, _⟩ := ro_place hN hw hq
  have m1 := (ro_V_mul hN hb hw).2 p hp
  have m2 := (ro_V_mul hN o.1 hw).2 p hp
  rw [h] at m1
  rw [o.2] at m2
  rw [← e, ← m1, ← m2]
theorem ro_ws_mul {n a : Nat} (hN : ro_N n) (ha : ro_V n a) : ∀ (cs : List Nat) (r : Nat), ro_V n r → (∀ c, c ∈ cs → ro_isC n c = true) → ro_ws n (ro_mul n a r) cs = (ro_ws n r cs).map (ro_mul n a)
  | [], r, hr, hc => rfl
  | c :: cs, r, hr, hc => by
    have h1 := hc c List.mem_cons_self
    have e := ro_af_mul hN ha hr h1
    show ro_af n c (ro_mul n a r) :: ro_ws n (ro_af n c (ro_mul n a r)) cs = ro_mul n a (ro_af n c r) :: (ro_ws n (ro_af n c r) cs).map (ro_mul n a)
    rw [e, ro_ws_mul hN ha cs _ (ro_af_V hN hr h1).1 (fun x hx => hc x (List.mem_cons_of_mem _ hx))]
theorem ro_num0 {n : Nat} (hN : ro_N n) : ro_num n (ro_rnd n) 7 0 0 = 0 := by
  rcases hN with rfl | rfl | rfl <;> decide
/-- a false row is one that leads from a row of the plain lead to another -/
theorem z_fl_iff {Z : zZ} {i k : Nat} (hM : z_M Z) (hi : i < Z 3 0) (hk : k < ro_fac (Z 4 i)) : z_fl Z i k = true ↔ k ≠ 0 ∧ ∃ x y, x ∈ z_pr Z i ∧ y ∈ z_pr Z i ∧ ro_num (Z 4 i) (ro_org (Z 4 i) x y 7 0 0) 7 0 0 = k := by
  have hN := (hM.2 i hi).1
  have hc := z_M_lc hM hi (c := 0) (by decide)
  have ov := ro_of_V hN hk
  have pv : ∀ x, x ∈ z_pr Z i → ro_V (Z 4 i) x := ro_ws_V hN _ _ (ro_V_rnd hN).1 hc
  have ew : ro_ws (Z 4 i) (ro_of (Z 4 i) k) (z_lc Z i 0) = (z_pr Z i).map (ro_mul (Z 4 i) (ro_of (Z 4 i) k)) := by
    have := ro_ws_mul hN ov.1 (z_lc Z i 0) (ro_rnd (Z 4 i)) (ro_V_rnd hN).1 hc
    rw [ro_mul_1 hN ov.1] at this
    exact this
  have r0 : (ro_of (Z 4 i) k == ro_rnd (Z 4 i)) = true ↔ k = 0 := by
    rw [beq_iff_eq]
    constructor
    · intro e
      have := ov.2
      rw [e, ro_num0 hN] at this
      exact this.symm
    · intro e
      refine ro_num_inj hN ov.1 (ro_V_rnd hN).1 ?_
      rw [ov.2, ro_num0 hN, e]
  unfold z_fl
  rw [Bool.and_eq_true, ew, Bool.not_eq_true', ← Bool.not_eq_true, r0, List.any_eq_true]
  constructor
  · rintro ⟨⟨x, hx, h⟩, h0⟩
    obtain ⟨y, hy, rfl⟩ := List.mem_map.mp hx
    rw [List.contains_iff_mem] at h
    refine ⟨h0, _, y, h, hy, ?_⟩
    rw [← ro_org_u hN (pv _ h) (pv y hy) ov.1 rfl]
    exact ov.2
  · rintro ⟨h0, x, y, hx, hy, e⟩
    have o := ro_org_V hN (pv x hx) (pv y hy)
    have eb : ro_org (Z 4 i) x y 7 0 0 = ro_of (Z 4 i) k := ro_num_inj hN o.1 ov.1 (e.trans ov.2.symm)
    refine ⟨⟨x, List.mem_map.mpr ⟨y, hy, ?_⟩, List.contains_iff_mem.mpr hx⟩, h0⟩
    rw [← eb]
    exact o.2
theorem ro_cb_c {P P' : Nat → Bool} : ∀ n, (∀ k, k < n → P' k = P k) → ro_cb P' n = ro_cb P n
  | 0, _ => rfl
  | n + 1, h => by
    show ro_cb P' n + _ = ro_cb P n + _
    rw [ro_cb_c n (fun k hk => h k (by omega)), h n (by omega)]
theorem ro_cb_u {P P' : Nat → Bool} {k0 : Nat} (h : ∀ k, k ≠ k0 → P' k = P k) (h0 : P k0 = false) (h1 : P' k0 = true) : ∀ n, ro_cb P' n = ro_cb P n + (if k0 < n then 1 else 0)
  | 0 => rfl
  | n + 1 => by
    show ro_cb P' n + _ = ro_cb P n + _ + _
    rw [ro_cb_u h h0 h1 n]
    by_cases e : n = k0
    · subst e
      rw [h0, h1, if_neg (Nat.lt_irrefl n), if_pos (Nat.lt_succ_self n)]
      rfl
    · rw [h n e]
      by_cases l : k0 < n
      · rw [if_pos l, if_pos (show k0 < n + 1 by omega)]
        omega
      · rw [if_neg l, if_neg (show ¬ k0 < n + 1 by omega)]
        omega
