/-! numbers of rows, changes of a stage, origins, places -/
def ri_b1 (l : Int32) : Int32 := (l - ((((l).toUInt32 >>> ((1 : Int32).toUInt32 &&& Int32.toUInt32 31)).toInt32) &&& 1431655765))
def ri_b3 (x1 : Int32) : Int32 := ((x1 &&& 858993459) + ((((x1).toUInt32 >>> ((2 : Int32).toUInt32 &&& Int32.toUInt32 31)).toInt32) &&& 858993459))
def ri_b5 (x3 : Int32) : Int32 := ((x3 + (((x3).toUInt32 >>> ((4 : Int32).toUInt32 &&& Int32.toUInt32 31)).toInt32)) &&& 252645135)
def ri_b7 (x5 : Int32) : Int32 := (x5 + (((x5).toUInt32 >>> ((8 : Int32).toUInt32 &&& Int32.toUInt32 31)).toInt32))
def ri_b9 (x7 : Int32) : Int32 := (x7 + (((x7).toUInt32 >>> ((16 : Int32).toUInt32 &&& Int32.toUInt32 31)).toInt32))
theorem ri_bc : ∀ s, s < 64 → ri_b9 (ri_b7 (ri_b5 (ri_b3 (ri_b1 (nI s))))) &&& 63 = nI (ro_pop s) := by decide +kernel
theorem ri_pop : ∀ b, b < 6 → ∀ s, s < 64 → ro_pop (s % 2 ^ b) ≤ b := by decide +kernel
def ro_ct : Nat → Nat → Nat → Nat → Nat
  | 0, _, _, a => a
  | k + 1, n, p, a => if n < p then a else ro_ct k n (p + 1) (a * p)
def ro_org (n r w : Nat) : Nat → Nat → Nat → Nat
  | 0, _, a => a
  | k + 1, p, a => if n ≤ p then a else ro_org n r w k (p + 1) (a ||| (ro_bl r p * 8 ^ ro_bl w p))
def ro_ch (n : Nat) (l : Int32) : Prop := ∃ c, l = nI c ∧ ro_isC n c = true
theorem ro_run_f : ∀ (k c p o : Nat), ro_run k c p o false = false
  | 0, c, p, o => rfl
  | k + 1, c, p, o => by
    unfold ro_run
    split
    · exact ro_run_f k c (p + 1) 0
    · exact ro_run_f k c (p + 1) (o + 1)
theorem ri_rem2 {o : Nat} (h : o < 2 ^ 31) : (nI o - nI o / 2 * 2) = nI (o % 2) := pk_rem (d := 2) h (by decide) (by decide)
theorem ri_0 {x : Nat} (h : x < 2) : (nI x = 0 ↔ x = 0) := by
  have : x = 0 ∨ x = 1 := by omega
  rcases this with rfl | rfl <;> decide
section LG
variable {E : zE} {S : zS} {Q : Int32 → zS → Prop} {X : String → zS → Prop} {n r c : Nat}
theorem w6_bitCount {s : Nat} (hs : s < 64) (k : Q (nI (ro_pop s)) S) : p_J6_bitCount_0f7a4 E (nI s) S Q X := by
  intro x1 h1 x3 h3 x5 h5 x7 h7 x9 h9
  have e1 : x1 = ri_b1 (nI s) := h1
  have e3 : x3 = ri_b3 x1 := h3
  have e5 : x5 = ri_b5 x3 := h5
  have e7 : x7 = ri_b7 x5 := h7
  have e9 : x9 = ri_b9 x7 := h9
  rw [e9, e7, e5, e3, e1, ri_bc s hs]
  exact k
theorem w1_les_L {K : Int32 → Int32 → Int32 → Int32 → Int32 → zS → Prop} {v : Int32} {p : Nat} (hn : n ≤ 6) (hp : p < n) (hr : r < 2 ^ 31) : ∀ (m q a : Nat), q ≤ n → n < q + m → K (nI r) (nI n) v (nI p) (nI (ro_les n r p m q a)) S → p_X11_number_L17 E K Q X m (nI r) (nI n) v (nI p) (nI a) (nI q) S
  | 0, q, a, h1, h2, _ => by omega
  | m + 1, q, a, h1, h2, k => by
    unfold ro_les at k
    refine pk_le n q (fun h => ?_) (fun h => ?_)
    · rw [if_pos h] at k
      exact k
    · rw [if_neg (by omega)] at k
      refine w1_bell hr (by omega) (w1_bell hr (by omega) ?_)
      have b1 := ro_bl_lt r q
      have b2 := ro_bl_lt r p
      refine pk_le (ro_bl r p) (ro_bl r q) (fun h => ?_) (fun h => ?_)
      · rw [if_neg (by omega)] at k
        rw [Int32.add_zero, nI_1]
        exact w1_les_L hn hp hr m (q + 1) a (by omega) (by omega) k
      · rw [if_pos h] at k
        rw [nI_1, nI_1]
        exact w1_les_L hn hp hr m (q + 1) (a + 1) (by omega) (by omega) k
theorem w1_number_L {K : Int32 → zS → Prop} (hn : n ≤ 6) (hr : r < 2 ^ 31) : ∀ (m p v : Nat), p ≤ n → n < p + m → K (nI (ro_num n r m p v)) S → p_X11_number_L4 E K Q X m (nI r) (nI n) (nI v) (nI p) S
  | 0, p, v, h1, h2, _ => by omega
  | m + 1, p, v, h1, h2, k => by
    unfold ro_num at k
    refine pk_le n p (fun h => ?_) (fun h => ?_)
    · rw [if_pos h] at k
      exact k
    · rw [if_neg (by omega)] at k
      refine ⟨7, ?_⟩
      rw [nI_1]
      refine w1_les_L hn h hr 7 (p + 1) 0 (by omega) (by omega) ?_
      rw [pk_sub (by omega), pk_mul, nI_add, nI_1]
      exact w1_number_L hn hr m (p + 1) _ (by omega) (by omega) k
theorem w1_number (hn : n ≤ 6) (hr : r < 2 ^ 31) (k : Q (nI (ro_num n r 7 0 0)) S) : p_X11_number E (nI r) (nI n) S Q X := ⟨7, w1_number_L hn hr 7 0 0 (by omega) (by omega) k⟩
theorem w8_number_L {K : Int32 → zS → Prop} (hn : n ≤ 6) (hr : r < 2 ^ 31) (hb : ∀ p, p < n → ro_bl r p < n) : ∀ (m p s v : Nat), p ≤ n → n < p + m → s < 64 → K (nI (ro_nuc n r m p s v)) S → p_X8_number_L7 E K Q X m (nI r) (nI n) (nI v) (nI s) (nI p) S
  | 0, p, s, v, h1, h2, _, _ => by omega
  | m + 1, p, s, v, h1, h2, h3, k => by
    unfold ro_nuc at k
    refine pk_le n p (fun h => ?_) (fun h => ?_)
    · rw [if_pos h] at k
      exact k
    · rw [if_neg (by omega)] at k
      have b1 := hb p h
      have h4 : (1 : Int32) <<< (nI (ro_bl r p) &&& 31) = nI (2 ^ ro_bl r p) := by
        have h5 : 2 ^ ro_bl r p ≤ 2 ^ 6 := Nat.pow_le_pow_right (by decide) (by omega)
        have := pk_shlN (n := 1) (nI (ro_bl r p) &&& 31) (ro_bl r p) (ri_c _ (by omega)) (by omega)
        rw [Nat.one_mul] at this
        exact this
      have h6 : 0 < 2 ^ ro_bl r p := Nat.two_pow_pos _
      refine w8_bellIn hr (by omega) ?_
      rw [h4, show (nI (2 ^ ro_bl r p) - 1 : Int32) = nI (2 ^ ro_bl r p - 1) from pk_sub (b := 1) (by omega), ri_and, Nat.and_two_pow_sub_one_eq_mod]
      refine w6_bitCount (Nat.lt_of_le_of_lt (Nat.mod_le _ _) h3) ?_
      rw [pk_sub (by omega : p ≤ n), pk_mul, pk_sub (ri_pop _ (by omega) s h3), nI_add, ri_or, nI_1]
      refine w8_number_L hn hr hb m (p + 1) _ _ (by omega) (by omega) ?_ k
      exact Nat.or_lt_two_pow (n := 6) h3 (Nat.pow_lt_pow_right (by decide) (by omega))
theorem w8_number (hn : n ≤ 6) (hr : r < 2 ^ 31) (hb : ∀ p, p < n → ro_bl r p < n) (k : Q (nI (ro_nuc n r 7 0 0 0)) S) : p_X8_number E (nI r) (nI n) S Q X := ⟨7, w8_number_L hn hr hb 7 0 0 0 (by omega) (by omega) (by omega) k⟩
theorem w8_count_L {K : Int32 → zS → Prop} (hn : n ≤ 6) : ∀ (m p a : Nat), p ≤ n + 1 → n + 1 < p + m → K (nI (ro_ct m n p a)) S → p_X8_count_L4 E K Q X m (nI n) (nI a) (nI p) S
  | 0, p, a, h1, h2, _ => by omega
  | m + 1, p, a, h1, h2, k => by
    unfold ro_ct at k
    refine pk_lt n p (fun h => ?_) (fun h => ?_)
    · rw [if_pos h] at k
      exact k
    · rw [if_neg (by omega)] at k
      rw [pk_mul, nI_1]
      exact w8_count_L hn m (p + 1) _ (by omega) (by omega) k
theorem w8_count (hn : n = 4 ∨ n = 5 ∨ n = 6) (k : Q (nI (ro_fac n)) S) : p_X8_count E (nI n) S Q X := by
  refine ⟨7, w8_count_L (by omega) 7 2 1 (by omega) (by omega) ?_⟩
  rcases hn with rfl | rfl | rfl <;> exact k
theorem w1_all (hn : n = 4 ∨ n = 5 ∨ n = 6) (k : Q (nI (ro_fac n)) S) : p_X11_all E (nI n) S Q X := by
  rcases hn with rfl | rfl | rfl
  · exact ⟨fun h => absurd rfl h, fun _ => k⟩
  · exact ⟨fun _ => ⟨fun h => absurd rfl h, fun _ => k⟩, fun h => absurd h (by decide)⟩
  · exact ⟨fun _ => ⟨fun _ => k, fun h => absurd h (by decide)⟩, fun h => absurd h (by decide)⟩
theorem w8_originOf_L {K : Int32 → zS → Prop} {w : Nat} (hn : n ≤ 6) (hr : r < 2 ^ 31) (hw : w < 2 ^ 31) : ∀ (m p a : Nat), p ≤ n → n < p + m → K (nI (ro_org n r w m p a)) S → p_X8_originOf_L5 E K Q X m (nI r) (nI w) (nI n) (nI a) (nI p) S
  | 0, p, a, h1, h2, _ => by omega
  | m + 1, p, a, h1, h2, k => by
    unfold ro_org at k
    refine pk_le n p (fun h => ?_) (fun h => ?_)
    · rw [if_pos h] at k
      exact k
    · rw [if_neg (by omega)] at k
      refine w8_bellIn hr (by omega) (w8_bellIn hw (by omega) ?_)
      have b2 := ro_bl_lt w p
      have e1 := ri_b8 (ro_bl_lt r p) (p := ro_bl w p) (by omega)
      rw [ri_shl (by omega) (by omega), ri_or, nI_1]
      exact w8_originOf_L hn hr hw m (p + 1) _ (by omega) (by omega) k
theorem w8_originOf {w : Nat} (hn : n ≤ 6) (hr : r < 2 ^ 31) (hw : w < 2 ^ 31) (k : Q (nI (ro_org n r w 7 0 0)) S) : p_X8_originOf E (nI r) (nI w) (nI n) S Q X := ⟨7, w8_originOf_L hn hr hw 7 0 0 (by omega) (by omega) k⟩
theorem w8_placeOf_L {K : Int32 → zS → Prop} {K2 : zS → Prop} {b p0 : Nat} (hn : n ≤ 6) (hr : r < 2 ^ 31) (h0 : p0 < n) (h4 : ro_bl r p0 = b) (h5 : ∀ q, q < p0 → ro_bl r q ≠ b) (k : K (nI p0) S) : ∀ (m p : Nat), p ≤ p0 → n < p + m → p_X8_placeOf_L2 E K K2 Q X m (nI r) (nI b) (nI n) (nI p) S
  | 0, p, h1, h2 => by omega
  | m + 1, p, h1, h2 => by
    have b1 := ro_bl_lt r p
    have b2 := ro_bl_lt r p0
    refine pk_le n p (fun h => by omega) (fun h => w8_bellIn hr (by omega) ⟨fun h6 => ?_, fun h6 => ?_⟩)
    · rw [nI_1]
      refine w8_placeOf_L hn hr h0 h4 h5 k m (p + 1) ?_ (by omega)
      by_cases e : p = p0
      · subst e
        exact absurd (congrArg nI h4) h6
      · omega
    · have h7 := (nI_eq (by omega) (by omega)).mp h6
      by_cases e : p = p0
      · rw [e]
        exact k
      · exact absurd h7 (h5 p (by omega))
theorem w8_placeOf {b p0 : Nat} (hn : n ≤ 6) (hr : r < 2 ^ 31) (h0 : p0 < n) (h4 : ro_bl r p0 = b) (h5 : ∀ q, q < p0 → ro_bl r q ≠ b) (k : Q (nI p0) S) : p_X8_placeOf E (nI r) (nI b) (nI n) S Q X := ⟨7, w8_placeOf_L hn hr h0 h4 h5 k 7 0 (by omega) (by omega)⟩
theorem w1_placeIn_L {K : Int32 → zS → Prop} {b p0 : Nat} (hr : r < 2 ^ 31) (h0 : p0 < 6) (h4 : ro_bl r p0 = b) (h5 : ∀ q, q < p0 → ro_bl r q ≠ b) (k : K (nI p0) S) : ∀ (m p : Nat), p ≤ p0 → p0 < p + m → p_X11_placeIn_L2 E K Q X m (nI r) (nI b) (nI p) S
  | 0, p, h1, h2 => by omega
  | m + 1, p, h1, h2 => by
    have b1 := ro_bl_lt r p
    have b2 := ro_bl_lt r p0
    refine w1_bell hr (by omega) ⟨fun h6 => ?_, fun h6 => ?_⟩
    · have h7 := (nI_eq (by omega) (by omega)).mp h6
      by_cases e : p = p0
      · rw [e]
        exact k
      · exact absurd h7 (h5 p (by omega))
    · rw [nI_1]
      refine w1_placeIn_L hr h0 h4 h5 k m (p + 1) ?_ (by omega)
      by_cases e : p = p0
      · subst e
        exact absurd (congrArg nI h4) h6
      · omega
theorem w1_placeIn {b p0 a : Nat} (hr : r < 2 ^ 31) (h0 : p0 < 6) (h4 : ro_bl r p0 = b) (h5 : ∀ q, q < p0 → ro_bl r q ≠ b) (k : Q (nI p0) S) : p_X11_placeIn E a (nI r) (nI b) S Q X := ⟨7, w1_placeIn_L hr h0 h4 h5 k 7 0 (by omega) (by omega)⟩
/-! is it a change -/
theorem ri_2n (hn : n ≤ 6) : (1 : Int32) <<< (nI n &&& 31) = nI (2 ^ n) := by
  have h5 : 2 ^ n ≤ 2 ^ 6 := Nat.pow_le_pow_right (by decide) hn
  have := pk_shlN (n := 1) (nI n &&& 31) n (ri_c _ (by omega)) (by omega)
  rw [Nat.one_mul] at this
  exact this
theorem w8_isChange_L {K0 : zS → Prop} {K : Int32 → zS → Prop} (hn : n ≤ 6) (hc : c < 2 ^ 31) : ∀ (m p o o2 : Nat), p ≤ n → n < p + m → o2 % 2 = o % 2 → o2 ≤ p →
    (ro_run (n - p) c p o true = false → K0 S) → (∀ x, x ≤ n → (x % 2 == 0) = ro_run (n - p) c p o true → K (nI x) S) → p_X8_isChange_L22 E K0 K Q X m (nI c) (nI n) (nI o2) (nI p) S
  | 0, p, o, o2, h1, h2, _, _, _, _ => by omega
  | m + 1, p, o, o2, h1, h2, h3, h4, k0, k => by
    refine pk_le n p (fun h => ?_) (fun h => ?_)
    · refine k o2 (by omega) ?_
      rw [show n - p = 0 by omega]
      show _ = (true && o % 2 == 0)
      rw [h3]
      rfl
    · have e : n - p = (n - (p + 1)) + 1 := by omega
      rw [e] at k0 k
      unfold ro_run at k0 k
      refine w8_isMade hc (by omega) (fun hb => ?_) (fun hb => ?_)
      · simp only [if_neg hb] at k0 k
        refine ⟨fun h9 => absurd rfl h9, fun _ => ?_⟩
        rw [nI_1, nI_1]
        exact w8_isChange_L hn hc m (p + 1) (o + 1) (o2 + 1) (by omega) (by omega) (by omega) (by omega) k0 k
      · simp only [if_pos hb] at k0 k
        refine ⟨fun _ => ?_, fun h9 => absurd h9 (by decide)⟩
        rw [ri_rem2 (by omega), ri_0 (Nat.mod_lt _ (by decide)), nI_1]
        constructor
        · intro h8
          have h7 : (true && o % 2 == 0) = true := by
            rw [← h3, h8]
            rfl
          rw [h7] at k0 k
          exact w8_isChange_L hn hc m (p + 1) 0 o2 (by omega) (by omega) (by omega) (by omega) k0 k
        · intro h8
          refine k0 ?_
          have h7 : (true && o % 2 == 0) = false := by
            rw [← h3]
            simp [h8]
          rw [h7]
          exact ro_run_f _ _ _ _
theorem w8_isChange {l : Int32} (hn : n ≤ 6) (k1 : ro_ch n l → Q 1 S) (k0 : ¬ ro_ch n l → Q 0 S) : p_X8_isChange E l (nI n) S Q X := by
  have h5 : 2 ^ n ≤ 2 ^ 6 := Nat.pow_le_pow_right (by decide) hn
  have h6 : 0 < 2 ^ n := Nat.two_pow_pos _
  unfold p_X8_isChange
  rw [ri_2n hn, show (nI (2 ^ n) - 1 : Int32) = nI (2 ^ n - 1) from pk_sub (b := 1) (by omega)]
  refine ⟨fun h => ⟨Or.inl rfl, k0 ?_⟩, fun h => ?_⟩
  · rintro ⟨c, rfl, hc⟩
    unfold ro_isC at hc
    rw [Bool.and_eq_true, decide_eq_true_eq] at hc
    exact nI_pos (by omega) h
  · obtain ⟨c, hc, rfl⟩ := nI_of h
    refine pk_lt c (2 ^ n - 1) (fun h7 => ⟨7, ?_⟩) (fun h7 => ⟨Or.inl rfl, k0 ?_⟩)
    · have e : ro_ch n (nI c) ↔ ro_run n c 0 0 true = true := by
        constructor
        · rintro ⟨d, h8, hd⟩
          unfold ro_isC at hd
          rw [Bool.and_eq_true, decide_eq_true_eq] at hd
          have := (nI_eq hc (by omega)).mp h8
          subst this
          exact hd.2
        · intro h8
          refine ⟨c, rfl, ?_⟩
          unfold ro_isC
          rw [h8, decide_eq_true h7]
          rfl
      refine w8_isChange_L hn hc 7 0 0 0 (by omega) (by omega) rfl (by omega) (fun h8 => ⟨Or.inl rfl, k0 ?_⟩) (fun x hx h8 => ?_)
      · rw [e]
        intro h9
        rw [Nat.sub_zero, h9] at h8
        exact absurd h8 (by decide)
      · rw [ri_rem2 (by omega), ri_0 (Nat.mod_lt _ (by decide))]
        rw [Nat.sub_zero] at h8
        refine ⟨fun h9 => ⟨Or.inl rfl, k0 ?_⟩, fun h9 => ⟨Or.inr rfl, k1 ?_⟩⟩
        · rw [e, ← h8]
          simpa using h9
        · rw [e, ← h8]
          simpa using h9
    · rintro ⟨d, h8, hd⟩
      unfold ro_isC at hd
      rw [Bool.and_eq_true, decide_eq_true_eq] at hd
      have := (nI_eq hc (by omega)).mp h8
      omega
end LG
