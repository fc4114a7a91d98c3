/-! the leaves: what the methods on rows answer -/
theorem ri_and (a b : Nat) : nI a &&& nI b = nI (a &&& b) := by
  apply Int32.toBitVec_inj.1
  show BitVec.ofNat 32 a &&& BitVec.ofNat 32 b = BitVec.ofNat 32 (a &&& b)
  apply BitVec.eq_of_getLsbD_eq
  intro i hi
  simp [hi]
theorem ri_or (a b : Nat) : nI a ||| nI b = nI (a ||| b) := by
  apply Int32.toBitVec_inj.1
  show BitVec.ofNat 32 a ||| BitVec.ofNat 32 b = BitVec.ofNat 32 (a ||| b)
  apply BitVec.eq_of_getLsbD_eq
  intro i hi
  simp [hi]
theorem ri_xor (a b : Nat) : nI a ^^^ nI b = nI (a ^^^ b) := by
  apply Int32.toBitVec_inj.1
  show BitVec.ofNat 32 a ^^^ BitVec.ofNat 32 b = BitVec.ofNat 32 (a ^^^ b)
  apply BitVec.eq_of_getLsbD_eq
  intro i hi
  simp [hi]
theorem ri_8 (p : Nat) : 2 ^ (3 * p) = 8 ^ p := by rw [Nat.pow_mul]
theorem ri_sum {a p : Nat} (b : Nat) (h : a < 8 ^ p) : nI a ||| nI (b * 8 ^ p) = nI (a + 8 ^ p * b) := by
  rw [← ri_8] at h
  rw [ri_or, Nat.or_comm, ← ri_8, Nat.mul_comm b, ← Nat.two_pow_add_eq_or_of_lt h, Nat.add_comm]
theorem ri_c : ∀ n, n < 32 → ((nI n &&& 31).toBitVec.smod 32).toNat = n := by decide +kernel
theorem ri_3 (p : Nat) : (3 : Int32) * nI p = nI (3 * p) := pk_mul 3 p
theorem ri_33 (p : Nat) : (3 : Int32) * nI p + 3 = nI (3 * (p + 1)) := by rw [ri_3]; exact nI_add _ 3
theorem ri_bell {r p : Nat} (hr : r < 2 ^ 31) (hp : p < 10) : ((nI r >>> ((3 * nI p) &&& 31)) &&& 7) = nI (ro_bl r p) := by
  have h2 : r / 2 ^ (3 * p) ≤ r := Nat.div_le_self _ _
  rw [ri_3, pk_shrN hr _ (3 * p) (ri_c _ (by omega)), pk_andN (by omega) 3 (by decide), ri_8]
  rfl
theorem ri_shl {b p : Nat} (hp : p < 10) (h : b * 8 ^ p < 2 ^ 32) : nI b <<< ((3 * nI p) &&& 31) = nI (b * 8 ^ p) := by
  rw [ri_3, pk_shlN _ (3 * p) (ri_c _ (by omega)) (by rw [ri_8]; exact h), ri_8]
theorem ri_shl' {b p : Nat} (hp : p < 9) (h : b * 8 ^ (p + 1) < 2 ^ 32) : nI b <<< (((3 * nI p) + 3) &&& 31) = nI (b * 8 ^ (p + 1)) := by
  rw [ri_33, pk_shlN _ (3 * (p + 1)) (ri_c _ (by omega)) (by rw [ri_8]; exact h), ri_8]
theorem ri_bit {c p : Nat} (hc : c < 2 ^ 31) (hp : p < 31) : ((nI c >>> (nI p &&& 31)) &&& 1) = nI (c / 2 ^ p % 2) := by
  have h2 : c / 2 ^ p ≤ c := Nat.div_le_self _ _
  rw [pk_shrN hc _ p (ri_c _ (by omega)), pk_andN (by omega) 1 (by decide)]
theorem ri_is1 {x : Nat} (h : x < 2) : (nI x = 1 ↔ x = 1) := by
  have : x = 0 ∨ x = 1 := by omega
  rcases this with rfl | rfl <;> decide
theorem ri_p8 : ∀ p, p ≤ 7 → 8 ^ p ≤ 2097152 := by decide +kernel
theorem ri_b8 {b p : Nat} (hb : b < 8) (hp : p ≤ 7) : b * 8 ^ p < 2 ^ 31 := by
  have := ri_p8 p hp
  have h2 : b * 8 ^ p ≤ 7 * 8 ^ p := Nat.mul_le_mul_right _ (by omega)
  omega
section LF
variable {E : zE} {S : zS} {Q : Int32 → zS → Prop} {X : String → zS → Prop} {n r c : Nat}
theorem w8_bellIn {p : Nat} (hr : r < 2 ^ 31) (hp : p < 10) (k : Q (nI (ro_bl r p)) S) : p_X8_bellIn E (nI r) (nI p) S Q X := by
  unfold p_X8_bellIn
  rw [ri_bell hr hp]
  exact k
theorem w1_bell {p : Nat} (hr : r < 2 ^ 31) (hp : p < 10) (k : Q (nI (ro_bl r p)) S) : p_X11_bell E (nI r) (nI p) S Q X := by
  unfold p_X11_bell
  rw [ri_bell hr hp]
  exact k
theorem w8_isMade {p : Nat} (hc : c < 2 ^ 31) (hp : p < 31) (k0 : ¬ c / 2 ^ p % 2 = 1 → Q 0 S) (k1 : c / 2 ^ p % 2 = 1 → Q 1 S) : p_X8_isMade E (nI c) (nI p) S Q X := by
  unfold p_X8_isMade
  rw [ri_bit hc hp, ri_is1 (Nat.mod_lt _ (by decide))]
  exact ⟨fun h => ⟨Or.inl rfl, k0 h⟩, fun h => ⟨Or.inr rfl, k1 h⟩⟩
theorem ri_rnd_lt {p : Nat} (hp : p ≤ 7) : ro_pk (fun p => p) p < 8 ^ p := ro_pk_lt (fun q hq => by omega)
theorem w8_rounds_L {K : Int32 → zS → Prop} (hn : n ≤ 6) : ∀ (m p : Nat), p ≤ n → n < p + m → K (nI (ro_rnd n)) S → p_X8_rounds_L4 E K Q X m (nI n) (nI (ro_pk (fun p => p) p)) (nI p) S
  | 0, p, h1, h2, _ => by omega
  | m + 1, p, h1, h2, k => by
    refine pk_le n p (fun h => ?_) (fun h => ?_)
    · have : p = n := by omega
      subst this
      exact k
    · rw [ri_shl (by omega) (by have := ri_b8 (b := p) (p := p) (by omega) (by omega); omega), ri_sum _ (ri_rnd_lt (by omega)), nI_1]
      exact w8_rounds_L hn m (p + 1) (by omega) (by omega) k
theorem w8_rounds (hn : n ≤ 6) (k : Q (nI (ro_rnd n)) S) : p_X8_rounds E (nI n) S Q X := ⟨7, w8_rounds_L hn 7 0 (by omega) (by omega) k⟩
theorem w1_rounds_L {K : Int32 → zS → Prop} (hn : n ≤ 6) : ∀ (m p : Nat), p ≤ n → n < p + m → K (nI (ro_rnd n)) S → p_X11_rounds_L4 E K Q X m (nI n) (nI (ro_pk (fun p => p) p)) (nI p) S
  | 0, p, h1, h2, _ => by omega
  | m + 1, p, h1, h2, k => by
    refine pk_le n p (fun h => ?_) (fun h => ?_)
    · have : p = n := by omega
      subst this
      exact k
    · rw [ri_shl (by omega) (by have := ri_b8 (b := p) (p := p) (by omega) (by omega); omega), ri_sum _ (ri_rnd_lt (by omega)), nI_1]
      exact w1_rounds_L hn m (p + 1) (by omega) (by omega) k
theorem w1_rounds (hn : n ≤ 6) (k : Q (nI (ro_rnd n)) S) : p_X11_rounds E (nI n) S Q X := ⟨7, w1_rounds_L hn 7 0 (by omega) (by omega) k⟩
/-! changes -/
theorem ri_add8 {a p b : Nat} (ha : a < 8 ^ p) (hb : b < 8) : a + 8 ^ p * b < 8 ^ (p + 1) := by
  have : 8 ^ p * b ≤ 8 ^ p * 7 := Nat.mul_le_mul_left _ (by omega)
  rw [Nat.pow_succ]
  omega
theorem w1_changed_L {K : Int32 → zS → Prop} (hn : n ≤ 6) (hr : r < 2 ^ 31) (hc : c < 2 ^ 31) : ∀ (m p a : Nat), p ≤ 7 → a < 8 ^ p → n < p + m ∧ 0 < m → K (nI (ro_chg n c r m p a)) S → p_X11_changed_L5 E K Q X m (nI r) (nI n) (nI c) (nI a) (nI p) S
  | 0, p, a, hp, ha, h2, _ => by omega
  | m + 1, p, a, hp, ha, h2, k => by
    unfold ro_chg at k
    refine pk_le n p (fun h => ?_) (fun h => ?_)
    · rw [if_pos h] at k
      exact k
    · rw [if_neg (by omega)] at k
      rw [ri_bit hc (by omega), ri_is1 (Nat.mod_lt _ (by decide))]
      constructor
      · intro hb
        rw [if_neg hb] at k
        rw [nI_1]
        refine w1_bell hr (by omega) (w1_bell hr (by omega) ?_)
        intro x hx
        subst hx
        have e1 := ri_b8 (ro_bl_lt r (p + 1)) (p := p) (by omega)
        have e2 := ri_b8 (ro_bl_lt r p) (p := p + 1) (by omega)
        have e3 := ri_add8 ha (ro_bl_lt r (p + 1))
        rw [ri_shl (by omega) (by omega), ri_shl' (by omega) (by omega), ← Int32.or_assoc, ri_sum _ ha, ri_sum _ e3, show (nI p + 2 : Int32) = nI (p + 2) from nI_add p 2]
        exact w1_changed_L hn hr hc m (p + 2) _ (by omega) (ri_add8 e3 (ro_bl_lt r p)) (by omega) k
      · intro hb
        rw [if_pos hb] at k
        refine w1_bell hr (by omega) ?_
        have e1 := ri_b8 (ro_bl_lt r p) (p := p) (by omega)
        rw [ri_shl (by omega) (by omega), ri_sum _ ha, nI_1]
        exact w1_changed_L hn hr hc m (p + 1) _ (by omega) (ri_add8 ha (ro_bl_lt r p)) (by omega) k
theorem w1_changed (hn : n ≤ 6) (hr : r < 2 ^ 31) (hc : c < 2 ^ 31) (k : Q (nI (ro_chg n c r 7 0 0)) S) : p_X11_changed E (nI r) (nI n) (nI c) S Q X := ⟨7, w1_changed_L hn hr hc 7 0 0 (by omega) (by decide) (by omega) k⟩
theorem ri_x8 {a b : Nat} (ha : a < 8) (hb : b < 8) : a ^^^ b < 8 := Nat.xor_lt_two_pow (n := 3) ha hb
theorem ri_sw_lt {p : Nat} (hr : r < 2 ^ 31) (hp : p < 6) : ro_sw r p < 2 ^ 31 := by
  have h1 := ri_x8 (ro_bl_lt r p) (ro_bl_lt r (p + 1))
  exact Nat.xor_lt_two_pow (Nat.xor_lt_two_pow hr (ri_b8 h1 (by omega))) (ri_b8 h1 (by omega))
theorem w8_swapped {p : Nat} (hr : r < 2 ^ 31) (hp : p < 6) (k : Q (nI (ro_sw r p)) S) : p_X8_swapped E (nI r) (nI p) S Q X := by
  unfold p_X8_swapped
  rw [nI_1]
  refine w8_bellIn hr (by omega) (w8_bellIn hr (by omega) ?_)
  have h1 := ri_x8 (ro_bl_lt r p) (ro_bl_lt r (p + 1))
  have e1 := ri_b8 h1 (p := p) (by omega)
  have e2 := ri_b8 h1 (p := p + 1) (by omega)
  rw [ri_xor, ri_shl (by omega) (by omega), ri_shl (by omega) (by omega), ri_xor, ri_xor]
  exact k
theorem w8_afterChange_L {K : Int32 → zS → Prop} (hn : n ≤ 6) (hc : c < 2 ^ 31) : ∀ (m p r : Nat), p ≤ 7 → r < 2 ^ 31 → n < p + m ∧ 0 < m → K (nI (ro_aft n c m r p)) S → p_X8_afterChange_L5 E K Q X m (nI c) (nI n) (nI r) (nI p) S
  | 0, p, r, hp, hr, h2, _ => by omega
  | m + 1, p, r, hp, hr, h2, k => by
    unfold ro_aft at k
    unfold p_X8_afterChange_L5
    rw [nI_1]
    refine pk_le n (p + 1) (fun h => ?_) (fun h => ?_)
    · rw [if_pos h] at k
      exact k
    · rw [if_neg (by omega)] at k
      refine w8_isMade hc (by omega) (fun hb => ?_) (fun hb => ?_)
      · rw [if_neg hb] at k
        refine ⟨fun _ => w8_swapped hr (by omega) ?_, fun h => absurd rfl h⟩
        rw [show (nI p + 2 : Int32) = nI (p + 2) from nI_add p 2]
        exact w8_afterChange_L hn hc m (p + 2) _ (by omega) (ri_sw_lt hr (by omega)) (by omega) k
      · rw [if_pos hb] at k
        refine ⟨fun h => absurd h (by decide), fun _ => ?_⟩
        exact w8_afterChange_L hn hc m (p + 1) _ (by omega) hr (by omega) k
theorem w8_afterChange (hn : n ≤ 6) (hr : r < 2 ^ 31) (hc : c < 2 ^ 31) (k : Q (nI (ro_aft n c 7 r 0)) S) : p_X8_afterChange E (nI r) (nI c) (nI n) S Q X := ⟨7, w8_afterChange_L hn hc 7 0 r (by omega) hr (by omega) k⟩
end LF
