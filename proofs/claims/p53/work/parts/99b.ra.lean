/-! the law's arrays as naturals: 0 m, 1 t, 2 p, 3 w, 4 b, 5 z, 6 e, 7 x, 8 y, 9 r, 10 g -/
def la_n (k : Nat) : Nat := [3, 4, 61, 12, 6, 4, 12, 6, 48, 16, 26].getD k 0
def la_j (k : Nat) : Bool := k == 0 || k == 8
def la_k (k : Nat) : Nat := if la_j k = true then 17 else 12
def RA (aa : Nat → Nat) (L : zZ) (S : zS) : Prop :=
  (∀ k, k < 11 → (aa k ∈ gL S ∧ gK S (aa k) = la_k k) ∧ gN S (aa k) = la_n k) ∧ (∀ j k, j < 11 → k < 11 → aa j = aa k → j = k) ∧
  (∀ k, k < 11 → la_j k = false → ∀ i, gA S (aa k) i = nI (L k i)) ∧ (∀ k, k < 11 → la_j k = true → ∀ i, gJ S (aa k) i = lN (L k i))
theorem la_n_lt {k : Nat} (h : k < 11) : la_n k < 2 ^ 31 := by
  revert k
  decide +kernel
section RAs
variable {aa : Nat → Nat} {L : zZ} {S : zS}
theorem RA.o (h : RA aa L S) (k : Nat) (hk : k < 11 := by decide) {c : Nat} (hc : la_k k = c := by rfl) : aa k ∈ gL S ∧ gK S (aa k) = c := by
  rw [← hc]
  exact (h.1 k hk).1
theorem RA.a (h : RA aa L S) (k i : Nat) (hk : k < 11 := by decide) (hj : la_j k = false := by rfl) : gA S (aa k) i = nI (L k i) := h.2.2.1 k hk hj i
theorem RA.j (h : RA aa L S) (k i : Nat) (hk : k < 11 := by decide) (hj : la_j k = true := by rfl) : gJ S (aa k) i = lN (L k i) := h.2.2.2 k hk hj i
theorem RA.ix (h : RA aa L S) (k i : Nat) {l : Int32} {P : Nat → Prop} (e : l = nI i) (hi : i < la_n k) (p : P i) (hk : k < 11 := by decide) : ∃ j, (l = nI j ∧ j < gN S (aa k) ∧ gN S (aa k) < 2 ^ 31) ∧ P j :=
  ⟨i, ⟨e, by rw [(h.1 k hk).2]; exact hi, by rw [(h.1 k hk).2]; exact la_n_lt hk⟩, p⟩
theorem RA.iz (h : RA aa L S) (k i : Nat) {P : Prop} (p : P) (hi : i < la_n k := by decide) (hk : k < 11 := by decide) : (i < gN S (aa k) ∧ gN S (aa k) < 2 ^ 31) ∧ P :=
  ⟨⟨by rw [(h.1 k hk).2]; exact hi, by rw [(h.1 k hk).2]; exact la_n_lt hk⟩, p⟩
theorem RA.i0 (h : RA aa L S) (k i : Nat) (hi : i < la_n k := by decide) (hk : k < 11 := by decide) : i < gN S (aa k) ∧ gN S (aa k) < 2 ^ 31 :=
  ⟨by rw [(h.1 k hk).2]; exact hi, by rw [(h.1 k hk).2]; exact la_n_lt hk⟩
theorem RA.uA (h : RA aa L S) (k i v : Nat) (hk : k < 11 := by decide) (hj : la_j k = false := by rfl) : RA aa (up L k i v) (sA S (aa k) i (nI v)) := by
  refine ⟨h.1, h.2.1, fun g hg hgj q => ?_, fun g hg hgj q => ?_⟩
  · rw [gA_sA]
    by_cases e : g = k
    · subst e
      by_cases e2 : q = i
      · rw [e2, if_pos ⟨rfl, rfl⟩, up_s]
      · rw [if_neg (fun x => e2 x.2), up_i e2]
        exact h.a g q hg hgj
    · rw [if_neg (fun x => e (h.2.1 g k hg hk x.1)), up_f e]
      exact h.a g q hg hgj
  · have e : g ≠ k := fun x => by
      rw [x, hj] at hgj
      cases hgj
    rw [gJ_sA (fun x => e (h.2.1 g k hg hk x)), up_f e]
    exact h.j g q hg hgj
theorem RA.uJ (h : RA aa L S) (k i v : Nat) (hk : k < 11 := by decide) (hj : la_j k = true := by rfl) : RA aa (up L k i v) (sJ S (aa k) i (lN v)) := by
  refine ⟨h.1, h.2.1, fun g hg hgj q => ?_, fun g hg hgj q => ?_⟩
  · have e : g ≠ k := fun x => by
      rw [x, hj] at hgj
      cases hgj
    rw [gA_sJ (fun x => e (h.2.1 g k hg hk x)), up_f e]
    exact h.a g q hg hgj
  · rw [gJ_sJ]
    by_cases e : g = k
    · subst e
      by_cases e2 : q = i
      · rw [e2, if_pos ⟨rfl, rfl⟩, up_s]
      · rw [if_neg (fun x => e2 x.2), up_i e2]
        exact h.j g q hg hgj
    · rw [if_neg (fun x => e (h.2.1 g k hg hk x.1)), up_f e]
      exact h.j g q hg hgj
theorem RA.wA (h : RA aa L S) (k i v : Nat) {l : Int32} {P : zS → Prop} (e : l = nI v) (p : ∀ S', RA aa (up L k i v) S' → P S') (hk : k < 11 := by decide) (hj : la_j k = false := by rfl) : ∀ S', S' = sA S (aa k) i l → P S' := by
  rintro _ rfl
  rw [e]
  exact p _ (h.uA k i v hk hj)
theorem RA.wJ (h : RA aa L S) (k i v : Nat) {l : Int64} {P : zS → Prop} (e : l = lN v) (p : ∀ S', RA aa (up L k i v) S' → P S') (hk : k < 11 := by decide) (hj : la_j k = true := by rfl) : ∀ S', S' = sJ S (aa k) i l → P S' := by
  rintro _ rfl
  rw [e]
  exact p _ (h.uJ k i v hk hj)
end RAs
/-! rows by the places of their bells -/
def ro_fd (r b : Nat) : Nat → Nat → Nat
  | 0, p => p
  | k + 1, p => if ro_bl r p = b then p else ro_fd r b k (p + 1)
theorem ro_fd_of {r b p : Nat} (h : ro_bl r p = b) (h2 : ∀ q, q < p → ¬ ro_bl r q = b) : ∀ k q, q ≤ p → p < q + k → ro_fd r b k q = p
  | 0, q, h3, h4 => by omega
  | k + 1, q, h3, h4 => by
    unfold ro_fd
    by_cases e : ro_bl r q = b
    · rw [if_pos e]
      rcases Nat.lt_or_ge q p with y | y
      · exact absurd e (h2 q y)
      · omega
    · rw [if_neg e]
      have : q ≠ p := fun y => e (y ▸ h)
      exact ro_fd_of h h2 k (q + 1) (by omega) (by omega)
def iv (n r : Nat) : Nat := ro_pk (fun b => ro_fd r b n 0) n
section IVs
variable {n r s c : Nat}
theorem iv_fd (hV : ro_V n r) {p : Nat} (hp : p < n) : ro_fd r (ro_bl r p) n 0 = p :=
  ro_fd_of rfl (fun q hq e => by have := hV.2.2 q p (by omega) hp e; omega) n 0 (Nat.zero_le _) (by omega)
/-- each bell has its place -/
theorem iv_on (hN : ro_N n) (hV : ro_V n r) {b : Nat} (hb : b < n) : ∃ p, p < n ∧ ro_bl r p = b := by
  obtain ⟨p, h1, h2, _⟩ := ro_place hN hV hb
  exact ⟨p, h1, h2⟩
theorem iv_lt (hN : ro_N n) (hV : ro_V n r) {b : Nat} (hb : b < n) : ro_fd r b n 0 < n := by
  obtain ⟨p, hp, e⟩ := iv_on hN hV hb
  rw [← e, iv_fd hV hp]
  exact hp
theorem iv_V (hN : ro_N n) (hV : ro_V n r) : ro_V n (iv n r) ∧ ∀ b, b < n → ro_bl (iv n r) b = ro_fd r b n 0 := by
  have n8 := ro_N6 hN
  refine ro_V_pk (by omega) (fun b hb => iv_lt hN hV hb) (fun b b' hb hb' e => ?_)
  obtain ⟨p, hp, e1⟩ := iv_on hN hV hb
  obtain ⟨p', hp', e2⟩ := iv_on hN hV hb'
  rw [← e1, ← e2, iv_fd hV hp, iv_fd hV hp'] at e
  rw [← e1, ← e2, e]
theorem iv_bl (hN : ro_N n) (hV : ro_V n r) {p : Nat} (hp : p < n) : ro_bl (iv n r) (ro_bl r p) = p := by
  rw [(iv_V hN hV).2 _ (hV.2.1 p hp), iv_fd hV hp]
theorem iv_lt2 (hN : ro_N n) (hV : ro_V n r) : iv n r < 2 ^ 18 := by
  have := ro_V_lt hN (iv_V hN hV).1
  exact this
theorem iv_inj (hN : ro_N n) (hr : ro_V n r) (hs : ro_V n s) (e : iv n r = iv n s) : r = s := by
  refine ro_V_ext hr hs (fun p hp => ?_)
  have h1 := iv_bl hN hr hp
  rw [e, (iv_V hN hs).2 _ (hr.2.1 p hp)] at h1
  obtain ⟨q, hq, e2⟩ := iv_on hN hs (hr.2.1 p hp)
  rw [← e2, iv_fd hs hq] at h1
  rw [← e2, h1]
theorem iv_rnd (hN : ro_N n) : iv n (ro_rnd n) = ro_rnd n := by
  rcases hN with rfl | rfl | rfl <;> decide +kernel
theorem iv_eq_rnd (hN : ro_N n) (hr : ro_V n r) : iv n r = ro_rnd n ↔ r = ro_rnd n := by
  constructor
  · intro e
    rw [← iv_rnd hN] at e
    exact iv_inj hN hr (ro_V_rnd hN).1 e
  · intro e
    rw [e, iv_rnd hN]
end IVs
