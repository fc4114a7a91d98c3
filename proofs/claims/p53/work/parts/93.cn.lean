/-! the next way to call -/
def lk (Z : zZ) (i y : Nat) : Prop := ∃ x, x < y ∧ z_ch Z i x (Z 5 i - 1) = z_ch Z i y (Z 5 i - 1)
section CN
variable {E : zE} {ad la : Nat → Nat → Nat} {M T R : Nat} {V : vV} {Z : zZ} {S : zS} {X : String → zS → Prop}
theorem c_like_L {K1 K0 : zS → Prop} {Q : Int32 → zS → Prop} {i c : Nat} (h : RC E ad la (sd M T R) V S) (hV : V_M V Z) (hM : z_M Z) (hi : i < M) (hi2 : i < Z 3 0) (hc : c < 3) (k1 : lk Z i c → K1 S) (k0 : ¬ lk Z i c → K0 S) :
    ∀ (w j : Nat), j ≤ c → c < j + w → (∀ x, x < j → z_ch Z i x (Z 5 i - 1) ≠ z_ch Z i c (Z 5 i - 1)) → p_X4_isLikeLesserCall_L2 E K1 K0 Q X w (ad 5 i) (nI c) (nI j) S
  | 0, j, a, b, d => by omega
  | w + 1, j, a, b, d => by
    have bb := z_M_n hM hi2
    have v5 := (hV.2 i hi2).2.2.2.2.2.1
    refine pk_le c j (fun h3 => k0 ?_) (fun h3 => ⟨h.o 5 i hi, h.ij 505 i j hi rfl (by show j < 3; omega) (h.ij 505 i c hi rfl (by show c < 3; omega) ?_)⟩)
    · rintro ⟨x, hx, e⟩
      exact d x (by omega) e
    · have c1 := ro_isC_lt (z_M_ch hM hi2 (c := j) (k := Z 5 i - 1) (by omega) (by omega)) bb.2.1
      have c2 := ro_isC_lt (z_M_ch hM hi2 (c := c) (k := Z 5 i - 1) (by omega) (by omega)) bb.2.1
      rw [h.ga 505 i j hi, h.ga 505 i c hi, v5 j (by omega), v5 c hc, nI_eq (by omega) (by omega)]
      refine ⟨fun ne => ?_, fun e => k1 ⟨j, h3, e⟩⟩
      rw [nI_1]
      refine c_like_L h hV hM hi hi2 hc k1 k0 w (j + 1) (by omega) (by omega) (fun x hx => ?_)
      by_cases e : x = j
      · rw [e]
        exact ne
      · exact d x (by omega)
theorem c_like {Q : Int32 → zS → Prop} {i c : Nat} (h : RC E ad la (sd M T R) V S) (hV : V_M V Z) (hM : z_M Z) (hi : i < M) (hi2 : i < Z 3 0) (hc : c < 3) (k1 : lk Z i c → Q 1 S) (k0 : ¬ lk Z i c → Q 0 S) : p_X4_isLikeLesserCall E (ad 5 i) (nI c) S Q X :=
  ⟨4, c_like_L (K1 := fun S => ((1 : Int32) = 0 ∨ (1 : Int32) = 1) ∧ Q 1 S) (K0 := fun S => ((0 : Int32) = 0 ∨ (0 : Int32) = 1) ∧ Q 0 S) h hV hM hi hi2 hc (fun x => ⟨Or.inr rfl, k1 x⟩) (fun x => ⟨Or.inl rfl, k0 x⟩) 4 0 (Nat.zero_le _) (by omega) (fun x hx => absurd hx (Nat.not_lt_zero x))⟩
theorem c_next_L {K1 : Int32 → zS → Prop} {K0 : zS → Prop} {Q : Int32 → zS → Prop} {i c : Nat} (h : RC E ad la (sd M T R) V S) (hV : V_M V Z) (hM : z_M Z) (hi : i < M) (hi2 : i < Z 3 0) (k1 : ∀ x, c < x → x < 3 → (∀ y, c < y → y < x → lk Z i y) → K1 (nI x) S) (k0 : (∀ y, c < y → y < 3 → lk Z i y) → K0 S) :
    ∀ (w j : Nat), c < j → j ≤ 3 → 3 < j + w → (∀ y, c < y → y < j → lk Z i y) → p_X4_nextUnlikeCall_L4 E K1 K0 Q X w (ad 5 i) (nI j) S
  | 0, j, h0, a, b, d => by omega
  | w + 1, j, h0, a, b, d => by
    refine pk_le 3 j (fun h3 => k0 (fun y h1 h2 => d y h1 (by omega))) (fun h3 => ⟨h.o 5 i hi, c_like h hV hM hi hi2 h3 (fun l => ⟨fun _ => ?_, fun x => absurd x (by decide)⟩) (fun _ => ⟨fun x => absurd rfl x, fun _ => k1 j h0 h3 d⟩)⟩)
    rw [nI_1]
    refine c_next_L h hV hM hi hi2 k1 k0 w (j + 1) (by omega) (by omega) (by omega) (fun y h1 h2 => ?_)
    by_cases e : y = j
    · rw [e]
      exact l
    · exact d y h1 (by omega)
theorem c_next {Q : Int32 → zS → Prop} {i c : Nat} (h : RC E ad la (sd M T R) V S) (hV : V_M V Z) (hM : z_M Z) (hi : i < M) (hi2 : i < Z 3 0) (hc : c < 3) (k1 : ∀ x, c < x → x < 3 → (∀ y, c < y → y < x → lk Z i y) → Q (nI x) S) (k0 : (∀ y, c < y → y < 3 → lk Z i y) → Q (-1) S) : p_X4_nextUnlikeCall E (ad 5 i) (nI c) S Q X := by
  refine ⟨4, ?_⟩
  rw [nI_1]
  exact c_next_L h hV hM hi hi2 k1 k0 4 (c + 1) (by omega) (by omega) (by omega) (fun y h1 h2 => by omega)
/-- what is known unsound with a prefix is so with like calls too -/
theorem inv_up {Z : zZ} {i N j p q : Nat} (hj : j < N) (inv : ∀ e, e < 3 ^ N → pn (D3 N e) (j + 1) ≤ p → sw Z i N (D3 N e) = false)
    (hq : ∀ e, e < 3 ^ N → pn (D3 N e) (j + 1) < q → ¬ pn (D3 N e) (j + 1) ≤ p → lk Z i (D3 N e j)) : ∀ e, e < 3 ^ N → pn (D3 N e) (j + 1) < q → sw Z i N (D3 N e) = false := by
  intro e
  induction e using Nat.strongRecOn with
  | ind e ih =>
    intro he h1
    by_cases c : pn (D3 N e) (j + 1) ≤ p
    · exact inv e he c
    · obtain ⟨x, hx, ex⟩ := hq e he h1 c
      have lt3 : ∀ k, k < N → up1 (D3 N e) j x k < 3 := fun k hk => by
        unfold up1
        split
        · have := D3_lt (N := N) (w := e) (k := j)
          omega
        · exact D3_lt
      have l1 := pn_up hx N hj
      rw [pn_D he] at l1
      have dg := D3_pn lt3
      have s1 : sw Z i N (D3 N (pn (up1 (D3 N e) j x) N)) = sw Z i N (D3 N e) := by
        rw [sw_c dg]
        exact sw_like ex
      rw [← s1]
      refine ih _ l1 (by omega) ?_
      have e2 : pn (D3 N (pn (up1 (D3 N e) j x) N)) (j + 1) = pn (up1 (D3 N e) j x) (j + 1) := pn_c _ (fun k hk => dg k (by omega))
      rw [e2]
      have := pn_up hx (j + 1) (Nat.lt_succ_self j)
      omega
theorem c_cn_L {K1 : Nat → Int32 → Int32 → zS → Prop} {K0 : zS → Prop} {Q : Int32 → zS → Prop} {i s N : Nat} (hV : V_M V Z) (hM : z_M Z) (hi : i < M) (hi2 : i < Z 3 0) (hN : N ≤ 6) (hs : s < T) (e3 : V 301 0 0 = s) (j0 : Nat)
    (k1 : ∀ j x V' S', RC E ad la (sd M T R) V' S' → (∀ f, f ≠ 907 → V' f = V f) → (∀ a, a ≠ s → V' 907 a = V 907 a) → j < j0 → j < N → x < 3 → (∀ k, k < j → V' 907 s k = V 907 s k) → (∀ k, k < N → V' 907 s k < 3) → (∀ k, j < k → k < N → V' 907 s k = 0) → V' 907 s j < x → V' 907 s j = V 907 s j →
      (∀ e, e < 3 ^ N → pn (D3 N e) (j + 1) < 3 * pn (V' 907 s) j + x → sw Z i N (D3 N e) = false) → K1 (ad 3 0) (nI j) (nI x) S')
    (k0 : ∀ V' S', RC E ad la (sd M T R) V' S' → (∀ f, f ≠ 907 → V' f = V f) → (∀ a, a ≠ s → V' 907 a = V 907 a) → (∀ e, e < 3 ^ N → sw Z i N (D3 N e) = false) → K0 S') :
    ∀ (w j' : Nat) (V' : vV) (S : zS), RC E ad la (sd M T R) V' S → (∀ f, f ≠ 907 → V' f = V f) → (∀ a, a ≠ s → V' 907 a = V 907 a) → j' ≤ N → j' ≤ j0 → (∀ k, k < j' → V' 907 s k = V 907 s k) → (∀ k, k < N → V' 907 s k < 3) → (∀ k, j' ≤ k → k < N → V' 907 s k = 0) →
      (∀ e, e < 3 ^ N → pn (D3 N e) j' ≤ pn (V' 907 s) j' → sw Z i N (D3 N e) = false) → j' < w → p_X2_callNext_L2 E K1 K0 Q X w (ad 3 0) (ad 5 i) (nI j' + (-1)) S
  | 0, j', V', S, h, a, b, c, c0, d, f, g, u, hw => by omega
  | w + 1, j', V', S, h, a, b, c, c0, d, f, g, u, hw => by
    cases j' with
    | zero =>
      have e : (nI 0 + (-1) : Int32) = -1 := by decide
      rw [e]
      refine ⟨fun _ => k0 V' S h a b (fun e he => u e he (Nat.le_refl _)), fun x => absurd (by decide) x⟩
    | succ j =>
      have e : (nI (j + 1) + (-1) : Int32) = nI j := by
        rw [← nI_1, Int32.add_assoc, show (1 : Int32) + (-1) = 0 from by decide, Int32.add_zero]
      rw [e]
      have e3' : V' 301 0 0 = s := by rw [a 301 (by decide)]; exact e3
      have r3 := (h.vrR 301 z1).2
      rw [e3', show (301 : Nat) / 100 = 3 from rfl] at r3
      have hj : j < N := by omega
      refine ⟨fun x => absurd x (nI_pos (by omega)), fun _ => ⟨h.o 3 0 z1, _, r3, h.o 9 s hs, h.ij 907 s j hs rfl (by show j < 20; omega) ⟨h.o 5 i hi, ?_⟩⟩⟩
      rw [h.ga 907 s j hs]
      have hV' : V_M V' Z := hV.cg (fun q hq => a q (fun x => by subst x; exact absurd hq (by decide))) (fun _ _ => rfl)
      have p' : pn (V' 907 s) (j + 1) = 3 * pn (V' 907 s) j + V' 907 s j := rfl
      refine c_next h hV' hM hi hi2 (f j hj) (fun x hx hx3 hl => ⟨fun y => absurd y (z_oi_n (by omega)), fun _ => k1 j x V' S h a b (by omega) hj hx3 (fun k hk => d k (by omega)) f (fun k h1 h2 => g k (by omega) h2) hx (d j (by omega)) ?_⟩) (fun hl => ⟨fun _ => ⟨h.o 3 0 z1, _, r3, h.o 9 s hs, h.ij 907 s j hs rfl (by show j < 20; omega) (h.uA 907 s j 0 hs rfl (fun S1 g1 => ?_))⟩, fun y => absurd rfl y⟩)
      · refine inv_up hj u (fun e he h1 h2 => ?_)
        have q : pn (D3 N e) (j + 1) = 3 * pn (D3 N e) j + D3 N e j := rfl
        have := D3_lt (N := N) (w := e) (k := j)
        have := f j hj
        exact hl _ (by omega) (by omega)
      · have up907 : ∀ k, u3 V' 907 s j 0 907 s k = if k = j then 0 else V' 907 s k := fun k => by
          by_cases c : k = j
          · rw [if_pos c, c, u3_s]
          · rw [if_neg c, u3_j c]
        have pj : pn (u3 V' 907 s j 0 907 s) j = pn (V' 907 s) j := pn_c j (fun k hk => by rw [up907, if_neg (by omega)])
        refine c_cn_L hV hM hi hi2 hN hs e3 j0 k1 k0 w j _ S1 g1 (fun q hq => by rw [u3_f hq]; exact a q hq) (fun q hq => by rw [u3_i hq]; exact b q hq) (by omega) (by omega) (fun k hk => by rw [up907, if_neg (by omega)]; exact d k (by omega)) (fun k hk => ?_) (fun k h1 h2 => ?_) (fun e he h1 => ?_) (by omega)
        · rw [up907]
          split
          · decide
          · exact f k hk
        · rw [up907]
          split
          · rfl
          · exact g k (by omega) h2
        · rw [pj] at h1
          refine inv_up (q := 3 * pn (V' 907 s) j + 3) hj u (fun e he h1 h2 => ?_) e he ?_
          · have q : pn (D3 N e) (j + 1) = 3 * pn (D3 N e) j + D3 N e j := rfl
            have := D3_lt (N := N) (w := e) (k := j)
            have := f j hj
            exact hl _ (by omega) (by omega)
          · have q : pn (D3 N e) (j + 1) = 3 * pn (D3 N e) j + D3 N e j := rfl
            have := D3_lt (N := N) (w := e) (k := j)
            omega
theorem c_cn {Q : Int32 → zS → Prop} {i s N j0 : Nat} (h : RC E ad la (sd M T R) V S) (hV : V_M V Z) (hM : z_M Z) (hi : i < M) (hi2 : i < Z 3 0) (hN : N ≤ 6) (hs : s < T) (e3 : V 301 0 0 = s) (hj0 : j0 ≤ N) (hd : ∀ k, k < N → V 907 s k < 3) (hz : ∀ k, j0 ≤ k → k < N → V 907 s k = 0)
    (inv : ∀ e, e < 3 ^ N → pn (D3 N e) j0 ≤ pn (V 907 s) j0 → sw Z i N (D3 N e) = false)
    (k1 : ∀ j V' S', RC E ad la (sd M T R) V' S' → (∀ f, f ≠ 907 → V' f = V f) → (∀ a, a ≠ s → V' 907 a = V 907 a) → j < j0 → (∀ k, k < j → V' 907 s k = V 907 s k) → (∀ k, k < N → V' 907 s k < 3) → (∀ k, j < k → k < N → V' 907 s k = 0) → pn (V 907 s) N < pn (V' 907 s) N →
      (∀ e, e < 3 ^ N → e < pn (V' 907 s) N → sw Z i N (D3 N e) = false) → Q (nI j) S')
    (k0 : ∀ V' S', RC E ad la (sd M T R) V' S' → (∀ f, f ≠ 907 → V' f = V f) → (∀ a, a ≠ s → V' 907 a = V 907 a) → (∀ e, e < 3 ^ N → sw Z i N (D3 N e) = false) → Q (-1) S') : p_X2_callNext E (ad 3 0) (ad 5 i) (nI j0 + (-1)) S Q X := by
  refine ⟨8, c_cn_L hV hM hi hi2 hN hs e3 j0 (fun j x V' S' g a b jj jN x3 d f z lt ej u => ?_) k0 8 j0 V S h (fun _ _ => rfl) (fun _ _ => rfl) hj0 (Nat.le_refl _) (fun _ _ => rfl) hd hz inv (by omega)⟩
  have e3' : V' 301 0 0 = s := by rw [a 301 (by decide)]; exact e3
  have r3 := (g.vrR 301 z1).2
  rw [e3', show (301 : Nat) / 100 = 3 from rfl] at r3
  refine ⟨g.o 3 0 z1, _, r3, g.o 9 s hs, g.ij 907 s j hs rfl (by show j < 20; omega) (g.uA 907 s j x hs rfl (fun S1 g1 => ?_))⟩
  have up907 : ∀ k, u3 V' 907 s j x 907 s k = if k = j then x else V' 907 s k := fun k => by
    by_cases c : k = j
    · rw [if_pos c, c, u3_s]
    · rw [if_neg c, u3_j c]
  have pj : pn (u3 V' 907 s j x 907 s) j = pn (V' 907 s) j := pn_c j (fun k hk => by rw [up907, if_neg (by omega)])
  have pj1 : pn (u3 V' 907 s j x 907 s) (j + 1) = 3 * pn (V' 907 s) j + x := by
    show 3 * pn (u3 V' 907 s j x 907 s) j + u3 V' 907 s j x 907 s j = _
    rw [pj, u3_s]
  have zz : ∀ k, j < k → k < N → u3 V' 907 s j x 907 s k = 0 := fun k h1 h2 => by
    rw [up907, if_neg (by omega)]
    exact z k h1 h2
  refine k1 j _ S1 g1 (fun q hq => by rw [u3_f hq]; exact a q hq) (fun q hq => by rw [u3_i hq]; exact b q hq) jj (fun k hk => by rw [up907, if_neg (by omega)]; exact d k hk) (fun k hk => ?_) zz ?_ (fun e he h1 => ?_)
  · rw [up907]
    split
    · exact x3
    · exact f k hk
  · refine pn_ltN (m := j + 1) ?_ (by omega) hd
    rw [pj1]
    show 3 * pn (V 907 s) j + V 907 s j < _
    rw [← pn_c j (a := V' 907 s) (b := V 907 s) d, ← ej]
    omega
  · refine u e he ?_
    rw [← pj1]
    refine Nat.lt_of_not_le (fun c => ?_)
    have := pn_geN (N := N) (m := j + 1) (b := u3 V' 907 s j x 907 s) (a := D3 N e) c (by omega) (fun k h1 h2 => zz k (by omega) h2)
    rw [pn_D he] at this
    omega
end CN
