/-! the reference looks for a sound touch -/
def z_t0 (Z Z' : zZ) : Prop := (∀ f, f ∉ [0, 11, 12, 13, 14] → Z' f = Z f) ∧ True ∧ (∀ t, t < Z 10 0 → Z' 11 t = Z 11 t) ∧ True ∧ (∀ x, x < 20 * Z 10 0 → Z' 12 x = Z 12 x) ∧ True
section T0
variable {Z Z' : zZ} {t : Nat}
theorem z_t0.lc (h : z_t0 Z Z') : z_lc Z' = z_lc Z := z_lc_cg (h.1 5 (by decide)) (h.1 6 (by decide)) (h.1 7 (by decide))
theorem z_t0.x (h : z_t0 Z Z') (ht : t < Z 10 0) {k : Nat} (hk : k < 20) : Z' 12 (20 * t + k) = Z 12 (20 * t + k) := h.2.2.2.2.1 _ (by omega)
theorem z_t0.st (h : z_t0 Z Z') (ht : t < Z 10 0) : z_st Z' t = z_st Z t := by
  unfold z_st
  rw [h.1 4 (by decide), show Z' 12 (20 * t) = Z 12 (20 * t) from h.x ht (k := 0) (by decide)]
theorem z_t0.mt (h : z_t0 Z Z') (ht : t < Z 10 0) {k : Nat} (hk : k < 20) : z_mt Z' t k = z_mt Z t k ∧ z_cl Z' t k = z_cl Z t k := by
  unfold z_mt z_cl
  rw [h.x ht hk]
  exact ⟨rfl, rfl⟩
theorem z_t0.tc (h : z_t0 Z Z') (ht : t < Z 10 0) : ∀ k, k ≤ 20 → z_tc Z' t k = z_tc Z t k
  | 0, _ => rfl
  | k + 1, hk => by
    show z_tc Z' t k ++ z_lc Z' (z_mt Z' t k) (z_cl Z' t k) = z_tc Z t k ++ z_lc Z (z_mt Z t k) (z_cl Z t k)
    rw [h.tc ht k (by omega), h.lc, (h.mt ht (by omega)).1, (h.mt ht (by omega)).2]
theorem z_t0.cs (h : z_t0 Z Z') (ht : t < Z 10 0) (zt : z_T Z t) : z_cs Z' t = z_cs Z t := by
  unfold z_cs
  rw [h.2.2.1 t ht, h.tc ht _ zt.2.2.1]
theorem z_t0.T (h : z_t0 Z Z') (ht : t < Z 10 0) (zt : z_T Z t) : z_T Z' t := by
  refine ⟨zt.1, ?_, ?_, fun k hk => ?_⟩
  · rw [h.2.2.1 t ht]
    exact zt.2.1
  · rw [h.2.2.1 t ht]
    exact zt.2.2.1
  · rw [h.2.2.1 t ht] at hk
    have := zt.2.2.1
    rw [(h.mt ht (by omega)).1, h.st ht, h.1 3 (by decide), h.1 4 (by decide)]
    exact zt.2.2.2 k hk
theorem z_t0.L (h : z_t0 Z Z') (ht : t < Z 10 0) (zt : z_T Z t) : z_L Z' t = z_L Z t := by
  unfold z_L
  rw [h.cs ht zt]
theorem z_t0.f (h : z_t0 Z Z') (ht : t < Z 10 0) (zt : z_T Z t) : z_f Z' t = z_f Z t := by
  funext r
  unfold z_f z_rw
  rw [h.cs ht zt, h.st ht]
theorem z_t0.la (h : z_t0 Z Z') (ht : t < Z 10 0) (zt : z_T Z t) : z_la Z' t = z_la Z t := by
  unfold z_la
  rw [h.cs ht zt, h.st ht]
theorem z_t0.fit (h : z_t0 Z Z') (ht : t < Z 10 0) (zt : z_T Z t) : z_fit Z' t = z_fit Z t := by
  unfold z_fit z_snd
  rw [h.la ht zt, h.st ht, h.L ht zt, h.f ht zt, z_are_congr (h.1 18 (by decide)) (h.1 19 (by decide))]
theorem IZ.t0 (hI : IZ Z) (h : z_t0 Z Z') : IZ Z' := by
  have T := fun t ht => hI.T.2 t ht
  have e20 : Z' 20 = Z 20 := h.1 20 (by decide)
  have e10 : Z' 10 = Z 10 := h.1 10 (by decide)
  have ed : ∀ d, z_day Z' d = z_day Z d := z_day_congr (h.1 21 (by decide)) (h.1 22 (by decide))
  have e27 : Z' 27 = Z 27 := h.1 27 (by decide)
  have e28 : Z' 28 = Z 28 := h.1 28 (by decide)
  have en : z_nw Z' = z_nw Z := z_nw_congr (h.1 17 (by decide)) (h.1 18 (by decide))
  refine ⟨⟨z_M_cg (h.1 3 (by decide)) (h.1 4 (by decide)) (h.1 5 (by decide)) (h.1 6 (by decide)) (h.1 7 (by decide)) hI.M, ⟨by rw [e10]; exact hI.T.1, fun t ht => ?_⟩, z_B_congr (h.1 18 (by decide)) (h.1 19 (by decide)) hI.B, z_P_congr (h.1 21 (by decide)) (h.1 22 (by decide)) e10 hI.P, z_R4_cg hI.R4 (h.1 24 (by decide)) (h.1 25 (by decide)) (h.1 26 (by decide)), by rw [e20]; exact hI.d⟩, fun d h1 h2 t ht => ?_, fun d hd => by rw [ed]; exact hI.nd d hd, ?_, ?_, ?_⟩
  · rw [e10] at ht
    exact h.T ht (T t ht)
  · rw [e20] at h1
    rw [ed] at ht
    have := (hI.P d h2).2 t ht
    rw [h.fit this (T t this)]
    exact hI.fit d h1 h2 t ht
  · unfold I_w
    rw [e27, en]
    exact hI.w
  · refine ⟨by rw [e27]; exact hI.g.1, fun on => ?_⟩
    rw [e27] at on
    have w := hI.g.2 on
    rw [e28, e10, ed, e20, h.1 29 (by decide), h.st w.1, h.1 30 (by decide), h.1 31 (by decide), h.L w.1 (T _ w.1), h.1 32 (by decide), en]
    exact w
  · unfold I_n
    rw [h.1 33 (by decide), h.1 34 (by decide), h.1 35 (by decide)]
    exact hI.n
/-- what the trial touch holds is nobody's -/
theorem RV.t0 {V V' : vV} (hV : RV V Z) (hI : IZ Z) (h : z_t0 Z Z') (va : ∀ f, f ∉ [600, 901, 902, 903, 904, 905, 906, 907, 908, 2906, 4906] → V' f = V f) (vi : ∀ f a, f ≠ 600 → a ≠ V 301 0 0 → V' f a = V f a) (vP : V_P V') : RV V' Z' := by
  have z : ∀ l : List Nat, (∀ f, f ∈ l → f ∉ [0, 11, 12, 13, 14]) → ∀ f, f ∈ l → Z' f = Z f := fun l hl f hf => h.1 f (hl f hf)
  have v : ∀ l : List Nat, (∀ f, f ∈ l → f ∉ [600, 901, 902, 903, 904, 905, 906, 907, 908, 2906, 4906]) → ∀ f, f ∈ l → V' f = V f := fun l hl f hf => va f (hl f hf)
  have j := hV.J
  refine ⟨hV.M.cg (v _ (by decide)) (z _ (by decide)), hV.2.1.cg (v _ (by decide)) (z _ (by decide)), ⟨by rw [va 1003 (by decide), h.1 10 (by decide)]; exact hV.T.1, fun t ht => ?_⟩, j.cg (v _ (by decide)) (h.1 10 (by decide)), hV.L.cg (va 1006 (by decide)) (fun f hf => vi f _ (fun e => by subst e; exact absurd hf (by decide)) j.2.2.1) (z _ (by decide)), vP, hV.B.cg (v _ (by decide)) (z _ (by decide)), hV.Y.cg (v _ (by decide)) (z _ (by decide)), hV.R.cg (v _ (by decide)) (z _ (by decide)), hV.G.cg (v _ (by decide)) (z _ (by decide)), hV.S.cg (v _ (by decide)) (z _ (by decide))⟩
  rw [h.1 10 (by decide)] at ht ⊢
  have w := hV.T.2 t ht
  have zt := hI.T.2 t ht
  rw [va 3003 (by decide)]
  refine ⟨w.1, ?_⟩
  have w2 := w.2.cg (V' := V') (Z' := Z) (fun f hf => vi f _ (fun e => by subst e; exact absurd hf (by decide)) (j.2.1 t ht).2) (fun _ _ => rfl)
  refine ⟨w2.1, by rw [h.st ht]; exact w2.2.1, by rw [h.L ht zt]; exact w2.2.2.1, by rw [h.2.2.1 t ht]; exact w2.2.2.2.1, fun k hk => ?_, by rw [h.L ht zt, h.f ht zt]; exact w2.2.2.2.2.2.1, by rw [h.L ht zt, h.f ht zt]; exact w2.2.2.2.2.2.2.1, by rw [h.st ht, h.la ht zt]; exact w2.2.2.2.2.2.2.2⟩
  rw [h.2.2.1 t ht] at hk
  have := zt.2.2.1
  rw [(h.mt ht (by omega)).1, (h.mt ht (by omega)).2]
  exact w2.2.2.2.2.1 k hk
end T0
section MC
variable {E : zE} {ma : Nat → Nat} {Z : zZ} {m : Nat} {S : zS} {X : String → zS → Prop}
theorem m_c58 {K : Nat → Int32 → Int32 → Int32 → zS → Prop} {Q : Int32 → zS → Prop} {i N : Nat} (hN : N ≤ 6) (k : K m (nI i) (nI N) (nI (3 ^ N)) S) : ∀ (w j : Nat), j ≤ N → N < j + w → p_X11_compose_L58 E K Q X w m (nI i) (nI N) (nI (3 ^ j)) (nI j) S
  | 0, j, a, b => by omega
  | w + 1, j, a, b => by
    refine pk_le N j (fun h => ?_) (fun h => ?_)
    · have : j = N := by omega
      subst this
      exact k
    · rw [show nI (3 ^ j) * 3 = nI (3 ^ (j + 1)) from by rw [Nat.pow_succ]; exact pk_mul (3 ^ j) 3, nI_1]
      exact m_c58 hN k w (j + 1) (by omega) (by omega)
theorem m_c110 {K : Nat → Int32 → Int32 → Int32 → Int32 → zS → Prop} {Q : Int32 → zS → Prop} {i N w0 : Nat} {l3 : Int32} (hN : N ≤ 6) (h10 : Z 10 0 < 12) (hw : w0 < 729) (hi : i < 8)
    (k : ∀ Z' S', RM ma Z' m S' → (∀ f, f ≠ 12 → Z' f = Z f) → (∀ x, x < 20 * Z 10 0 → Z' 12 x = Z 12 x) → (∀ q, q < N → Z' 12 (20 * Z 10 0 + q) = 3 * i + D3 N w0 q) → K m (nI i) (nI N) l3 (nI w0) S') :
    ∀ (w j : Nat) (Z' : zZ) (S : zS), RM ma Z' m S → (∀ f, f ≠ 12 → Z' f = Z f) → (∀ x, x < 20 * Z 10 0 → Z' 12 x = Z 12 x) → (∀ q, j ≤ q → q < N → Z' 12 (20 * Z 10 0 + q) = 3 * i + D3 N w0 q) → j ≤ N → j < w → p_X11_compose_L110 E K Q X w m (nI i) (nI N) l3 (nI w0) (nI (w0 / 3 ^ (N - j))) (nI j + (-1)) S
  | 0, j, Z', S, h, a, b, c, d, e => by omega
  | w + 1, j, Z', S, h, a, b, c, d, e => by
    cases j with
    | zero =>
      rw [show (nI 0 + (-1) : Int32) = -1 from by decide]
      exact ⟨fun _ => k Z' S h a b (fun q hq => c q (Nat.zero_le _) hq), fun x => absurd (by decide) x⟩
    | succ j =>
      rw [show (nI (j + 1) + (-1) : Int32) = nI j from by rw [← nI_1, Int32.add_assoc, show (1 : Int32) + (-1) = 0 from by decide, Int32.add_zero]]
      have e10 : gI S 1110 m = nI (Z 10 0) := (h.i 10).trans (by rw [a 10 (by decide)])
      have lw : w0 / 3 ^ (N - (j + 1)) < 729 := Nat.lt_of_le_of_lt (Nat.div_le_self _ _) hw
      refine ⟨fun x => absurd x (nI_pos (by omega)), fun _ => ⟨h.1, ?_⟩⟩
      rw [e10]
      refine h.ij 12 (20 * Z 10 0 + j) ?_ (by show _ < 240; omega) (h.wA 12 (20 * Z 10 0 + j) (3 * i + D3 N w0 j) ?_ (fun S1 g1 => ?_))
      · rw [show (20 : Int32) * nI (Z 10 0) = nI (20 * Z 10 0) from pk_mul 20 _, nI_add]
      · rw [show (3 : Int32) * nI i = nI (3 * i) from pk_mul 3 i, show nI (w0 / 3 ^ (N - (j + 1))) - nI (w0 / 3 ^ (N - (j + 1))) / 3 * 3 = nI (w0 / 3 ^ (N - (j + 1)) % 3) from pk_rem (d := 3) (by omega) (by decide) (by decide), nI_add]
        unfold D3
        rw [show N - 1 - j = N - (j + 1) by omega]
      · rw [show nI (w0 / 3 ^ (N - (j + 1))) / 3 = nI (w0 / 3 ^ (N - j)) from by
          rw [show nI (w0 / 3 ^ (N - (j + 1))) / 3 = nI (w0 / 3 ^ (N - (j + 1)) / 3) from pk_div (d := 3) (by omega) (by decide) (by decide), Nat.div_div_eq_div_mul, ← Nat.pow_succ, show (N - (j + 1)).succ = N - j by omega]]
        refine m_c110 hN h10 hw hi k w j _ S1 g1 (fun f hf => by rw [up_f hf]; exact a f hf) (fun x hx => by rw [up_i (by omega)]; exact b x hx) (fun q h1 h2 => ?_) (by omega) (by omega)
        by_cases x : q = j
        · rw [x, up_s]
        · rw [up_i (by omega)]
          exact c q (by omega) h2
theorem m_c90 {K : Nat → Int32 → zS → Prop} {Q : Int32 → zS → Prop} {i N : Nat} (hM : z_M Z) (hi : i < Z 3 0) (hN : 1 ≤ N ∧ N ≤ 6) (h10 : Z 10 0 < 12)
    (kY : ∀ w, w < 3 ^ N → sw Z i N (D3 N w) = true → (∀ e, e < w → sw Z i N (D3 N e) = false) → ∀ Z' S', RM ma Z' m S' → z_t0 Z Z' → Z' 11 (Z 10 0) = N → Z' 0 0 = 0 → (∀ q, q < N → Z' 12 (20 * Z 10 0 + q) = 3 * i + D3 N w q) → K m 1 S')
    (kN : (∀ e, e < 3 ^ N → sw Z i N (D3 N e) = false) → ∀ Z' S', RM ma Z' m S' → z_t0 Z Z' → Z' 0 0 = 0 → K m 0 S') :
    ∀ (w w0 : Nat) (Z' : zZ) (S : zS), RM ma Z' m S → z_t0 Z Z' → Z' 11 (Z 10 0) = N → Z' 0 0 = 0 → (∀ e, e < w0 → sw Z i N (D3 N e) = false) → w0 ≤ 3 ^ N → 3 ^ N < w0 + w → p_X11_compose_L90 E K Q X w m (nI i) (nI N) (nI (3 ^ N)) 0 (nI w0) S
  | 0, w0, Z', S, h, a, b, c, d, e, f => by omega
  | w + 1, w0, Z', S, h, a, b, c, d, e, f => by
    have p6 : 3 ^ N ≤ 3 ^ 6 := Nat.pow_le_pow_right (by decide) hN.2
    have p7 : (3 : Nat) ^ 6 = 729 := by decide
    have bi := z_M_n hM hi
    refine pk_le (3 ^ N) w0 (fun h3 => kN (fun x hx => d x (by omega)) Z' S h a c) (fun h3 => ⟨fun x => absurd rfl x, fun _ => ⟨8, ?_⟩⟩)
    have e10 : Z' 10 = Z 10 := a.1 10 (by decide)
    rw [Int32.sub_eq_add_neg]
    have st := m_c110 (E := E) (X := X) (Q := Q) (Z := Z') (K := fun (a0 : Nat) (l1 : Int32) (l2 : Int32) (l3 : Int32) (l5 : Int32) (S : zS) => (a0 ∈ gL S ∧ gK S a0 = 11) ∧ p_X11_isSound E a0 (gI S 1110 a0) S (fun (r31 : Int32) (S30 : zS) => p_X11_compose_L90 E K Q X w a0 l1 l2 l3 r31 (l5 + 1) S30) (fun _ _ => False)) (i := i) (N := N) (w0 := w0) (l3 := nI (3 ^ N)) hN.2 (by rw [e10]; exact h10) (by omega) (by omega) (fun Z1 S1 g1 a1 b1 c1 => ⟨g1.1, ?_⟩) 8 N Z' S h (fun _ _ => rfl) (fun _ _ => rfl) (fun q h1 h2 => by omega) (Nat.le_refl _) (by omega)
    · rw [Nat.sub_self, Nat.pow_zero, Nat.div_one] at st
      exact st
    · rw [e10] at b1 c1
      have f10 : gI S1 1110 m = nI (Z 10 0) := (g1.i 10).trans (by rw [a1 10 (by decide), e10])
      rw [f10]
      have t1 : z_t0 Z Z1 := ⟨fun q hq => by rw [a1 q (fun x => hq (by rw [x]; decide))]; exact a.1 q hq, trivial, fun t ht => by rw [a1 11 (by decide)]; exact a.2.2.1 t ht, trivial, fun x hx => by rw [b1 x hx]; exact a.2.2.2.2.1 x hx, trivial⟩
      have e11 : Z1 11 (Z 10 0) = N := by rw [a1 11 (by decide)]; exact b
      have mt : ∀ q, q < N → z_mt Z1 (Z 10 0) q = i ∧ z_cl Z1 (Z 10 0) q = D3 N w0 q := fun q hq => by
        have := D3_lt (N := N) (w := w0) (k := q)
        unfold z_mt z_cl
        rw [c1 q hq]
        omega
      have est : z_st Z1 (Z 10 0) = Z 4 i := by
        have := (mt 0 (by omega)).1
        unfold z_mt at this
        rw [Nat.add_zero] at this
        unfold z_st
        rw [this, t1.1 4 (by decide)]
      have hM1 : z_M Z1 := z_M_cg (t1.1 3 (by decide)) (t1.1 4 (by decide)) (t1.1 5 (by decide)) (t1.1 6 (by decide)) (t1.1 7 (by decide)) hM
      have zt : z_T Z1 (Z 10 0) := ⟨h10, by rw [e11]; exact hN.1, by rw [e11]; omega, fun q hq => by
        rw [e11] at hq
        rw [(mt q hq).1, t1.1 3 (by decide), t1.1 4 (by decide), est]
        exact ⟨hi, rfl⟩⟩
      have ecs : z_cs Z1 (Z 10 0) = cw Z i N (D3 N w0) := by
        unfold z_cs cw
        rw [e11, ← z_tcG_t, z_tcG_lc t1.lc]
        exact z_tcG_congr mt
      have esn : z_snd Z1 (Z 10 0) = sw Z i N (D3 N w0) := by
        unfold z_snd z_la z_L sw
        rw [ecs, est]
        congr 2
        funext r
        unfold z_f z_rw
        rw [ecs, est]
      refine m_isSound g1 hM1 zt (fun Z2 S2 g2 hE hW => ?_)
      rw [esn, nI_1]
      have t2 : z_t0 Z Z2 := ⟨fun q hq => by
        rw [hE q (fun x => hq (by rw [x]; decide)) (fun x => hq (by rw [x]; decide))]
        exact t1.1 q hq, trivial, fun t ht => by rw [hE 11 (by decide) (by decide)]; exact t1.2.2.1 t ht, trivial, fun x hx => by rw [hE 12 (by decide) (by decide)]; exact t1.2.2.2.2.1 x hx, trivial⟩
      have e112 : Z2 11 (Z 10 0) = N := by rw [hE 11 (by decide) (by decide)]; exact e11
      have e02 : Z2 0 0 = 0 := by rw [hE 0 (by decide) (by decide), a1 0 (by decide)]; exact c
      cases hs : sw Z i N (D3 N w0) with
      | false =>
        refine m_c90 hM hi hN h10 kY kN w (w0 + 1) Z2 S2 g2 t2 e112 e02 (fun x hx => ?_) (by omega) (by omega)
        by_cases y : x = w0
        · rw [y]
          exact hs
        · exact d x (by omega)
      | true =>
        have kk : K m 1 S2 := kY w0 h3 hs d Z2 S2 g2 t2 e112 e02 (fun q hq => by rw [hE 12 (by decide) (by decide)]; exact c1 q hq)
        match w, f with
        | 0, f => omega
        | w + 1, f => exact ⟨fun _ => kk, fun _ => ⟨fun _ => kk, fun x => absurd x (by decide)⟩⟩
theorem m_composeX {Q : Int32 → zS → Prop} {l1 l2 : Int32} {j : Nat} (h : RM ma Z m S) (hj : 1 ≤ j ∧ j ≤ 3) (k : ∀ S', RM ma (up Z 0 0 j) m S' → Q 0 S') : p_X11_compose_J41 E Q X m l1 l2 (nI j) m S := m_tk h j hj rfl k
theorem m_compose {Q : Int32 → zS → Prop} {i N : Nat} (h : RM ma Z m S) (hM : z_M Z) (hi : i < Z 3 0) (hN : 1 ≤ N ∧ N ≤ 6) (h10 : Z 10 0 < 12)
    (kY : ∀ w, w < 3 ^ N → sw Z i N (D3 N w) = true → (∀ e, e < w → sw Z i N (D3 N e) = false) → ∀ Z' S', RM ma Z' m S' → z_ta Z Z' N (fun k => 3 * i + D3 N w k) → Z' 8 = Z 8 → Z' 0 0 = 0 → Q (nI (Z 10 0)) S')
    (kN : (∀ e, e < 3 ^ N → sw Z i N (D3 N e) = false) → ∀ Z' S', RM ma Z' m S' → z_t0 Z Z' → Z' 0 0 = 0 → Q (-1) S') : p_X11_compose E m (nI i) (nI N) S Q X := by
  have e10 : gI S 1110 m = nI (Z 10 0) := h.i 10
  have p6 : 3 ^ N ≤ 3 ^ 6 := Nat.pow_le_pow_right (by decide) hN.2
  have p7 : (3 : Nat) ^ 6 = 729 := by decide
  refine ⟨h.1, m_isM1 h hi hM ⟨fun _ => w1_inR1 (lo := 1) (hi := 6) hN.1 hN.2 (by decide) ⟨fun _ => ⟨h.1, ?_⟩, fun x => absurd x (by decide)⟩, fun x => absurd x (by decide)⟩⟩
  rw [e10]
  refine ⟨fun _ => m_t0 h (fun S1 g1 => ⟨7, ?_⟩), fun c => absurd ((nI_eq (b := 12) (by omega) (by decide)).mp c) (by omega)⟩
  refine m_c58 (j := 0) (K := fun (a0 : Nat) (l1 : Int32) (l2 : Int32) (l3 : Int32) (S : zS) => _) hN.2 ⟨g1.1, g1.ij 11 (Z 10 0) (g1.i 10) (by show _ < 12; exact h10) (g1.wA 11 (Z 10 0) N rfl (fun S2 g2 => ⟨730, ?_⟩))⟩ 7 (Nat.zero_le _) (by omega)
  have t0 : z_t0 Z (up (up Z 0 0 0) 11 (Z 10 0) N) := ⟨fun f hf => by
    rw [up_f (fun x => hf (by rw [x]; decide)), up_f (fun x => hf (by rw [x]; decide))], trivial, fun t ht => by rw [up_i (by omega)]; rfl, trivial, fun x hx => rfl, trivial⟩
  refine m_c90 hM hi hN h10 (fun w hw sy sl Z3 S3 g3 t3 e3 z3 c3 => ⟨g3.1, fun x => absurd x (by decide), fun _ => ?_⟩) (fun no Z3 S3 g3 t3 z3 => ⟨g3.1, fun _ => ?_, fun x => absurd rfl x⟩) 730 0 _ S2 g2 t0 (up_s _ _ _ _) rfl (fun x hx => absurd hx (Nat.not_lt_zero x)) (Nat.zero_le _) (by omega)
  · have f10 : gI S3 1110 m = nI (Z 10 0) := (g3.i 10).trans (by rw [t3.1 10 (by decide)])
    rw [f10]
    refine g3.wI 10 (Z 10 0 + 1) (nI_1 _) (fun S4 g4 => ⟨fun x => absurd x (by decide), fun _ => ?_⟩)
    have f10' : gI S4 1110 m = nI (Z 10 0 + 1) := (g4.i 10).trans (by rw [up_s])
    rw [f10', show nI (Z 10 0 + 1) - 1 = nI (Z 10 0) from by rw [← nI_1]; exact Int32.add_sub_cancel _ _]
    refine kY w hw sy sl _ S4 g4 ⟨fun f hf => ?_, up_s _ _ _ _, fun t ht => t3.2.2.1 t ht, e3, fun x hx => t3.2.2.2.2.1 x hx, c3⟩ (by rw [up_f (by decide)]; exact t3.1 8 (by decide)) z3
    have mm : f ≠ 10 ∧ f ∉ [0, 11, 12, 13, 14] := by
      simp only [List.mem_cons, List.not_mem_nil, or_false] at hf ⊢
      omega
    rw [up_f mm.1]
    exact t3.1 f mm.2
  · have f10 : gI S3 1110 m = nI (Z 10 0) := (g3.i 10).trans (by rw [t3.1 10 (by decide)])
    rw [f10]
    refine g3.wI 10 (Z 10 0) (nI_add _ 0) (fun S4 g4 => ⟨fun _ => kN no _ S4 g4 ⟨fun f hf => ?_, trivial, fun t ht => t3.2.2.1 t ht, trivial, fun x hx => t3.2.2.2.2.1 x hx, trivial⟩ z3, fun x => absurd rfl x⟩)
    by_cases e : f = 10
    · subst e
      funext q
      by_cases e2 : q = 0
      · rw [e2, up_s]
      · rw [up_i e2, t3.1 10 (by decide)]
    · rw [up_f e]
      exact t3.1 f hf
end MC
