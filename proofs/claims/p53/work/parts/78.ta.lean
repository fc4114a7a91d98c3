/-! one touch more -/
def z_ta (Z Z' : zZ) (q : Nat) (g : Nat → Nat) : Prop := (∀ f, f ∉ [0, 8, 10, 11, 12, 13, 14] → Z' f = Z f) ∧ Z' 10 0 = Z 10 0 + 1 ∧ (∀ t, t < Z 10 0 → Z' 11 t = Z 11 t) ∧ Z' 11 (Z 10 0) = q ∧ (∀ x, x < 20 * Z 10 0 → Z' 12 x = Z 12 x) ∧ ∀ k, k < q → Z' 12 (20 * Z 10 0 + k) = g k
section TA
variable {Z Z' : zZ} {q : Nat} {g : Nat → Nat} {t : Nat}
theorem z_lc_cg (h5 : Z' 5 = Z 5) (h6 : Z' 6 = Z 6) (h7 : Z' 7 = Z 7) : z_lc Z' = z_lc Z := by
  have e : z_ch Z' = z_ch Z := by
    unfold z_ch
    rw [h5, h6, h7]
  unfold z_lc
  rw [h5, e]
theorem z_ta.lc (h : z_ta Z Z' q g) : z_lc Z' = z_lc Z := z_lc_cg (h.1 5 (by decide)) (h.1 6 (by decide)) (h.1 7 (by decide))
theorem z_ta.x (h : z_ta Z Z' q g) (ht : t < Z 10 0) {k : Nat} (hk : k < 20) : Z' 12 (20 * t + k) = Z 12 (20 * t + k) := h.2.2.2.2.1 _ (by omega)
theorem z_ta.st (h : z_ta Z Z' q g) (ht : t < Z 10 0) : z_st Z' t = z_st Z t := by
  unfold z_st
  rw [h.1 4 (by decide), show Z' 12 (20 * t) = Z 12 (20 * t) from h.x ht (k := 0) (by decide)]
theorem z_ta.mt (h : z_ta Z Z' q g) (ht : t < Z 10 0) {k : Nat} (hk : k < 20) : z_mt Z' t k = z_mt Z t k ∧ z_cl Z' t k = z_cl Z t k := by
  unfold z_mt z_cl
  rw [h.x ht hk]
  exact ⟨rfl, rfl⟩
theorem z_ta.tc (h : z_ta Z Z' q g) (ht : t < Z 10 0) : ∀ k, k ≤ 20 → z_tc Z' t k = z_tc Z t k
  | 0, _ => rfl
  | k + 1, hk => by
    show z_tc Z' t k ++ z_lc Z' (z_mt Z' t k) (z_cl Z' t k) = z_tc Z t k ++ z_lc Z (z_mt Z t k) (z_cl Z t k)
    rw [h.tc ht k (by omega), h.lc, (h.mt ht (by omega)).1, (h.mt ht (by omega)).2]
theorem z_ta.cs (h : z_ta Z Z' q g) (ht : t < Z 10 0) (zt : z_T Z t) : z_cs Z' t = z_cs Z t := by
  unfold z_cs
  rw [h.2.2.1 t ht, h.tc ht _ zt.2.2.1]
theorem z_ta.T (h : z_ta Z Z' q g) (ht : t < Z 10 0) (zt : z_T Z t) : z_T Z' t := by
  refine ⟨zt.1, ?_, ?_, fun k hk => ?_⟩
  · rw [h.2.2.1 t ht]
    exact zt.2.1
  · rw [h.2.2.1 t ht]
    exact zt.2.2.1
  · rw [h.2.2.1 t ht] at hk
    have := zt.2.2.1
    rw [(h.mt ht (by omega)).1, h.st ht, h.1 3 (by decide), h.1 4 (by decide)]
    exact zt.2.2.2 k hk
theorem z_ta.L (h : z_ta Z Z' q g) (ht : t < Z 10 0) (zt : z_T Z t) : z_L Z' t = z_L Z t := by
  unfold z_L
  rw [h.cs ht zt]
theorem z_ta.f (h : z_ta Z Z' q g) (ht : t < Z 10 0) (zt : z_T Z t) : z_f Z' t = z_f Z t := by
  funext r
  unfold z_f z_rw
  rw [h.cs ht zt, h.st ht]
theorem z_ta.la (h : z_ta Z Z' q g) (ht : t < Z 10 0) (zt : z_T Z t) : z_la Z' t = z_la Z t := by
  unfold z_la
  rw [h.cs ht zt, h.st ht]
theorem z_ta.fit (h : z_ta Z Z' q g) (ht : t < Z 10 0) (zt : z_T Z t) : z_fit Z' t = z_fit Z t := by
  unfold z_fit z_snd
  rw [h.la ht zt, h.st ht, h.L ht zt, h.f ht zt, z_are_congr (h.1 18 (by decide)) (h.1 19 (by decide))]
theorem z_ta.C' (h : z_ta Z Z' q g) : Z' 3 = Z 3 ∧ Z' 4 = Z 4 ∧ Z' 5 = Z 5 ∧ Z' 6 = Z 6 ∧ Z' 7 = Z 7 := ⟨h.1 3 (by decide), h.1 4 (by decide), h.1 5 (by decide), h.1 6 (by decide), h.1 7 (by decide)⟩
theorem z_M_cg (h3 : Z' 3 = Z 3) (h4 : Z' 4 = Z 4) (h5 : Z' 5 = Z 5) (h6 : Z' 6 = Z 6) (h7 : Z' 7 = Z 7) (hM : z_M Z) : z_M Z' := by
  unfold z_M
  rw [h3, h4, h5, h6, h7]
  exact hM
theorem z_ta.nst (h : z_ta Z Z' q g) (hq : 1 ≤ q) : z_st Z' (Z 10 0) = Z 4 (g 0 / 3) := by
  have e : Z' 12 (20 * Z 10 0) = g 0 := h.2.2.2.2.2 0 hq
  unfold z_st
  rw [e, h.1 4 (by decide)]
theorem z_ta.nmt (h : z_ta Z Z' q g) {k : Nat} (hk : k < q) : z_mt Z' (Z 10 0) k = g k / 3 ∧ z_cl Z' (Z 10 0) k = g k % 3 := by
  unfold z_mt z_cl
  rw [h.2.2.2.2.2 k hk]
  exact ⟨rfl, rfl⟩
theorem z_ta.nT (h : z_ta Z Z' q g) (h12 : Z 10 0 < 12) (hq : 1 ≤ q ∧ q ≤ 20) (hg : ∀ k, k < q → g k / 3 < Z 3 0 ∧ Z 4 (g k / 3) = Z 4 (g 0 / 3)) : z_T Z' (Z 10 0) := by
  refine ⟨h12, ?_, ?_, fun k hk => ?_⟩
  · rw [h.2.2.2.1]
    exact hq.1
  · rw [h.2.2.2.1]
    exact hq.2
  · rw [h.2.2.2.1] at hk
    rw [(h.nmt hk).1, h.nst hq.1, h.1 3 (by decide), h.1 4 (by decide)]
    exact hg k hk
theorem z_tcG_lc {mm cc : Nat → Nat} (e : z_lc Z' = z_lc Z) : ∀ k, z_tcG Z' mm cc k = z_tcG Z mm cc k
  | 0 => rfl
  | k + 1 => by
    show z_tcG Z' mm cc k ++ z_lc Z' (mm k) (cc k) = z_tcG Z mm cc k ++ z_lc Z (mm k) (cc k)
    rw [z_tcG_lc e k, e]
theorem z_ta.ncs (h : z_ta Z Z' q g) : z_cs Z' (Z 10 0) = z_tcG Z (fun k => g k / 3) (fun k => g k % 3) q := by
  unfold z_cs
  rw [h.2.2.2.1, ← z_tcG_t, z_tcG_lc h.lc]
  exact z_tcG_congr (fun j hj => h.nmt hj)
theorem IZ.ta (hI : IZ Z) (h : z_ta Z Z' q g) (h12 : Z 10 0 < 12) (hT : z_T Z' (Z 10 0)) : IZ Z' := by
  have c := h.C'
  have T := fun t ht => hI.T.2 t ht
  have e20 : Z' 20 = Z 20 := h.1 20 (by decide)
  have ed : ∀ d, z_day Z' d = z_day Z d := z_day_congr (h.1 21 (by decide)) (h.1 22 (by decide))
  have e27 : Z' 27 = Z 27 := h.1 27 (by decide)
  have e28 : Z' 28 = Z 28 := h.1 28 (by decide)
  have en : z_nw Z' = z_nw Z := z_nw_congr (h.1 17 (by decide)) (h.1 18 (by decide))
  refine ⟨⟨z_M_cg c.1 c.2.1 c.2.2.1 c.2.2.2.1 c.2.2.2.2 hI.M, ⟨by rw [h.2.1]; omega, fun t ht => ?_⟩, z_B_congr (h.1 18 (by decide)) (h.1 19 (by decide)) hI.B, fun d hd => ⟨?_, fun t ht => ?_⟩, z_R4_cg hI.R4 (h.1 24 (by decide)) (h.1 25 (by decide)) (h.1 26 (by decide)), by rw [e20]; exact hI.d⟩, fun d h1 h2 t ht => ?_, fun d hd => by rw [ed]; exact hI.nd d hd, ?_, ?_, ?_⟩
  · rw [h.2.1] at ht
    by_cases e : t = Z 10 0
    · rw [e]
      exact hT
    · exact h.T (by omega) (T t (by omega))
  · rw [h.1 21 (by decide)]
    exact (hI.P d hd).1
  · rw [ed] at ht
    rw [h.2.1]
    have := (hI.P d hd).2 t ht
    omega
  · rw [e20] at h1
    rw [ed] at ht
    have := (hI.P d h2).2 t ht
    rw [h.fit this (T t this)]
    exact hI.fit d h1 h2 t ht
  · unfold I_w
    rw [e27, en]
    exact hI.w
  · refine ⟨by rw [e27]; exact hI.g.1, fun on => ?_⟩
    rw [e27] at on
    have w := hI.g.2 on
    rw [e28, h.2.1, ed, e20, h.1 29 (by decide), h.st w.1, h.1 30 (by decide), h.1 31 (by decide), h.L w.1 (T _ w.1), h.1 32 (by decide), en]
    exact ⟨by omega, w.2⟩
  · unfold I_n
    rw [h.1 33 (by decide), h.1 34 (by decide), h.1 35 (by decide)]
    exact hI.n
theorem W_T.ta {V V' : vV} {s : Nat} (w : W_T V Z s t) (h : z_ta Z Z' q g) (ht : t < Z 10 0) (zt : z_T Z t) (v : ∀ f, f ∈ [900, 901, 902, 903, 905, 906, 907, 908, 2906] → V' f s = V f s) : W_T V' Z' s t := by
  have w2 := w.cg (V' := V') v (fun _ _ => rfl)
  refine ⟨w2.1, by rw [h.st ht]; exact w2.2.1, by rw [h.L ht zt]; exact w2.2.2.1, by rw [h.2.2.1 t ht]; exact w2.2.2.2.1, fun k hk => ?_, by rw [h.L ht zt, h.f ht zt]; exact w2.2.2.2.2.2.1, by rw [h.L ht zt, h.f ht zt]; exact w2.2.2.2.2.2.2.1, by rw [h.st ht, h.la ht zt]; exact w2.2.2.2.2.2.2.2⟩
  rw [h.2.2.1 t ht] at hk
  have := zt.2.2.1
  rw [(h.mt ht (by omega)).1, (h.mt ht (by omega)).2]
  exact w2.2.2.2.2.1 k hk
/-- the touch that is kept lies at the slot s0 -/
theorem RV.ta {V V' : vV} {s0 : Nat} (hV : RV V Z) (hI : IZ Z) (h : z_ta Z Z' q g) (va : agV [600, 900, 901, 902, 903, 904, 905, 906, 907, 908, 2906, 4906, 4907, 4908, 1003, 3003, 5003, 1006, 301] V V')
    (n3 : V' 1003 0 0 = Z 10 0 + 1) (n33 : ∀ t, t < Z 10 0 → V' 3003 0 t = V 3003 0 t) (n30 : V' 3003 0 (Z 10 0) = s0) (hs0 : s0 < Z 10 0 + 3) (sl : ∀ t, t < Z 10 0 → ∀ f, f ∈ [900, 901, 902, 903, 905, 906, 907, 908, 2906] → V' f (V 3003 0 t) = V f (V 3003 0 t))
    (w0 : W_T V' Z' s0 (Z 10 0)) (vJ : V_J V' Z') (vL : V_L V' Z') (vP : V_P V') : RV V' Z' := by
  have c := h.C'
  have z : ∀ l : List Nat, (∀ f, f ∈ l → f ∉ [0, 8, 10, 11, 12, 13, 14]) → ∀ f, f ∈ l → Z' f = Z f := fun l hl f hf => h.1 f (hl f hf)
  refine ⟨hV.M.cg (va.m rfl) (z _ (by decide)), hV.2.1.cg (va.m rfl) (z _ (by decide)), ⟨by rw [h.2.1]; exact n3, fun t ht => ?_⟩, vJ, vL, vP, hV.B.cg (va.m rfl) (z _ (by decide)), fun d hd => ?_, hV.R.cg (va.m rfl) (z _ (by decide)), ?_, hV.S.cg (va.m rfl) (z _ (by decide))⟩
  · rw [h.2.1] at ht ⊢
    by_cases e : t = Z 10 0
    · rw [e, n30]
      exact ⟨by omega, w0⟩
    · have ht' : t < Z 10 0 := by omega
      have w := hV.T.2 t ht'
      rw [n33 t ht']
      exact ⟨by omega, w.2.ta h ht' (hI.T.2 t ht') (sl t ht')⟩
  · have ed : z_day Z' d = z_day Z d := z_day_congr (h.1 21 (by decide)) (h.1 22 (by decide)) d
    have ev : v_day V' d = v_day V d := by
      unfold v_day
      rw [va 400 (by decide), va 2400 (by decide)]
    rw [ed, ev, hV.Y d hd]
    apply List.map_congr_left
    intro t ht
    exact (n33 t ((hI.P d hd).2 t ht)).symm
  · have G := hV.G
    refine ⟨by rw [va 1009 (by decide), h.1 27 (by decide)]; exact G.1, fun on => ?_⟩
    rw [h.1 27 (by decide)] at on
    have w := hI.g.2 on
    rw [va 700 (by decide), va 701 (by decide), va 702 (by decide), va 704 (by decide), va 705 (by decide), h.1 28 (by decide), h.1 31 (by decide), h.1 32 (by decide), h.1 29 (by decide), h.1 30 (by decide), n33 _ w.1]
    exact G.2 on
end TA
