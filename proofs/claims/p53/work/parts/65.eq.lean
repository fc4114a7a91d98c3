/-! states of the reference that show the same -/
def z_eq (Z Z' : zZ) : Prop := (∀ f, f ∉ [0, 13, 14, 15, 16, 18, 21, 22, 23, 27, 40, 41] → Z' f = Z f) ∧ (∀ i, i < 12 → Z' 18 i = Z 18 i) ∧ nI (Z' 23 0) = nI (Z 23 0) ∧ (Z' 27 0 = Z 27 0 ∧ Z' 40 0 = Z 40 0 ∧ Z' 41 0 = Z 41 0) ∧ ∀ d, d ≤ 60 → z_day Z' d = z_day Z d
theorem z_eq.refl (Z : zZ) : z_eq Z Z := ⟨fun _ _ => rfl, fun _ _ => rfl, rfl, ⟨rfl, rfl, rfl⟩, fun _ _ => rfl⟩
theorem z_eq.trans {Z Z1 Z2 : zZ} (h : z_eq Z Z1) (h2 : z_eq Z1 Z2) : z_eq Z Z2 :=
  ⟨fun f hf => (h2.1 f hf).trans (h.1 f hf), fun i hi => (h2.2.1 i hi).trans (h.2.1 i hi), h2.2.2.1.trans h.2.2.1, ⟨h2.2.2.2.1.1.trans h.2.2.2.1.1, h2.2.2.2.1.2.1.trans h.2.2.2.1.2.1, h2.2.2.2.1.2.2.trans h.2.2.2.1.2.2⟩, fun d hd => (h2.2.2.2.2 d hd).trans (h.2.2.2.2 d hd)⟩
theorem z_scr.eq {Z Z' : zZ} (h : z_scr Z Z') : z_eq Z Z' :=
  ⟨fun f hf => h f (fun e => hf (by
    simp only [List.mem_cons, List.not_mem_nil, or_false] at e ⊢
    omega)), fun i _ => by rw [h 18 (by decide)], by rw [h 23 (by decide)], ⟨by rw [h 27 (by decide)], by rw [h 40 (by decide)], by rw [h 41 (by decide)]⟩, fun d _ => z_day_congr (h 21 (by decide)) (h 22 (by decide)) d⟩
theorem z_eq.f {Z Z' : zZ} (h : z_eq Z Z') (l : List Nat) (hl : ∀ f, f ∈ l → f ∉ [0, 13, 14, 15, 16, 18, 21, 22, 23, 27, 40, 41]) : ∀ f, f ∈ l → Z' f = Z f := fun f hf => h.1 f (hl f hf)
theorem z_eq.C {Z Z' : zZ} (h : z_eq Z Z') : z_C Z Z' := h.f _ (by decide)
theorem z_eq.nw {Z Z' : zZ} (h : z_eq Z Z') {i : Nat} (hi : i < 12) : z_nw Z' i = z_nw Z i := by
  unfold z_nw
  rw [h.2.1 i hi, h.1 17 (by decide)]
theorem z_eq.n21 {Z Z' : zZ} (h : z_eq Z Z') {d : Nat} (hd : d ≤ 60) : Z' 21 d = Z 21 d := by
  have := congrArg List.length (h.2.2.2.2 d hd)
  rw [z_day_len, z_day_len] at this
  exact this
theorem RV.eq {V : vV} {Z Z' : zZ} (hV : RV V Z) (h : z_eq Z Z') : RV V Z' := by
  obtain ⟨m1, m2, m3, m4, m5, m6, m7, m8, m9, m10, m11⟩ := hV
  refine ⟨m1.cg (fun _ _ => rfl) (h.f _ (by decide)), m2.cg (fun _ _ => rfl) (h.f _ (by decide)), m3.cg (fun _ _ => rfl) (fun _ _ _ _ => rfl) h.C, m4.cg (fun _ _ => rfl) (h.1 10 (by decide)), m5.cg rfl (fun _ _ => rfl) (h.f _ (by decide)), m6, fun b hb => ?_, fun d hd => ?_, ?_, ?_, ?_⟩
  · have m := m7 b hb
    rw [h.1 17 (by decide), h.1 19 (by decide), h.1 34 (by decide), h.1 35 (by decide), h.1 36 (by decide), h.1 37 (by decide), h.1 38 (by decide), h.2.1 b (by omega), h.2.1 (6 + b) (by omega)]
    exact m
  · rw [h.2.2.2.2 d hd]
    exact m8 d hd
  · refine ⟨fun i hi => ?_, ?_, ?_, ?_, ?_⟩
    · rw [h.1 24 (by decide)]
      exact m9.1 i hi
    · rw [h.1 20 (by decide)]
      exact m9.2.1
    · rw [h.2.2.1]
      exact m9.2.2.1
    · rw [h.1 25 (by decide)]
      exact m9.2.2.2.1
    · rw [h.1 26 (by decide)]
      exact m9.2.2.2.2
  · unfold V_G
    rw [h.2.2.2.1.1, h.1 28 (by decide), h.1 29 (by decide), h.1 30 (by decide), h.1 31 (by decide), h.1 32 (by decide)]
    exact m10
  · unfold V_S
    rw [h.1 33 (by decide), h.1 39 (by decide), h.2.2.2.1.2.1, h.2.2.2.1.2.2]
    exact m11
theorem z_eq.P {Z Z' : zZ} (h : z_eq Z Z') (hP : z_P Z) : z_P Z' := fun d hd => by
  rw [h.n21 hd, h.2.2.2.2 d hd, h.1 10 (by decide)]
  exact hP d hd
theorem z_eq.B {Z Z' : zZ} (h : z_eq Z Z') (hB : z_B Z) : z_B Z' := ⟨fun b hb => by rw [h.1 19 (by decide)]; exact hB.1 b hb, fun b hb => by rw [h.2.1 b hb]; exact hB.2 b hb⟩
theorem IZ.eq {Z Z' : zZ} (hI : IZ Z) (h : z_eq Z Z') : IZ Z' := by
  obtain ⟨⟨h1, h2, h3, h4, h5, h6⟩, f1, f2, f3, f4, f5⟩ := hI
  have c := h.C
  have e20 := h.1 20 (by decide)
  refine ⟨⟨z_C_M c h1, z_C_TT c h2, h.B h3, h.P h4, ?_, by rw [e20]; exact h6⟩, ?_, ?_, ?_, ?_, ?_⟩
  · unfold z_R4
    rw [h.1 24 (by decide), h.1 25 (by decide), h.1 26 (by decide)]
    exact h5
  · intro d h1' h2' t ht
    rw [e20] at h1'
    rw [h.2.2.2.2 d h2'] at ht
    rw [z_fit_c12 h1 h2 c h.2.1 (h.1 19 (by decide)) ((h4 d h2').2 t ht)]
    exact f1 d h1' h2' t ht
  · intro d hd
    rw [h.2.2.2.2 d hd]
    exact f2 d hd
  · intro h0 i hi
    rw [h.2.2.2.1.1] at h0
    rw [h.nw hi]
    exact f3 h0 i hi
  · unfold I_g
    rw [h.2.2.2.1.1, h.1 28 (by decide), h.1 10 (by decide), e20, h.2.2.2.2 _ h6, h.1 29 (by decide), z_C_st c, h.1 30 (by decide), h.1 31 (by decide), z_C_L c, h.1 32 (by decide)]
    refine ⟨f4.1, fun on => ?_⟩
    obtain ⟨g1, g2, g3, g4, g5, g6, g7⟩ := f4.2 on
    refine ⟨g1, g2, g3, g4, g5, g6, fun b hb hb6 => ?_⟩
    rw [h.nw (by omega), h.nw (by omega)]
    exact g7 b hb hb6
  · unfold I_n
    rw [h.1 35 (by decide), h.1 33 (by decide), h.1 34 (by decide)]
    exact f5
/-! both go on alike -/
theorem z_eq_pp {Z Z' : zZ} (h : z_eq Z Z') : z_pp Z' = z_pp Z := by
  funext b
  unfold z_pp
  rw [h.1 29 (by decide)]
theorem z_eq_sk {Z Z' : zZ} (h : z_eq Z Z') (row : Nat) : ∀ p, z_sk Z' row p 17 = z_sk Z row p 17
  | 0 => h.1 17 (by decide)
  | p + 1 => by
    have ih := z_eq_sk h row p
    have e : ∀ W : zZ, z_sk W row (p + 1) = if z_pp W (ro_bl row p) = true then z_sk W row p else z_bw (z_sk W row p) (ro_bl row p) (W 31 0) := fun _ => rfl
    rw [e, e, z_eq_pp h, h.1 31 (by decide)]
    split
    · exact ih
    · funext i
      have u : ∀ W : zZ, z_bw W (ro_bl row p) (Z 31 0) 17 i = if i = 6 + ro_bl row p then W 17 (6 + ro_bl row p) + 1 else if i = ro_bl row p then W 17 (ro_bl row p) + (1 + Z 31 0 % 2) else W 17 i := fun W => by
        unfold z_bw
        by_cases e1 : i = 6 + ro_bl row p
        · rw [e1, up_s, if_pos rfl]
        · rw [up_i e1, if_neg e1]
          by_cases e2 : i = ro_bl row p
          · rw [e2, up_s, if_pos rfl]
          · rw [up_i e2, if_neg e2]
      rw [u, u, ih]
theorem z_eq_at {Z Z' : zZ} (h : z_eq Z Z') : z_at Z' = z_at Z := by
  funext row p
  unfold z_at z_du
  rw [z_eq_pp h, h.1 35 (by decide), h.1 30 (by decide), h.1 28 (by decide), h.1 31 (by decide), h.1 32 (by decide), z_C_st h.C]
theorem z_eq_wg {Z Z' : zZ} (h : z_eq Z Z') (row : Nat) : ∀ p, z_wg Z' row p = z_wg Z row p
  | 0 => rfl
  | p + 1 => by
    show (z_wg Z' row p || (decide (0 < p) && decide (z_at Z' row p ≤ z_at Z' row (p - 1)))) = (z_wg Z row p || (decide (0 < p) && decide (z_at Z row p ≤ z_at Z row (p - 1))))
    rw [z_eq_wg h row p, z_eq_at h]
theorem z_eq_2 {Z Z' : zZ} (h : z_eq Z Z') (row n : Nat) : z_eq (z_2 Z row n) (z_2 Z' row n) := by
  have k : ∀ W : zZ, ∀ f, f ∉ [17, 31, 39] → z_2 W row n f = W f := fun W f hf => z_2_f hf
  refine ⟨fun f hf => ?_, fun i hi => ?_, ?_, ⟨?_, ?_, ?_⟩, fun d hd => ?_⟩
  · by_cases e : f ∈ [17, 31, 39]
    · simp only [List.mem_cons, List.not_mem_nil, or_false] at e
      rcases e with rfl | rfl | rfl
      · unfold z_2
        rw [up_f (show 17 ≠ 31 by decide), up_f (show 17 ≠ 39 by decide), up_f (show 17 ≠ 31 by decide), up_f (show 17 ≠ 39 by decide)]
        exact z_eq_sk h row n
      · unfold z_2
        funext i
        rw [h.1 31 (by decide)]
        by_cases e : i = 0
        · rw [e, up_s, up_s]
        · rw [up_i e, up_i e, up_i e, up_i e, z_sk_f (show 31 ≠ 17 by decide), z_sk_f (show 31 ≠ 17 by decide), h.1 31 (by decide)]
      · unfold z_2
        rw [up_f (show 39 ≠ 31 by decide), up_f (show 39 ≠ 31 by decide)]
        funext i
        rw [h.1 39 (by decide), z_eq_wg h]
        by_cases e : i = 0
        · rw [e, up_s, up_s]
        · rw [up_i e, up_i e, z_sk_f (show 39 ≠ 17 by decide), z_sk_f (show 39 ≠ 17 by decide), h.1 39 (by decide)]
    · rw [k Z' f e, k Z f e]
      exact h.1 f hf
  · rw [k _ 18 (by decide), k _ 18 (by decide)]
    exact h.2.1 i hi
  · rw [k _ 23 (by decide), k _ 23 (by decide)]
    exact h.2.2.1
  · rw [k _ 27 (by decide), k _ 27 (by decide)]
    exact h.2.2.2.1.1
  · rw [k _ 40 (by decide), k _ 40 (by decide)]
    exact h.2.2.2.1.2.1
  · rw [k _ 41 (by decide), k _ 41 (by decide)]
    exact h.2.2.2.1.2.2
  · rw [z_day_congr (k Z' 21 (by decide)) (k Z' 22 (by decide)), z_day_congr (k Z 21 (by decide)) (k Z 22 (by decide))]
    exact h.2.2.2.2 d hd
theorem z_eq_any {Z Z' : zZ} (h : z_eq Z Z') : ∀ k, k ≤ 6 → z_any Z' k = z_any Z k
  | 0, _ => rfl
  | k + 1, hk => by
    show ((z_any Z' k || z_nw Z' k) || z_nw Z' (6 + k)) = ((z_any Z k || z_nw Z k) || z_nw Z (6 + k))
    rw [z_eq_any h k (by omega), h.nw (by omega), h.nw (by omega)]
theorem z_eq_lk {Z Z' Z1 Z1' : zZ} (h : z_eq Z Z') (h1 : z_lk Z Z1) (h2 : z_lk Z' Z1') : z_eq Z1 Z1' := by
  refine ⟨fun f hf => ?_, fun i hi => ?_, ?_, ⟨?_, ?_, ?_⟩, fun d hd => ?_⟩
  · have e : f ≠ 18 := fun e => hf (by rw [e]; decide)
    rw [h2.1 f e, h1.1 f e]
    exact h.1 f hf
  · rw [h2.2 i hi, h1.2 i hi]
    unfold z_nv
    rw [h.nw hi, h.2.1 i hi]
  · rw [h2.1 23 (by decide), h1.1 23 (by decide)]
    exact h.2.2.1
  · rw [h2.1 27 (by decide), h1.1 27 (by decide)]
    exact h.2.2.2.1.1
  · rw [h2.1 40 (by decide), h1.1 40 (by decide)]
    exact h.2.2.2.1.2.1
  · rw [h2.1 41 (by decide), h1.1 41 (by decide)]
    exact h.2.2.2.1.2.2
  · rw [z_day_congr (h2.1 21 (by decide)) (h2.1 22 (by decide)), z_day_congr (h1.1 21 (by decide)) (h1.1 22 (by decide))]
    exact h.2.2.2.2 d hd
theorem z_eq_dr {Z Z' Z1 Z1' : zZ} (hM : z_M Z) (hT : z_TT Z) (hP : z_P Z) (h20 : Z 20 0 ≤ 60) (h : z_eq Z Z') (h1 : z_dr Z Z1) (h2 : z_dr Z' Z1') : z_eq Z1 Z1' := by
  have ef : ∀ t, t < Z 10 0 → z_fit Z' t = z_fit Z t := fun t ht => z_fit_c12 hM hT h.C h.2.1 (h.1 19 (by decide)) ht
  have e20 := h.1 20 (by decide)
  refine ⟨fun f hf => ?_, fun i hi => ?_, ?_, ⟨?_, ?_, ?_⟩, fun d hd => ?_⟩
  · have e : f ∉ [13, 14, 21, 22, 23] := fun e => hf (by
      simp only [List.mem_cons, List.not_mem_nil, or_false] at e ⊢
      omega)
    rw [h2.1 f e, h1.1 f e]
    exact h.1 f hf
  · rw [h2.1 18 (by decide), h1.1 18 (by decide)]
    exact h.2.1 i hi
  · rw [h2.2.1, h1.2.1, h.2.2.1, e20, z_cnt_c (fun d hd t ht => ef t ((hP d hd).2 t ht)) h.2.2.2.2 (Z 20 0) (61 - Z 20 0) (by omega)]
  · rw [h2.1 27 (by decide), h1.1 27 (by decide)]
    exact h.2.2.2.1.1
  · rw [h2.1 40 (by decide), h1.1 40 (by decide)]
    exact h.2.2.2.1.2.1
  · rw [h2.1 41 (by decide), h1.1 41 (by decide)]
    exact h.2.2.2.1.2.2
  · by_cases e : d < Z 20 0
    · rw [h2.2.2.1 d (by rw [e20]; exact e), h1.2.2.1 d e]
      exact h.2.2.2.2 d hd
    · rw [h2.2.2.2 d (by rw [e20]; omega) hd, h1.2.2.2 d (by omega) hd, h.2.2.2.2 d hd]
      exact (z_un_c (fun t ht => ef t ((hP d hd).2 t ht))).2
theorem z_eq_lo {Z Z' Z1 Z1' : zZ} (hM : z_M Z) (hT : z_TT Z) (hP : z_P Z) (h20 : Z 20 0 ≤ 60) (h : z_eq Z Z') (h1 : z_lo Z Z1) (h2 : z_lo Z' Z1') : z_eq Z1 Z1' := by
  have ea := z_eq_any h 6 (Nat.le_refl _)
  rcases h1 with ⟨x, h1⟩ | ⟨x, Y, h1, d1⟩
  · rcases h2 with ⟨y, h2⟩ | ⟨y, _⟩
    · exact z_eq_lk h h1 h2
    · rw [ea, x] at y
      cases y
  · rcases h2 with ⟨y, _⟩ | ⟨y, Y', h2, d2⟩
    · rw [ea, x] at y
      cases y
    · have c : z_C Z Y := fun f hf => h1.1 f (fun e => by subst e; exact absurd hf (by decide))
      exact z_eq_dr (z_C_M c hM) (z_C_TT c hT) (z_lk_P h1 hP) (by rw [h1.1 20 (by decide)]; exact h20) (z_eq_lk h h1 h2) d1 d2
theorem z_nd_eq {l : List Nat} {t : Nat} : ∀ {j k : Nat}, l.Nodup → l[j]? = some t → l[k]? = some t → l.eraseIdx j = l.eraseIdx k := fun h h1 h2 => by rw [← z_era_f h h1, ← z_era_f h h2]
theorem z_eq_row {Z Z' W W' : zZ} {row n L : Nat} (hM : z_M Z) (hT : z_TT Z) (hP : z_P Z) (h20 : Z 20 0 ≤ 60) (hnd : I_nd Z) (hn : n ≤ 6) (h : z_eq Z Z') (h1 : z_rowR Z row n L W) (h2 : z_rowR Z' row n L W') : z_eq W W' := by
  obtain ⟨Z3, l1, r1⟩ := h1
  obtain ⟨Z4, l2, r2⟩ := h2
  have c2 : z_C Z (z_2 Z row n) := z_2_C
  have k : ∀ f, f ∉ [17, 31, 39] → z_2 Z row n f = Z f := fun f hf => z_2_f hf
  have d2 : ∀ d, z_day (z_2 Z row n) d = z_day Z d := z_day_congr (k 21 (by decide)) (k 22 (by decide))
  have e34 := z_eq_lo (z_C_M c2 hM) (z_C_TT c2 hT) (z_P_congr (k 21 (by decide)) (k 22 (by decide)) (k 10 (by decide)) hP) (by rw [k 20 (by decide)]; exact h20) (z_eq_2 h row n) l1 l2
  have ea : z_are Z4 n = z_are Z3 n := z_are_c12 e34.2.1 (e34.1 19 (by decide)) n hn
  have e31 : Z' 31 0 = Z 31 0 := by rw [h.1 31 (by decide)]
  have e20 : Z' 20 0 = Z 20 0 := by rw [h.1 20 (by decide)]
  have e28 : Z' 28 0 = Z 28 0 := by rw [h.1 28 (by decide)]
  have nd3 : (z_day Z3 (Z 20 0)).Nodup := by
    have base := hnd _ h20
    rcases l1 with ⟨_, x⟩ | ⟨_, Y, x, y⟩
    · rw [z_day_congr (x.1 21 (by decide)) (x.1 22 (by decide)), d2]
      exact base
    · have e : Y 20 0 = Z 20 0 := by rw [x.1 20 (by decide), k 20 (by decide)]
      rw [y.2.2.2 (Z 20 0) (by rw [e]; exact Nat.le_refl _) h20, z_day_congr (x.1 21 (by decide)) (x.1 22 (by decide)), d2]
      exact base.filter _
  rcases r1 with ⟨x, a1, a2⟩ | ⟨x, x1, a1, a2, a3, a4, ⟨j, a5, a6⟩, a7⟩ | ⟨x, x1, a1⟩
  · rcases r2 with ⟨_, b1, b2⟩ | ⟨y, _⟩ | ⟨y, _⟩
    · refine ⟨fun f hf => ?_, fun i hi => ?_, ?_, ⟨by rw [a2, b2], ?_, ?_⟩, fun d hd => ?_⟩
      · have e : f ∉ [13, 14, 27] := fun e => hf (by
          simp only [List.mem_cons, List.not_mem_nil, or_false] at e ⊢
          omega)
        rw [b1 f e, a1 f e]
        exact e34.1 f hf
      · rw [b1 18 (by decide), a1 18 (by decide)]
        exact e34.2.1 i hi
      · rw [b1 23 (by decide), a1 23 (by decide)]
        exact e34.2.2.1
      · rw [b1 40 (by decide), a1 40 (by decide)]
        exact e34.2.2.2.1.2.1
      · rw [b1 41 (by decide), a1 41 (by decide)]
        exact e34.2.2.2.1.2.2
      · rw [z_day_congr (b1 21 (by decide)) (b1 22 (by decide)), z_day_congr (a1 21 (by decide)) (a1 22 (by decide))]
        exact e34.2.2.2.2 d hd
    · rw [ea, x] at y
      cases y
    · rw [ea, x] at y
      cases y
  · rcases r2 with ⟨y, _⟩ | ⟨_, y1, b1, b2, b3, b4, ⟨j', b5, b6⟩, b7⟩ | ⟨_, y1, _⟩
    · rw [ea, x] at y
      cases y
    · refine ⟨fun f hf => ?_, fun i hi => ?_, ?_, ⟨by rw [a2, b2], ?_, ?_⟩, fun d hd => ?_⟩
      · have e : f ∉ [13, 14, 21, 22, 27, 40, 41] := fun e => hf (by
          simp only [List.mem_cons, List.not_mem_nil, or_false] at e ⊢
          omega)
        rw [b1 f e, a1 f e]
        exact e34.1 f hf
      · rw [b1 18 (by decide), a1 18 (by decide)]
        exact e34.2.1 i hi
      · rw [b1 23 (by decide), a1 23 (by decide)]
        exact e34.2.2.1
      · rw [b3, a3, h.2.2.2.1.2.1]
      · rw [b4, a4, e28]
      · by_cases e : d = Z 20 0
        · rw [e20, e28] at b5
          rw [e20] at b6
          rw [e, b6, a6]
          rw [e34.2.2.2.2 _ h20] at b5 ⊢
          exact z_nd_eq nd3 b5 a5
        · rw [b7 d (by rw [e20]; exact e) hd, a7 d e hd]
          exact e34.2.2.2.2 d hd
    · rw [e31] at y1
      exact absurd x1 y1
  · rcases r2 with ⟨y, _⟩ | ⟨_, y1, _⟩ | ⟨_, _, b1⟩
    · rw [ea, x] at y
      cases y
    · rw [e31] at y1
      exact absurd y1 x1
    · exact ((z_scr.eq ((z_scr.refl Z3).E a1)) |> fun q => ⟨fun f hf => ((z_scr.eq ((z_scr.refl Z4).E b1)).1 f hf).trans ((e34.1 f hf).trans (q.1 f hf).symm), fun i hi => ((z_scr.eq ((z_scr.refl Z4).E b1)).2.1 i hi).trans ((e34.2.1 i hi).trans (q.2.1 i hi).symm), ((z_scr.eq ((z_scr.refl Z4).E b1)).2.2.1).trans (e34.2.2.1.trans q.2.2.1.symm), ⟨(z_scr.eq ((z_scr.refl Z4).E b1)).2.2.2.1.1.trans (e34.2.2.2.1.1.trans q.2.2.2.1.1.symm), (z_scr.eq ((z_scr.refl Z4).E b1)).2.2.2.1.2.1.trans (e34.2.2.2.1.2.1.trans q.2.2.2.1.2.1.symm), (z_scr.eq ((z_scr.refl Z4).E b1)).2.2.2.1.2.2.trans (e34.2.2.2.1.2.2.trans q.2.2.2.1.2.2.symm)⟩, fun d hd => ((z_scr.eq ((z_scr.refl Z4).E b1)).2.2.2.2 d hd).trans ((e34.2.2.2.2 d hd).trans (q.2.2.2.2 d hd).symm)⟩)
