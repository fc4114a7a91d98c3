/-! there is a state behind a row; what holds of it -/
def z_sday (W : zZ) (g : Nat → List Nat) : zZ := fun f i => if f = 21 then (g i).length else if f = 22 then (g (i / 4)).getD (i % 4) 0 else W f i
theorem z_sday_f {W : zZ} {g : Nat → List Nat} {f : Nat} (h1 : f ≠ 21) (h2 : f ≠ 22) : z_sday W g f = W f := funext fun i => by
  unfold z_sday
  rw [if_neg h1, if_neg h2]
theorem z_sday_day {W : zZ} {g : Nat → List Nat} {d : Nat} (h : (g d).length ≤ 4) : z_day (z_sday W g) d = g d := by
  apply List.ext_getElem?
  intro k
  rw [z_day_get, show z_sday W g 21 d = (g d).length from if_pos rfl]
  by_cases e : k < (g d).length
  · rw [if_pos e, show z_sday W g 22 (4 * d + k) = (g ((4 * d + k) / 4)).getD ((4 * d + k) % 4) 0 from by unfold z_sday; rw [if_neg (by decide), if_pos rfl], show (4 * d + k) / 4 = d by omega, show (4 * d + k) % 4 = k by omega, List.getElem?_eq_getElem e, List.getD_eq_getElem?_getD, List.getElem?_eq_getElem e]
    rfl
  · rw [if_neg e, List.getElem?_eq_none (by omega)]
theorem z_dr_ex {W : zZ} (hP : z_P W) (h20 : W 20 0 ≤ 60) : ∃ W', z_dr W W' := by
  refine ⟨up (z_sday W (fun d => if d < W 20 0 then z_day W d else (z_day W d).filter (z_fit W))) 23 0 (W 23 0 + z_cnt W (W 20 0) (61 - W 20 0)), fun f hf => ?_, ?_, fun d hd => ?_, fun d h1 h2 => ?_⟩
  · have : f ≠ 21 ∧ f ≠ 22 ∧ f ≠ 23 := by
      simp only [List.mem_cons, List.not_mem_nil, or_false] at hf
      omega
    rw [up_f this.2.2, z_sday_f this.1 this.2.1]
  · rw [up_s, nI_add]
  · have l := (hP d (by omega)).1
    rw [z_up_day (by decide) (by decide), z_sday_day (by rw [if_pos hd, z_day_len]; exact l), if_pos hd]
  · have l := (hP d h2).1
    have l2 := List.length_filter_le (z_fit W) (z_day W d)
    rw [z_day_len] at l2
    rw [z_up_day (by decide) (by decide), z_sday_day (by rw [if_neg (by omega)]; omega), if_neg (by omega)]
theorem z_lo_ex {W : zZ} (hP : z_P W) (h20 : W 20 0 ≤ 60) : ∃ W', z_lo W W' := by
  have l := z_lkF_lk W
  cases e : z_any W 6 with
  | false => exact ⟨_, Or.inl ⟨e, l⟩⟩
  | true =>
    obtain ⟨W', h⟩ := z_dr_ex (z_lk_P l hP) (by rw [l.1 20 (by decide)]; exact h20)
    exact ⟨W', Or.inr ⟨e, _, l, h⟩⟩
/-- what the looking leaves -/
theorem z_lo_I {Z Z3 : zZ} (hM : z_M Z) (hT : z_TT Z) (hP : z_P Z) (hB : z_B Z) (h20 : Z 20 0 ≤ 60) (f1 : I_fit Z) (f2 : I_nd Z) (h : z_lo Z Z3) : I_fit Z3 ∧ I_nd Z3 ∧ (∀ i, i < 12 → z_nw Z3 i = false) ∧ ∀ t n, t ∈ z_day Z (Z 20 0) → z_st Z t = n → z_are Z3 n = true → t ∈ z_day Z3 (Z 20 0) := by
  rcases h with ⟨e, l⟩ | ⟨e, Z1, l, dr⟩
  · have c : z_C Z Z3 := fun f hf => l.1 f (fun e => by subst e; exact absurd hf (by decide))
    have i18 : ∀ i, i < 12 → Z3 18 i = Z 18 i := fun i hi => by rw [l.2 i hi, z_nv_no (z_any_f12 e hi)]
    have d3 : ∀ d, z_day Z3 d = z_day Z d := z_day_congr (l.1 21 (by decide)) (l.1 22 (by decide))
    refine ⟨fun d h1 h2 u hu => ?_, fun d hd => ?_, fun i hi => z_lk_nw l hi, fun t n ht _ _ => ?_⟩
    · rw [d3] at hu
      rw [l.1 20 (by decide)] at h1
      rw [z_fit_c12 hM hT c i18 (l.1 19 (by decide)) ((hP d h2).2 u hu)]
      exact f1 d h1 h2 u hu
    · rw [d3]
      exact f2 d hd
    · rw [d3]
      exact ht
  · have c : z_C Z Z1 := fun f hf => l.1 f (fun e => by subst e; exact absurd hf (by decide))
    have e20 : Z1 20 = Z 20 := l.1 20 (by decide)
    have d1 : ∀ d, z_day Z1 d = z_day Z d := z_day_congr (l.1 21 (by decide)) (l.1 22 (by decide))
    have f3 : z_fit Z3 = z_fit Z1 := z_fit_congr (fun f hf => dr.1 f (fun e => by
      simp only [List.mem_cons, List.not_mem_nil, or_false] at hf e
      omega)) (dr.1 18 (by decide)) (dr.1 19 (by decide))
    refine ⟨fun d h1 h2 u hu => ?_, fun d hd => ?_, fun i hi => ?_, fun t n ht en ha => ?_⟩
    · rw [dr.1 20 (by decide)] at h1
      rw [dr.2.2.2 d h1 h2] at hu
      rw [f3]
      exact (List.mem_filter.mp hu).2
    · by_cases x : d < Z1 20 0
      · rw [dr.2.2.1 d x, d1]
        exact f2 d hd
      · rw [dr.2.2.2 d (by omega) hd, d1]
        exact (f2 d hd).filter _
    · rw [z_nw_congr (dr.1 17 (by decide)) (dr.1 18 (by decide))]
      exact z_lk_nw l hi
    · have h0 := f1 _ (Nat.le_refl _) h20 t ht
      unfold z_fit at h0
      rw [Bool.and_eq_true] at h0
      rw [dr.2.2.2 (Z 20 0) (by rw [e20]; exact Nat.le_refl _) h20, d1]
      refine List.mem_filter.mpr ⟨ht, ?_⟩
      unfold z_fit
      rw [z_C_st c, z_C_snd c, en, h0.2, Bool.and_true, ← z_are_congr (dr.1 18 (by decide)) (dr.1 19 (by decide))]
      exact ha
theorem z_row_ex {Z : zZ} {t n row : Nat} (hI : IZ Z) (on : Z 27 0 = 1) (et : Z 28 0 = t) (en : z_st Z t = n) : ∃ W, z_rowR Z row n (z_L Z t) W := by
  obtain ⟨⟨hM, hT, hB, hP, hR4, h20⟩, f1, f2, f3, f4, f5⟩ := hI
  obtain ⟨g1, g2, g3, g4, g5, g6, g7⟩ := f4.2 on
  rw [et] at g1 g2
  have c2 : z_C Z (z_2 Z row n) := z_2_C
  have k : ∀ f, f ∉ [17, 31, 39] → z_2 Z row n f = Z f := fun f hf => z_2_f hf
  have d2 : ∀ d, z_day (z_2 Z row n) d = z_day Z d := z_day_congr (k 21 (by decide)) (k 22 (by decide))
  have hP2 : z_P (z_2 Z row n) := z_P_congr (k 21 (by decide)) (k 22 (by decide)) (k 10 (by decide)) hP
  have e20 := k 20 (by decide)
  have fy : z_fit (z_2 Z row n) = z_fit Z := z_fit_congr c2 (k 18 (by decide)) (k 19 (by decide))
  obtain ⟨Z3, lo⟩ := z_lo_ex hP2 (by rw [e20]; exact h20)
  have li := z_lo_I (z_C_M c2 hM) (z_C_TT c2 hT) hP2 (z_B_congr (k 18 (by decide)) (k 19 (by decide)) hB) (by rw [e20]; exact h20) (fun d h1 h2 u hu => by rw [d2] at hu; rw [e20] at h1; rw [fy]; exact f1 d h1 h2 u hu) (fun d hd => by rw [d2]; exact f2 d hd) lo
  have hP3 := z_lo_P lo hP2
  cases a : z_are Z3 n with
  | false => exact ⟨up Z3 27 0 0, Z3, lo, Or.inl ⟨a, fun f hf => up_f (fun e => hf (by rw [e]; decide)), up_s _ _ _ _⟩⟩
  | true =>
    by_cases eL : Z 31 0 + 1 = z_L Z t
    · have ht3 := li.2.2.2 t n (by rw [e20, d2]; exact g2) (by rw [z_C_st c2]; exact en) a
      rw [e20] at ht3
      obtain ⟨j, hj⟩ := List.getElem?_of_mem ht3
      have wd : ∀ d, d ≤ 60 → z_day (z_sday Z3 (fun d => if d = Z 20 0 then (z_day Z3 d).eraseIdx j else z_day Z3 d)) d = if d = Z 20 0 then (z_day Z3 d).eraseIdx j else z_day Z3 d := fun d hd => z_sday_day (by
        have l := (hP3 d hd).1
        have l2 := List.length_eraseIdx_le (z_day Z3 d) j
        rw [z_day_len] at l2
        split
        · omega
        · rw [z_day_len]
          exact l)
      have ud : ∀ d, z_day (up (up (up (z_sday Z3 (fun d => if d = Z 20 0 then (z_day Z3 d).eraseIdx j else z_day Z3 d)) 27 0 0) 40 0 (Z 40 0 + 1)) 41 0 (Z 28 0)) d = z_day (z_sday Z3 (fun d => if d = Z 20 0 then (z_day Z3 d).eraseIdx j else z_day Z3 d)) d := fun d => by
        rw [z_up_day (by decide) (by decide), z_up_day (by decide) (by decide), z_up_day (by decide) (by decide)]
      refine ⟨up (up (up (z_sday Z3 (fun d => if d = Z 20 0 then (z_day Z3 d).eraseIdx j else z_day Z3 d)) 27 0 0) 40 0 (Z 40 0 + 1)) 41 0 (Z 28 0), Z3, lo, Or.inr (Or.inl ⟨a, eL, fun f hf => ?_, ?_, ?_, ?_, ⟨j, ?_, ?_⟩, fun d h1 h2 => ?_⟩)⟩
      · have : f ≠ 21 ∧ f ≠ 22 ∧ f ≠ 27 ∧ f ≠ 40 ∧ f ≠ 41 := by
          simp only [List.mem_cons, List.not_mem_nil, or_false] at hf
          omega
        rw [up_f this.2.2.2.2, up_f this.2.2.2.1, up_f this.2.2.1, z_sday_f this.1 this.2.1]
      · rw [up_f (by decide), up_f (by decide), up_s]
      · rw [up_f (by decide), up_s]
      · rw [up_s]
      · rw [et]
        exact hj
      · rw [ud, wd _ h20, if_pos rfl]
      · rw [ud, wd d h2, if_neg h1]
    · exact ⟨Z3, Z3, lo, Or.inr (Or.inr ⟨a, eL, fun _ _ _ => rfl⟩)⟩
theorem z_row_31 {Z W : zZ} {row n L : Nat} (h : z_rowR Z row n L W) : W 31 0 = Z 31 0 + 1 := by
  obtain ⟨Z3, lo, r⟩ := h
  have e : Z3 31 0 = Z 31 0 + 1 := by
    rw [z_lo_f lo 31 (by decide)]
    exact up_s _ _ _ _
  rcases r with ⟨_, a, _⟩ | ⟨_, _, a, _⟩ | ⟨_, _, a⟩
  · rw [a 31 (by decide)]
    exact e
  · rw [a 31 (by decide)]
    exact e
  · rw [a 31 (by decide) (by decide)]
    exact e
theorem z_row_I {Z W : zZ} {t n row : Nat} (hI : IZ Z) (on : Z 27 0 = 1) (et : Z 28 0 = t) (en : z_st Z t = n) (h : z_rowR Z row n (z_L Z t) W) : IZ W := by
  obtain ⟨⟨hM, hT, hB, hP, hR4, h20⟩, f1, f2, f3, f4, f5⟩ := hI
  obtain ⟨g1, g2, g3, g4, g5, g6, g7⟩ := f4.2 on
  rw [et] at g1 g2 g3 g5 g7
  have c2 : z_C Z (z_2 Z row n) := z_2_C
  have k : ∀ f, f ∉ [17, 31, 39] → z_2 Z row n f = Z f := fun f hf => z_2_f hf
  have d2 : ∀ d, z_day (z_2 Z row n) d = z_day Z d := z_day_congr (k 21 (by decide)) (k 22 (by decide))
  have hP2 : z_P (z_2 Z row n) := z_P_congr (k 21 (by decide)) (k 22 (by decide)) (k 10 (by decide)) hP
  have hB2 : z_B (z_2 Z row n) := z_B_congr (k 18 (by decide)) (k 19 (by decide)) hB
  have e20 := k 20 (by decide)
  have fy : z_fit (z_2 Z row n) = z_fit Z := z_fit_congr c2 (k 18 (by decide)) (k 19 (by decide))
  have e31 := z_row_31 h
  obtain ⟨Z3, lo, r⟩ := h
  have li := z_lo_I (z_C_M c2 hM) (z_C_TT c2 hT) hP2 hB2 (by rw [e20]; exact h20) (fun d h1 h2 u hu => by rw [d2] at hu; rw [e20] at h1; rw [fy]; exact f1 d h1 h2 u hu) (fun d hd => by rw [d2]; exact f2 d hd) lo
  have k3 : ∀ f, f ∉ [13, 14, 17, 18, 21, 22, 23, 31, 39] → Z3 f = Z f := fun f hf => (z_lo_f lo f (fun e => hf (by
    simp only [List.mem_cons, List.not_mem_nil, or_false] at e ⊢
    omega))).trans (k f (fun e => hf (by
    simp only [List.mem_cons, List.not_mem_nil, or_false] at e ⊢
    omega)))
  have hP3 := z_lo_P lo hP2
  have hB3 := z_lo_B lo hB2
  have c3 : z_C Z Z3 := fun f hf => k3 f (fun e => by
    simp only [List.mem_cons, List.not_mem_nil, or_false] at hf e
    omega)
  have I3 : ∀ W : zZ, (∀ f, f ∈ [2, 3, 4, 5, 6, 7, 10, 11, 12, 17, 18, 19, 20, 24, 25, 26, 33, 34, 35] → W f = Z3 f) → (∀ d, d ≤ 60 → ∃ p : Nat → Bool, z_day W d = (z_day Z3 d).filter p) → I_g W → IZ W := by
    intro W wf wd wg
    have cW : z_C Z3 W := fun f hf => wf f (by
      simp only [List.mem_cons, List.not_mem_nil, or_false] at hf ⊢
      omega)
    have nW : z_nw W = z_nw Z3 := z_nw_congr (wf 17 (by decide)) (wf 18 (by decide))
    have fW : z_fit W = z_fit Z3 := z_fit_congr cW (wf 18 (by decide)) (wf 19 (by decide))
    refine ⟨⟨z_C_M cW (z_C_M c3 hM), z_C_TT cW (z_C_TT c3 hT), z_B_congr (wf 18 (by decide)) (wf 19 (by decide)) hB3, fun d hd => ?_, ?_, ?_⟩, fun d h1 h2 u hu => ?_, fun d hd => ?_, fun _ i hi => ?_, wg, ?_⟩
    · obtain ⟨p, hp⟩ := wd d hd
      have l := List.length_filter_le p (z_day Z3 d)
      have l3 := hP3 d hd
      rw [← hp, z_day_len, z_day_len] at l
      refine ⟨by omega, fun u hu => ?_⟩
      rw [hp] at hu
      rw [wf 10 (by decide)]
      exact l3.2 u (List.mem_filter.mp hu).1
    · unfold z_R4
      rw [wf 24 (by decide), wf 25 (by decide), wf 26 (by decide), k3 24 (by decide), k3 25 (by decide), k3 26 (by decide)]
      exact hR4
    · rw [wf 20 (by decide), k3 20 (by decide)]
      exact h20
    · obtain ⟨p, hp⟩ := wd d h2
      rw [hp] at hu
      rw [wf 20 (by decide)] at h1
      rw [fW]
      exact li.1 d h1 h2 u (List.mem_filter.mp hu).1
    · obtain ⟨p, hp⟩ := wd d hd
      rw [hp]
      exact (li.2.1 d hd).filter _
    · rw [nW]
      exact li.2.2.1 i hi
    · unfold I_n
      rw [wf 35 (by decide), wf 33 (by decide), wf 34 (by decide), k3 35 (by decide), k3 33 (by decide), k3 34 (by decide)]
      exact f5
  have triv : ∀ d, ∃ p : Nat → Bool, z_day Z3 d = (z_day Z3 d).filter p := fun d => ⟨fun _ => true, (List.filter_eq_self.mpr (fun _ _ => rfl)).symm⟩
  rcases r with ⟨x, a1, a2⟩ | ⟨x, x1, a1, a2, a3, a4, ⟨j, a5, a6⟩, a7⟩ | ⟨x, x1, a1⟩
  · refine I3 W (fun f hf => a1 f (by
      simp only [List.mem_cons, List.not_mem_nil, or_false] at hf ⊢
      omega)) (fun d hd => ?_) ⟨by omega, fun y => by omega⟩
    rw [z_day_congr (a1 21 (by decide)) (a1 22 (by decide))]
    exact triv d
  · refine I3 W (fun f hf => a1 f (by
      simp only [List.mem_cons, List.not_mem_nil, or_false] at hf ⊢
      omega)) (fun d hd => ?_) ⟨by omega, fun y => by omega⟩
    by_cases e : d = Z 20 0
    · subst e
      exact ⟨fun u => !(u == Z 28 0), by rw [a6, z_era_f (li.2.1 _ hd) a5]⟩
    · rw [a7 d e hd]
      exact triv d
  · have wf : ∀ f, f ∉ [13, 14] → W f = Z3 f := fun f hf => a1 f (fun e => hf (by rw [e]; decide)) (fun e => hf (by rw [e]; decide))
    have dW : ∀ d, z_day W d = z_day Z3 d := z_day_congr (wf 21 (by decide)) (wf 22 (by decide))
    have cW : z_C Z W := fun f hf => (wf f (fun e => by
      simp only [List.mem_cons, List.not_mem_nil, or_false] at hf e
      omega)).trans (c3 f hf)
    refine I3 W (fun f hf => wf f (by
      simp only [List.mem_cons, List.not_mem_nil, or_false] at hf ⊢
      omega)) (fun d hd => by rw [dW]; exact triv d) ?_
    have w27 : W 27 = Z 27 := (wf 27 (by decide)).trans (k3 27 (by decide))
    have nW : z_nw W = z_nw Z3 := z_nw_congr (wf 17 (by decide)) (wf 18 (by decide))
    unfold I_g
    rw [w27, (wf 28 (by decide)).trans (k3 28 (by decide)), (wf 10 (by decide)).trans (k3 10 (by decide)), (wf 20 (by decide)).trans (k3 20 (by decide)), dW, (wf 29 (by decide)).trans (k3 29 (by decide)), z_C_st cW, (wf 30 (by decide)).trans (k3 30 (by decide)), z_C_L cW, (wf 32 (by decide)).trans (k3 32 (by decide)), nW, et, e31]
    refine ⟨f4.1, fun _ => ⟨g1, ?_, g3, g4, by omega, g6, fun b _ hb6 => ⟨li.2.2.1 b (by omega), li.2.2.1 (6 + b) (by omega)⟩⟩⟩
    have := li.2.2.2 t n (by rw [e20, d2]; exact g2) (by rw [z_C_st c2]; exact en) x
    rw [e20] at this
    exact this
