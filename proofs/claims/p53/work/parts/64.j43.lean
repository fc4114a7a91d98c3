/-! behind a row: what is looked at, what ends -/
theorem z_any_t {Z : zZ} : ∀ k, z_any Z k = true → ∃ b, b < k ∧ (z_nw Z b = true ∨ z_nw Z (6 + b) = true)
  | 0, h => by cases h
  | k + 1, h => by
    have h' : ((z_any Z k || z_nw Z k) || z_nw Z (6 + k)) = true := h
    rw [Bool.or_eq_true, Bool.or_eq_true] at h'
    rcases h' with (h' | h') | h'
    · obtain ⟨b, hb, e⟩ := z_any_t k h'
      exact ⟨b, by omega, e⟩
    · exact ⟨k, by omega, Or.inl h'⟩
    · exact ⟨k, by omega, Or.inr h'⟩
theorem z_any_f {Z : zZ} : ∀ k, z_any Z k = false → ∀ b, b < k → z_nw Z b = false ∧ z_nw Z (6 + b) = false
  | 0, _, b, hb => absurd hb (Nat.not_lt_zero b)
  | k + 1, h, b, hb => by
    have h' : ((z_any Z k || z_nw Z k) || z_nw Z (6 + k)) = false := h
    rw [Bool.or_eq_false_iff, Bool.or_eq_false_iff] at h'
    by_cases e : b = k
    · subst e
      exact ⟨h'.1.2, h'.2⟩
    · exact z_any_f k h'.1.1 b (by omega)
theorem z_any_f12 {Z : zZ} (h : z_any Z 6 = false) {i : Nat} (hi : i < 12) : z_nw Z i = false := by
  by_cases e : i < 6
  · exact (z_any_f 6 h i e).1
  · have := (z_any_f 6 h (i - 6) (by omega)).2
    rw [show 6 + (i - 6) = i by omega] at this
    exact this
theorem z_sk_17 {Z : zZ} {row b : Nat} (hb : b < 6) : ∀ p, (∀ q, q < p → ro_bl row q < 6 ∧ ro_bl row q ≠ b) → z_sk Z row p 17 b = Z 17 b ∧ z_sk Z row p 17 (6 + b) = Z 17 (6 + b)
  | 0, _ => ⟨rfl, rfl⟩
  | p + 1, h => by
    have ih := z_sk_17 (Z := Z) hb p (fun q hq => h q (by omega))
    have hp := h p (by omega)
    have e : z_sk Z row (p + 1) = if z_pp Z (ro_bl row p) = true then z_sk Z row p else z_bw (z_sk Z row p) (ro_bl row p) (Z 31 0) := rfl
    rw [e]
    split
    · exact ih
    · have := z_bw_17 (z_sk Z row p) (ro_bl row p) (Z 31 0) b hp.1 hb
      rw [this.1, this.2, if_neg (Ne.symm hp.2), if_neg (Ne.symm hp.2)]
      exact ih
theorem z_era_f : ∀ {l : List Nat} {k t : Nat}, l.Nodup → l[k]? = some t → l.filter (fun x => !(x == t)) = l.eraseIdx k
  | [], k, t, _, h => by simp at h
  | a :: l, 0, t, hn, h => by
    have e : a = t := by simpa using h
    subst e
    have hn' := List.nodup_cons.mp hn
    rw [List.filter_cons_of_neg (by simp)]
    show _ = l
    rw [List.filter_eq_self]
    intro x hx
    have : x ≠ a := fun e => hn'.1 (e ▸ hx)
    simpa using this
  | a :: l, k + 1, t, hn, h => by
    have hn' := List.nodup_cons.mp hn
    have h' : l[k]? = some t := by simpa using h
    have : a ≠ t := fun e => hn'.1 (by rw [e]; exact List.mem_of_getElem? h')
    rw [List.filter_cons_of_pos (by simpa using this), z_era_f hn'.2 h']
    rfl
theorem v_filt {V : vV} {Z : zZ} (vJ : ∀ t u, t < Z 10 0 → u < Z 10 0 → V 3003 0 t = V 3003 0 u → t = u) {t : Nat} (ht : t < Z 10 0) : ∀ l : List Nat, (∀ u, u ∈ l → u < Z 10 0) → (l.map (V 3003 0)).filter (fun x => !(x == V 3003 0 t)) = (l.filter (fun x => !(x == t))).map (V 3003 0)
  | [], _ => rfl
  | a :: l, h => by
    have ih := v_filt vJ ht l (fun u hu => h u (List.mem_cons_of_mem _ hu))
    have ha := h a List.mem_cons_self
    by_cases e : a = t
    · subst e
      rw [List.map_cons, List.filter_cons_of_neg (by simp), List.filter_cons_of_neg (by simp)]
      exact ih
    · have e2 : V 3003 0 a ≠ V 3003 0 t := fun x => e (vJ a t ha ht x)
      rw [List.map_cons, List.filter_cons_of_pos (by simpa using e2), List.filter_cons_of_pos (by simpa using e), List.map_cons, ih]
theorem z_dr_id {Z : zZ} (h : I_fit Z) (h20 : Z 20 0 ≤ 60) : z_dr Z Z := by
  have e : ∀ d, Z 20 0 ≤ d → d ≤ 60 → (z_day Z d).filter (z_fit Z) = z_day Z d := fun d h1 h2 => List.filter_eq_self.mpr (h d h1 h2)
  have c : ∀ k, Z 20 0 + k ≤ 61 → z_cnt Z (Z 20 0) k = 0 := by
    intro k
    induction k with
    | zero => intro _; rfl
    | succ k ih =>
      intro hk
      show z_cnt Z (Z 20 0) k + z_un (z_fit Z) (z_day Z (Z 20 0 + k)) = 0
      have l := z_un_len (z_fit Z) (z_day Z (Z 20 0 + k))
      rw [e _ (by omega) (by omega)] at l
      rw [ih (by omega)]
      omega
  refine ⟨fun _ _ => rfl, ?_, fun _ _ => rfl, fun d h1 h2 => (e d h1 h2).symm⟩
  rw [c _ (by omega), nI_add]
  rfl
/-- the touch t was rung to its end, from Z to Z' -/
def z_rg (Z Z' : zZ) (t : Nat) : Prop := (Z 27 0 = 0 ∧ Z' 27 0 = 0 ∧ ∀ f, f ∉ [13, 14, 21, 22, 27, 40, 41] → Z' f = Z f) ∧ Z' 40 0 = Z 40 0 + 1 ∧ Z' 41 0 = t ∧ (∃ k, (z_day Z (Z 20 0))[k]? = some t ∧ z_day Z' (Z 20 0) = (z_day Z (Z 20 0)).eraseIdx k) ∧ ∀ d, d ≠ Z 20 0 → d ≤ 60 → z_day Z' d = z_day Z d
section JFT
variable {E : zE} {ad la : Nat → Nat → Nat} {M T R : Nat} {V : vV} {Z : zZ} {S : zS} {X : String → zS → Prop}
theorem c_count {Q : zS → Prop} {s t d0 : Nat} (h : RC E ad la (sd M T R) V S) (hs : s < T) (e2 : V 802 0 0 = d0) (hd : d0 ≤ 60) (e9 : V 900 s 0 = t)
    (k : ∀ V' S', RC E ad la (sd M T R) V' S' → (∀ f, f ∉ [400, 2400, 1012, 1013] → V' f = V f) → (∀ Z Z', RV V Z → Z 20 0 ≤ 60 → z_P Z → (z_day Z (Z 20 0)).Nodup → t < Z 10 0 → V 3003 0 t = s → z_rg Z Z' t → RV V' Z') → Q S') : p_X10_countAsRung E (ad 10 0) (ad 9 s) S Q X := by
  refine ⟨h.o 10 0 Nat.zero_lt_one, h.sg 1008 8 Nat.zero_lt_one ⟨h.o 8 0 Nat.zero_lt_one, h.ed d0 (by omega) (by rw [h.gi 802 8 0 Nat.zero_lt_one, e2]) (c_takeAway h (by omega) hs (fun V1 S1 g1 a1 f1 => ⟨g1.o 9 s hs, g1.o 10 0 Nat.zero_lt_one, g1.uI 1013 10 0 t Nat.zero_lt_one ?_ (fun S2 g2 => g2.uI 1012 10 0 (V 1012 0 0 + 1) Nat.zero_lt_one ?_ (fun S3 g3 => k _ S3 g3 (fun f hf => ?_) (fun Z Z' hV h20 hP hnd ht hsl hg => ?_)))⟩))⟩⟩
  · rw [g1.gi 900 9 s hs, a1.1 900 (by decide) (by decide), e9]
  · rw [g2.gi 1012 10 0 Nat.zero_lt_one, u3_f (by decide), a1.1 1012 (by decide) (by decide), nI_1]
  · have : f ≠ 400 ∧ f ≠ 2400 ∧ f ≠ 1012 ∧ f ≠ 1013 := by
      simp only [List.mem_cons, List.not_mem_nil, or_false] at hf
      omega
    rw [u3_f this.2.2.1, u3_f this.2.2.2, a1.1 f this.1 this.2.1]
  · obtain ⟨m1, m2, m3, m4, m5, m6, m7, m8, m9, m10, m11⟩ := hV
    have ed : d0 = Z 20 0 := by rw [← e2, m9.2.1]
    subst ed
    have vf : ∀ f, f ≠ 400 → f ≠ 2400 → f ≠ 1012 → f ≠ 1013 → u3 (u3 V1 1013 0 0 t) 1012 0 0 (V 1012 0 0 + 1) f = V f := fun f f1 f2 f3 f4 => by rw [u3_f f3, u3_f f4, a1.1 f f1 f2]
    have vl : ∀ (l : List Nat), (∀ f, f ∈ l → f ≠ 400 ∧ f ≠ 2400 ∧ f ≠ 1012 ∧ f ≠ 1013) → ∀ f, f ∈ l → u3 (u3 V1 1013 0 0 t) 1012 0 0 (V 1012 0 0 + 1) f = V f := fun l hl f hf => vf f (hl f hf).1 (hl f hf).2.1 (hl f hf).2.2.1 (hl f hf).2.2.2
    have zf : ∀ (l : List Nat), (∀ f, f ∈ l → f ∉ [13, 14, 21, 22, 27, 40, 41]) → ∀ f, f ∈ l → Z' f = Z f := fun l hl f hf => hg.1.2.2 f (hl f hf)
    refine ⟨m1.cg (vl _ (by decide)) (zf _ (by decide)), m2.cg (vl _ (by decide)) (zf _ (by decide)), m3.cg (vl _ (by decide)) (fun t _ f hf => by rw [vl _ (by decide) f hf]) (zf _ (by decide)), m4.cg (vl _ (by decide)) (hg.1.2.2 10 (by decide)), m5.cg (vl [1006] (by decide) 1006 (by decide)) (fun f hf => by rw [vl _ (by decide) f hf]) (zf _ (by decide)), m6.cg (vl [600] (by decide) 600 (by decide)), m7.cg (vl _ (by decide)) (zf _ (by decide)), fun d hd => ?_, m9.cg (vl _ (by decide)) (zf _ (by decide)), V_G.off (by rw [vf 1009 (by decide) (by decide) (by decide) (by decide), m10.1]; exact hg.1.1) hg.1.2.1, ?_⟩
    · have e3 : u3 (u3 V1 1013 0 0 t) 1012 0 0 (V 1012 0 0 + 1) 3003 = V 3003 := vf 3003 (by decide) (by decide) (by decide) (by decide)
      have ev : v_day (u3 (u3 V1 1013 0 0 t) 1012 0 0 (V 1012 0 0 + 1)) d = v_day V1 d := by
        unfold v_day
        rw [u3_f (show 400 ≠ 1012 by decide), u3_f (show 400 ≠ 1013 by decide), u3_f (show 2400 ≠ 1012 by decide), u3_f (show 2400 ≠ 1013 by decide)]
      rw [e3, ev]
      by_cases e : d = Z 20 0
      · subst e
        obtain ⟨k, hk, ek⟩ := hg.2.2.2.1
        rw [f1, m8 _ hd, ek, ← z_era_f hnd hk, ← hsl]
        exact v_filt m4.1 ht _ (hP _ hd).2
      · rw [a1.day e, hg.2.2.2.2 d e hd]
        exact m8 d hd
    · refine ⟨?_, ?_, ?_, ?_⟩
      · rw [vf 1010 (by decide) (by decide) (by decide) (by decide), hg.1.2.2 33 (by decide)]
        exact m11.1
      · rw [vf 1011 (by decide) (by decide) (by decide) (by decide), hg.1.2.2 39 (by decide)]
        exact m11.2.1
      · rw [u3_s, hg.2.1, ← nI_1, ← nI_1, m11.2.2.1]
      · rw [u3_f (by decide), u3_s, hg.2.2.1]
theorem c_J43 {B : Nat → Int32 → zS → Prop} {Q : zS → Prop} {t n row : Nat} {l1 : Int32} (h : RC E ad la (sd M T R) V S) (hR : 0 < R) (eT : Z 10 0 + 2 = T) (hV : RV V (z_2 Z row n)) (hI : IZ Z) (on : Z 27 0 = 1) (et : Z 28 0 = t) (en : z_st Z t = n) (er : row = z_f Z t (Z 31 0))
    (k : ∀ V' S', RC E ad la (sd M T R) V' S' → V' 701 0 0 = Z 31 0 + 1 → (∀ Z', z_rowR Z row n (z_L Z t) Z' → RV V' Z') → B (ad 10 0) (l1 + 1) S') : p_X10_doReadyRows_J43 E B Q X (ad 10 0) l1 (ad 7 0) S := by
  obtain ⟨⟨hM, hT, hB, hP, hR4, h20⟩, f1, f2, f3, f4, f5⟩ := hI
  obtain ⟨g1, g2, g3, g4, g5, g6, g7⟩ := f4.2 on
  rw [et] at g1 g2 g3 g5 g7
  rw [en] at g3 g7
  have hTt := hT.2 t g1
  have hN := z_T_N hM hTt
  have hVr := z_f_V hM hTt g5
  rw [en] at hN hVr
  rw [← er] at hVr
  have hn6 := ro_N6 hN
  have hL := z_L_bd hM hTt
  have yf : ∀ f, f ∉ [17, 31, 39] → z_2 Z row n f = Z f := fun f hf => z_2_f hf
  have cy : z_C Z (z_2 Z row n) := z_2_C
  have hMy := z_C_M cy hM
  have hTy := z_C_TT cy hT
  have hBy : z_B (z_2 Z row n) := z_B_congr (yf 18 (by decide)) (yf 19 (by decide)) hB
  have hPy : z_P (z_2 Z row n) := z_P_congr (yf 21 (by decide)) (yf 22 (by decide)) (yf 10 (by decide)) hP
  have e20 : z_2 Z row n 20 = Z 20 := yf 20 (by decide)
  have e10 : z_2 Z row n 10 = Z 10 := yf 10 (by decide)
  have fy : z_fit (z_2 Z row n) = z_fit Z := z_fit_congr cy (yf 18 (by decide)) (yf 19 (by decide))
  have dy : ∀ d, z_day (z_2 Z row n) d = z_day Z d := z_day_congr (yf 21 (by decide)) (yf 22 (by decide))
  have are0 : z_are Z n = true := by
    have := f1 _ (Nat.le_refl _) h20 t g2
    unfold z_fit at this
    rw [Bool.and_eq_true, en] at this
    exact this.1
  have y31 : z_2 Z row n 31 0 = Z 31 0 + 1 := up_s _ _ _ _
  have v7 := hV.2.2.2.2.2.2.2.2.2.1.2 (by rw [yf 27 (by decide)]; exact on)
  rw [yf 28 (by decide), et, y31] at v7
  have sl := (hV.2.2.1.sl (T := T) (by rw [e10]; exact eT)) t (by rw [e10]; exact g1)
  refine ⟨h.o 10 0 Nat.zero_lt_one, h.sg 1007 1 Nat.zero_lt_one (c_noteRV h hV hBy (fun V1 S1 k1 a1 hV1 => ?_))⟩
  have lkY := z_lkF_lk (z_2 Z row n)
  have hVk := hV1 _ lkY
  have fk : ∀ f, f ≠ 18 → z_lkF (z_2 Z row n) f = z_2 Z row n f := fun f hf => z_lkF_f hf
  have ck : z_C (z_2 Z row n) (z_lkF (z_2 Z row n)) := fun f hf => fk f (fun e => by subst e; exact absurd hf (by decide))
  have hMk := z_C_M ck hMy
  have hTk := z_C_TT ck hTy
  have hBk := z_lk_B lkY hBy
  have hPk := z_lk_P lkY hPy
  have e20k : z_lkF (z_2 Z row n) 20 = Z 20 := (fk 20 (by decide)).trans e20
  have e10k : z_lkF (z_2 Z row n) 10 = Z 10 := (fk 10 (by decide)).trans e10
  refine zb_c (fun any => ⟨k1.o 7 0 hR, ?_⟩) (fun any => ⟨k1.o 10 0 Nat.zero_lt_one, ?_⟩)
  · have lo : ∀ Z3, z_lo (z_2 Z row n) Z3 → z_lk (z_2 Z row n) Z3 := fun Z3 hz => by
      rcases hz with x | x
      · exact x.2
      · rw [any] at x
        cases x.1
    have are3 : ∀ Z3, z_lk (z_2 Z row n) Z3 → z_are Z3 n = true := fun Z3 hz => by
      rw [z_are_c12 (Z := Z) (fun i hi => by rw [hz.2 i hi, z_nv_no (z_any_f12 any hi), yf 18 (by decide)]) ((hz.1 19 (by decide)).trans (yf 19 (by decide))) n hn6.1]
      exact are0
    refine c_allDone k1 hR (s := V 3003 0 t) (L := z_L Z t) (dn := Z 31 0 + 1) (by rw [a1 700 (by decide)]; exact v7.1) sl.1 (by rw [a1 701 (by decide)]; exact v7.2.1) (by rw [a1 902 (by decide)]; exact sl.2.2.2.1.trans (z_C_L cy t)) hL.2 (by omega) ?_
    by_cases e : Z 31 0 + 1 < z_L Z t
    · rw [decide_eq_true e]
      refine ⟨fun _ => k V1 S1 k1 (by rw [a1 701 (by decide)]; exact v7.2.1) (fun Z' hr => ?_), fun x => absurd rfl x⟩
      obtain ⟨Z3, hlo, hr⟩ := hr
      have l3 := lo Z3 hlo
      rcases hr with ⟨x, _⟩ | ⟨_, x, _⟩ | ⟨_, _, x⟩
      · rw [are3 Z3 l3] at x
        cases x
      · omega
      · exact (hV1 Z3 l3).scr ((z_scr.refl Z3).E x)
    · have eL : Z 31 0 + 1 = z_L Z t := by omega
      rw [decide_eq_false e]
      refine ⟨fun x => absurd x (by decide), fun _ => ⟨k1.o 10 0 Nat.zero_lt_one, c_endRinging k1 hVk (by rw [e10k]; exact eT) hMk hTk hBk hPk (by rw [e20k]; exact h20) (fun V2 S2 k2 a2 hV2 => ⟨k2.o 7 0 hR, ?_⟩)⟩⟩
      have b7 : V2 700 0 0 = V 3003 0 t := by rw [a2 700 (by decide), a1 700 (by decide)]; exact v7.1
      have b9 : V2 900 (V 3003 0 t) 0 = t := by rw [a2 900 (by decide), a1 900 (by decide)]; exact sl.2.1
      have b3 : V2 3003 = V 3003 := by rw [a2 3003 (by decide), a1 3003 (by decide)]
      have b8 : V2 802 0 0 = Z 20 0 := by rw [a2 802 (by decide), a1 802 (by decide), hV.2.2.2.2.2.2.2.2.1.2.1, e20]
      have r7 := k2.vrR 700 hR (c := 7)
      rw [b7] at r7
      refine ⟨_, r7.2, k2.o 10 0 Nat.zero_lt_one, c_count k2 sl.1 b8 h20 b9 (fun V3 S3 k3 a3 hV3 => k V3 S3 k3 (by rw [a3 701 (by decide), a2 701 (by decide), a1 701 (by decide)]; exact v7.2.1) (fun Z' hr => ?_))⟩
      obtain ⟨Z3, hlo, hr⟩ := hr
      have l3 := lo Z3 hlo
      rcases hr with ⟨x, _⟩ | ⟨_, _, q1, q2, q3, q4, q5, q6⟩ | ⟨_, x, _⟩
      · rw [are3 Z3 l3] at x
        cases x
      · have z3 : ∀ f, f ∉ [17, 18, 31, 39] → Z3 f = Z f := fun f hf => (l3.1 f (fun e => hf (by rw [e]; decide))).trans (yf f (fun e => hf (by
          simp only [List.mem_cons, List.not_mem_nil, or_false] at e ⊢
          omega)))
        have c3 : z_C Z Z3 := fun f hf => z3 f (fun e => by
          simp only [List.mem_cons, List.not_mem_nil, or_false] at hf e
          omega)
        have i18 : ∀ i, i < 12 → Z3 18 i = Z 18 i := fun i hi => by rw [l3.2 i hi, z_nv_no (z_any_f12 any hi), yf 18 (by decide)]
        have d3 : ∀ d, z_day Z3 d = z_day Z d := z_day_congr (z3 21 (by decide)) (z3 22 (by decide))
        have fit3 : I_fit Z3 := fun d h1 h2 u hu => by
          rw [d3] at hu
          rw [z3 20 (by decide)] at h1
          rw [z_fit_c12 hM hT c3 i18 (z3 19 (by decide)) ((hP d h2).2 u hu)]
          exact f1 d h1 h2 u hu
        have e3 : z_endR (z_lkF (z_2 Z row n)) (up Z3 27 0 0) := ⟨Z3, Z3, z_lk_again lkY l3, z_dr_id fit3 (by rw [z3 20 (by decide)]; exact h20), fun f hf _ => up_f hf, up_s _ _ _ _⟩
        have hV3' := hV2 _ e3
        have w20 : up Z3 27 0 0 20 = Z 20 := (up_f (by decide)).trans (z3 20 (by decide))
        have wd : ∀ d, z_day (up Z3 27 0 0) d = z_day Z3 d := fun d => z_up_day (by decide) (by decide) d
        refine hV3 _ Z' hV3' (by rw [w20]; exact h20) ?_ ?_ ?_ (by rw [b3]) ⟨⟨up_s _ _ _ _, q2, fun f hf => ?_⟩, ?_, ?_, ?_, ?_⟩
        · exact z_P_congr ((up_f (by decide)).trans (z3 21 (by decide))) ((up_f (by decide)).trans (z3 22 (by decide))) ((up_f (by decide)).trans (z3 10 (by decide))) hP
        · rw [w20, wd, d3]
          exact f2 _ h20
        · rw [show up Z3 27 0 0 10 = Z 10 from (up_f (by decide)).trans (z3 10 (by decide))]
          exact g1
        · rw [up_f (show f ≠ 27 from fun e => hf (by rw [e]; decide))]
          exact q1 f hf
        · rw [up_f (by decide), z3 40 (by decide)]
          exact q3
        · rw [q4, et]
        · rw [w20, wd]
          rw [et] at q5
          exact q5
        · intro d hd1 hd2
          rw [w20] at hd1
          rw [wd]
          exact q6 d hd1 hd2
      · exact absurd eL x
  · refine c_endRinging k1 hVk (by rw [e10k]; exact eT) hMk hTk hBk hPk (by rw [e20k]; exact h20) (fun V2 S2 k2 a2 hV2 => k V2 S2 k2 (by rw [a2 701 (by decide), a1 701 (by decide)]; exact v7.2.1) (fun Z' hr => ?_))
    obtain ⟨Z3, hlo, hr⟩ := hr
    have hl : ∃ Z1, z_lk (z_2 Z row n) Z1 ∧ z_dr Z1 Z3 := by
      rcases hlo with x | x
      · rw [any] at x
        cases x.1
      · exact x.2
    obtain ⟨Z1, l1, l3⟩ := hl
    have are3 : z_are Z3 n = false := by
      obtain ⟨b, hb, hw⟩ := z_any_t 6 any
      have hbn : b < n := by
        by_cases e : b < n
        · exact e
        · exfalso
          have w := g7 b (by omega) hb
          have s17 := z_sk_17 (Z := Z) (row := row) hb n (fun q hq => by
            have := hVr.2.1 q hq
            omega)
          have e17 : ∀ i, z_2 Z row n 17 i = z_sk Z row n 17 i := fun i => by
            unfold z_2
            rw [up_f (by decide), up_f (by decide)]
          have nw : z_nw (z_2 Z row n) b = z_nw Z b ∧ z_nw (z_2 Z row n) (6 + b) = z_nw Z (6 + b) := by
            unfold z_nw
            rw [e17, e17, s17.1, s17.2, yf 18 (by decide)]
            exact ⟨rfl, rfl⟩
          rw [nw.1, nw.2, w.1, w.2] at hw
          rcases hw with x | x <;> cases x
      have e18 : Z3 18 = Z1 18 := l3.1 18 (by decide)
      have hin : z_in Z3 b = false := by
        unfold z_in
        rw [e18, l1.2 b (by omega), l1.2 (6 + b) (by omega)]
        unfold z_nv
        rcases hw with x | x
        · rw [x]
          cases (Z3 19 b == 0) <;> rfl
        · rw [x]
          cases (Z3 19 b == 0)
          · rfl
          · show ((if z_nw (z_2 Z row n) b = true then 1 else z_2 Z row n 18 b) == 0 && false) = false
            rw [Bool.and_false]
      cases x : z_are Z3 n with
      | false => rfl
      | true =>
        unfold z_are at x
        rw [List.all_eq_true] at x
        have := x b (List.mem_range.mpr hbn)
        rw [hin] at this
        cases this
    rcases hr with ⟨_, x, x2⟩ | ⟨x, _⟩ | ⟨x, _⟩
    · exact hV2 Z' ⟨Z1, Z3, z_lk_again lkY l1, l3, fun f h1 h2 => x f (by
        simp only [List.mem_cons, List.not_mem_nil, or_false] at h2 ⊢
        omega), x2⟩
    · rw [are3] at x
      cases x
    · rw [are3] at x
      cases x
end JFT
