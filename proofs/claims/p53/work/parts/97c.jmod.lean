/-! calls that change bells, days and touches -/
section JC
variable {E : zE} {x : Nat} {Z : zZ} {S : zS} {Q : Int32 → zS → Prop}
theorem V_B.t0 {V : vV} {Z : zZ} (h : V_B V Z) (b v : Nat) : V_B (u3 V 200 b 0 v) (up Z 19 b v) := by
  intro b' hb'
  have w := h b' hb'
  refine ⟨?_, w.2.1, w.2.2.1, w.2.2.2.1, w.2.2.2.2.1, w.2.2.2.2.2.1, w.2.2.2.2.2.2.1, w.2.2.2.2.2.2.2.1, w.2.2.2.2.2.2.2.2.1, w.2.2.2.2.2.2.2.2.2⟩
  by_cases e : b' = b
  · rw [e, u3_s, up_s]
  · rw [u3_i e, up_i e]
    exact w.1
theorem z_B_19 {b v : Nat} (h : z_B Z) (hv : v < 2) : z_B (up Z 19 b v) := ⟨fun b' hb' => by
  by_cases e : b' = b
  · rw [e, up_s]
    exact hv
  · rw [up_i e]
    exact h.1 b' hb', h.2⟩
theorem j_takeOut {b : Nat} (h : RZ E x Z S) (hb : b < 6) (h19 : Z 19 b = 0) (z27 : Z 27 0 = 0) (k : ∀ S', (∀ Z', z_dr (up Z 19 b 1) Z' → RZ E x Z' S') → Q (nI (z_cnt (up Z 19 b 1) (Z 20 0) (61 - Z 20 0))) S') : p_L_takeOut E x (nI b) S Q := by
  obtain ⟨ad, la, V, ⟨hC, rfl⟩, hV, hI⟩ := h
  have b19 := hI.B.1 b hb
  refine ⟨hC.o 10 0 z1, hC.o 10 0 z1, c_bel1 hC hb ⟨_, rfl, hC.o 2 b hb, ?_⟩⟩
  rw [hC.gi 200 2 b hb, (hV.B b hb).1, ri_0 b19]
  refine ⟨fun _ => ⟨hC.o 10 0 z1, c_sil hC (fun e9 => ⟨hC.o 2 b hb, Or.inr rfl, hC.uI 200 2 b 1 hb rfl (fun S1 g1 => ⟨g1.o 10 0 z1, g1.sg 1007 1 z1 ?_⟩)⟩) (fun e9 => ?_)⟩, fun c => absurd h19 c⟩
  · have hI1 : z_B (up Z 19 b 1) := z_B_19 hI.B (by decide)
    have hV1 : RV (u3 V 200 b 0 1) (up Z 19 b 1) := hV.ch (lv := [200]) (lz := [19]) ((agV.refl _ _).u) ((agZ.refl _ _).u) (kB := Or.inr (hV.B.t0 b 1))
    have c1 : z_C Z (up Z 19 b 1) := ((agZ.refl [19] Z).u).m (by rfl)
    have hM1 := z_C_M c1 hI.M
    have hT1 := z_C_TT c1 hI.T
    have hP1 : z_P (up Z 19 b 1) := z_P_congr rfl rfl rfl hI.P
    have nd1 : I_nd (up Z 19 b 1) := hI.nd
    refine c_bellsOut g1 hV1.B hI1 ⟨_, g1.sgR 1008 8 z1, g1.o 8 0 z1, c_drop g1 hM1 hP1 hT1 hV1.R hV1.Y (hV1.T.sl rfl) hI.d (fun V3 V4 S4 g4 dp d3 d4 => ?_)⟩
    refine k _ (fun Z' dr => ?_)
    have hV7 := hV1.dr hM1 hT1 hP1 hI.d dp d3 d4 dr
    exact RZ.mk g4 rfl hV7 (IZ.dr (Z := up Z 19 b 1) z27 hM1 hT1 hI1 hP1 (z_R4_cg hI.R4 rfl rfl rfl) hI.d nd1 hI.w hI.n dr) (by rw [dr.1 3 (by decide)]; rfl) (by rw [dr.1 10 (by decide)]; rfl) (by rw [dr.1 27 (by decide)]; rfl)
  · have := hV.G.1
    omega
theorem j_takeOut_s {b : Nat} (h : RZ E x Z S) (hb : b < 6) (hs : ¬ Z 19 b = 0 ∨ Z 27 0 = 1) (k : Q (-7300) S) : p_L_takeOut E x (nI b) S Q := by
  obtain ⟨ad, la, V, ⟨hC, rfl⟩, hV, hI⟩ := h
  have b19 := hI.B.1 b hb
  have hG := hV.G.1
  refine ⟨hC.o 10 0 z1, hC.o 10 0 z1, c_bel1 hC hb ⟨_, rfl, hC.o 2 b hb, ?_⟩⟩
  rw [hC.gi 200 2 b hb, (hV.B b hb).1, ri_0 b19]
  refine ⟨fun c => ⟨hC.o 10 0 z1, c_sil hC (fun e9 => ?_) (fun e9 => Or.inr ⟨rfl, k⟩)⟩, fun c => Or.inr ⟨rfl, k⟩⟩
  omega
theorem j_takeOut0 {l : Int32} (h : RZ E x Z S) (hn : ∀ b, b < 6 → l ≠ nI b) (k : Q (-7100) S) : p_L_takeOut E x l S Q := by
  obtain ⟨ad, la, V, ⟨hC, rfl⟩, hV, hI⟩ := h
  exact ⟨hC.o 10 0 z1, hC.o 10 0 z1, c_bel0 hC hn (Or.inl ⟨rfl, k⟩)⟩
theorem j_bringIn {b : Nat} (h : RZ E x Z S) (hb : b < 6) (h19 : ¬ Z 19 b = 0) (k : ∀ S', RZ E x (up Z 19 b 0) S' → Q (zb (z_in (up Z 19 b 0) b)) S') : p_L_bringIn E x (nI b) S Q := by
  obtain ⟨ad, la, V, ⟨hC, rfl⟩, hV, hI⟩ := h
  have b19 := hI.B.1 b hb
  refine ⟨hC.o 10 0 z1, hC.o 10 0 z1, c_bel1 hC hb ⟨_, rfl, hC.o 2 b hb, ?_⟩⟩
  rw [hC.gi 200 2 b hb, (hV.B b hb).1, ri_0 b19]
  refine ⟨fun _ => ⟨Or.inl rfl, hC.uI 200 2 b 0 hb rfl (fun S1 g1 => ?_)⟩, fun c => absurd c h19⟩
  have hI1 : z_B (up Z 19 b 0) := z_B_19 hI.B (by decide)
  have hV1 : RV (u3 V 200 b 0 0) (up Z 19 b 0) := hV.ch (lv := [200]) (lz := [19]) ((agV.refl _ _).u) ((agZ.refl _ _).u) (kB := Or.inr (hV.B.t0 b 0))
  have c1 : z_C Z (up Z 19 b 0) := ((agZ.refl [19] Z).u).m (by rfl)
  have hI2 : IZ (up Z 19 b 0) := hI.ch2 (lz := [19]) ((agZ.refl _ _).u) (kB := Or.inr hI1) (kf := Or.inr (by
    intro d h1 h2 t ht
    refine z_fit_le hI.M hI.T c1 (fun b' hb' h => ?_) ((hI.P d h2).2 t ht) (hI.fit d h1 h2 t ht)
    unfold z_in at h ⊢
    by_cases e : b' = b
    · subst e
      rw [up_s]
      rw [Bool.and_eq_true] at h
      exact h.2
    · rw [up_i e]
      exact h))
  have kk := k _ (RZ.mk g1 rfl hV1 hI2)
  refine c_isUsable g1 hV1.B hI1 hb ⟨zb_01 _, zb_c (fun e => ?_) (fun e => ?_)⟩
  · rw [e] at kk
    exact kk
  · rw [e] at kk
    exact kk
theorem j_bringIn_s {b : Nat} (h : RZ E x Z S) (hb : b < 6) (h19 : Z 19 b = 0) (k : Q (-7300) S) : p_L_bringIn E x (nI b) S Q := by
  obtain ⟨ad, la, V, ⟨hC, rfl⟩, hV, hI⟩ := h
  have b19 := hI.B.1 b hb
  refine ⟨hC.o 10 0 z1, hC.o 10 0 z1, c_bel1 hC hb ⟨_, rfl, hC.o 2 b hb, ?_⟩⟩
  rw [hC.gi 200 2 b hb, (hV.B b hb).1, ri_0 b19]
  exact ⟨fun c => absurd h19 c, fun c => Or.inr ⟨rfl, k⟩⟩
theorem j_bringIn0 {l : Int32} (h : RZ E x Z S) (hn : ∀ b, b < 6 → l ≠ nI b) (k : Q (-7100) S) : p_L_bringIn E x l S Q := by
  obtain ⟨ad, la, V, ⟨hC, rfl⟩, hV, hI⟩ := h
  exact ⟨hC.o 10 0 z1, hC.o 10 0 z1, c_bel0 hC hn (Or.inl ⟨rfl, k⟩)⟩
theorem j_mend0 {l l2 : Int32} (h : RZ E x Z S) (hn : ∀ b, b < 6 → l ≠ nI b) (k : Q (-7100) S) : p_L_mend E x l l2 S Q := by
  obtain ⟨ad, la, V, ⟨hC, rfl⟩, hV, hI⟩ := h
  exact ⟨hC.o 10 0 z1, hC.o 10 0 z1, c_bel0 hC hn (Or.inl ⟨rfl, k⟩)⟩
theorem j_mend_r {b : Nat} {l : Int32} (h : RZ E x Z S) (hb : b < 6) (hn : ∀ j, 0 ≤ j → j ≤ 1 → l ≠ nI j) (k : Q (-7200) S) : p_L_mend E x (nI b) l S Q := by
  obtain ⟨ad, la, V, ⟨hC, rfl⟩, hV, hI⟩ := h
  exact ⟨hC.o 10 0 z1, hC.o 10 0 z1, c_bel1 hC hb (c_rqR0 (lo := 0) (hi := 1) (by decide) (by decide) hn (Or.inr (Or.inl ⟨rfl, k⟩)))⟩
theorem j_mend {b p : Nat} (h : RZ E x Z S) (hb : b < 6) (hp : p ≤ 1) (z27 : Z 27 0 = 0) (k : ∀ S', RZ E x (up (up Z 17 (6 * p + b) 0) 18 (6 * p + b) 0) S' → Q (nI (Z 17 (6 * p + b))) S') : p_L_mend E x (nI b) (nI p) S Q := by
  obtain ⟨ad, la, V, ⟨hC, rfl⟩, hV, hI⟩ := h
  refine ⟨hC.o 10 0 z1, hC.o 10 0 z1, c_bel1 hC hb (c_rqR1 (lo := 0) (hi := 1) (by decide) (Nat.zero_le _) hp ⟨hC.o 10 0 z1, c_sil hC (fun e9 => ⟨_, rfl, hC.o 2 b hb, c_renew hC hb (by omega) (fun S1 g1 => ?_)⟩) (fun e9 => by have := hV.G.1; omega)⟩)⟩
  have v : V 205 b p = Z 17 (6 * p + b) := by
    have v := hV.B b hb
    rcases (show p = 0 ∨ p = 1 by omega) with rfl | rfl
    · rw [v.2.2.2.2.2.1, show 6 * 0 + b = b by omega]
    · rw [v.2.2.2.2.2.2.1]
  rw [v]
  have z0 : agZ [17, 18] Z (up (up Z 17 (6 * p + b) 0) 18 (6 * p + b) 0) := (((agZ.refl _ _).u).u)
  have c1 := z0.m (k := [3, 4, 5, 6, 7, 10, 11, 12]) rfl
  have hI1 : z_B (up (up Z 17 (6 * p + b) 0) 18 (6 * p + b) 0) := ⟨hI.B.1, fun i hi => by
      by_cases e : i = 6 * p + b
      · rw [e, up_s]
        decide
      · rw [up_i e]
        exact hI.B.2 i hi⟩
  have up0 : ∀ i, (up (up Z 17 (6 * p + b) 0) 18 (6 * p + b) 0) 17 i = if i = 6 * p + b then 0 else Z 17 i := fun i => by
    rw [up_f (by decide)]
    by_cases e : i = 6 * p + b
    · rw [if_pos e, e, up_s]
    · rw [if_neg e, up_i e]
  have up1 : ∀ i, (up (up Z 17 (6 * p + b) 0) 18 (6 * p + b) 0) 18 i = if i = 6 * p + b then 0 else Z 18 i := fun i => by
    by_cases e : i = 6 * p + b
    · rw [if_pos e, e, up_s]
    · rw [if_neg e, up_i e]
      rfl
  refine k _ (RZ.mk g1 rfl (hV.ch (lv := [205, 206]) (lz := [17, 18]) (((agV.refl _ _).u).u) z0 (kB := Or.inr (fun b' hb' => ?_))) (hI.ch2 (lz := [17, 18]) z0 (kB := Or.inr hI1) (kf := Or.inr ?_) (kw := Or.inr ?_) (kg := Or.inr ?_)))
  · have w := hV.B b' hb'
    have wv : ∀ q, q < 2 → (u3 (u3 V 205 b p 0) 206 b p 0) 205 b' q = (if 6 * q + b' = 6 * p + b then 0 else V 205 b' q) := fun q hq => by
      rw [u3_f (by decide)]
      by_cases e : b' = b
      · subst e
        by_cases e3 : q = p
        · subst e3
          rw [u3_s, if_pos rfl]
        · rw [u3_j e3, if_neg (by omega)]
      · rw [u3_i e, if_neg (by omega)]
    have ww : ∀ q, q < 2 → (u3 (u3 V 205 b p 0) 206 b p 0) 206 b' q = (if 6 * q + b' = 6 * p + b then 0 else V 206 b' q) := fun q hq => by
      by_cases e : b' = b
      · subst e
        by_cases e3 : q = p
        · subst e3
          rw [u3_s, if_pos rfl]
        · rw [u3_j e3, if_neg (by omega)]
          rfl
      · rw [u3_i e, if_neg (by omega)]
        rfl
    refine ⟨w.1, w.2.1, w.2.2.1, w.2.2.2.1, w.2.2.2.2.1, ?_, ?_, ?_, ?_, w.2.2.2.2.2.2.2.2.2⟩
    · rw [wv 0 (by decide), up0, w.2.2.2.2.2.1, show 6 * 0 + b' = b' by omega]
    · rw [wv 1 (by decide), up0, w.2.2.2.2.2.2.1]
    · rw [ww 0 (by decide), up1, w.2.2.2.2.2.2.2.1, show 6 * 0 + b' = b' by omega]
    · rw [ww 1 (by decide), up1, w.2.2.2.2.2.2.2.2.1]
  · intro d h1 h2 t ht
    refine z_fit_le hI.M hI.T c1 (fun b' hb' h => ?_) ((hI.P d h2).2 t ht) (hI.fit d h1 h2 t ht)
    unfold z_in at h ⊢
    rw [Bool.and_eq_true, Bool.and_eq_true] at h ⊢
    rw [up1, up1]
    refine ⟨h.1, ?_, ?_⟩
    · split
      · rfl
      · exact h.2.1
    · split
      · rfl
      · exact h.2.2
  · intro _ i hi
    by_cases e : i = 6 * p + b
    · exact z_nw0 (by rw [up0, if_pos e]) hi
    · have := hI.w z27 i hi
      unfold z_nw at this ⊢
      rw [up0, up1, if_neg e, if_neg e]
      exact this
  · exact ⟨by show Z 27 0 < 2; omega, fun x => by have : Z 27 0 = 1 := x; omega⟩
theorem j_mend_s {b p : Nat} (h : RZ E x Z S) (hb : b < 6) (hp : p ≤ 1) (z27 : Z 27 0 = 1) (k : Q (-7300) S) : p_L_mend E x (nI b) (nI p) S Q := by
  obtain ⟨ad, la, V, ⟨hC, rfl⟩, hV, hI⟩ := h
  have hG := hV.G.1
  refine ⟨hC.o 10 0 z1, hC.o 10 0 z1, c_bel1 hC hb (c_rqR1 (lo := 0) (hi := 1) (by decide) (Nat.zero_le _) hp ⟨hC.o 10 0 z1, c_sil hC (fun e9 => ?_) (fun e9 => Or.inr (Or.inr ⟨rfl, k⟩))⟩)⟩
  omega
theorem j_stand_s (h : RZ E x Z S) (z27 : Z 27 0 = 0) (k : Q (-7300) S) : p_L_stand E x S Q := by
  obtain ⟨ad, la, V, ⟨hC, rfl⟩, hV, hI⟩ := h
  refine ⟨hC.o 10 0 z1, hC.o 10 0 z1, c_r9 hC (fun e => ⟨rfl, k⟩) (fun e h7 e9 => ?_)⟩
  have := hV.G.1
  omega
theorem j_stand (h : RZ E x Z S) (h1 : Z 27 0 = 1) (k : ∀ S', (∀ Z3, z_lo (up Z 27 0 0) Z3 → RZ E x Z3 S') → Q (nI (Z 31 0)) S') : p_L_stand E x S Q := by
  obtain ⟨ad, la, V, ⟨hC, rfl⟩, hV, hI⟩ := h
  refine ⟨hC.o 10 0 z1, hC.o 10 0 z1, c_r9 hC (fun e => ?_) (fun e h7 e9 => ?_)⟩
  · have := hV.G.1
    omega
  · refine c_endRinging hC hV rfl hI.M hI.T hI.B hI.P hI.d (fun V' S' g' ag hV' => ⟨g'.o 7 0 h7, ?_⟩)
    rw [g'.gi 701 7 0 h7, ag 701 (by decide), (hV.G.2 h1).2.1]
    refine k _ (fun Z3 lo => ?_)
    have f3 := z_lo_f lo
    have hI3 : IZ Z3 := IZ.lo (Z := up Z 27 0 0) rfl hI.M hI.T (z_B_congr rfl rfl hI.B) (z_P_congr rfl rfl rfl hI.P) (z_R4_cg hI.R4 rfl rfl rfl) hI.d hI.fit.u27 hI.nd hI.n lo
    have hV3 := hV' Z3 (z_endR_lo hI.M hI.T hI.P hI.B hI.d hI.fit hI.nd lo)
    have e0 : Z3 27 0 = 0 := by
      rw [f3 27 (by decide), up_s]
    exact RZ.mk (g'.drop7 (hV3.G.1.trans e0)) rfl hV3 hI3 (by rw [f3 3 (by decide)]; rfl) (by rw [f3 10 (by decide)]; rfl) e0
theorem j_due0 {l : Int32} (h : RZ E x Z S) (hn : ∀ b, b < 6 → l ≠ nI b) (k : Q (-7100) S) : p_L_due E x l S Q := by
  obtain ⟨ad, la, V, ⟨hC, rfl⟩, hV, hI⟩ := h
  exact ⟨hC.o 10 0 z1, c_rqI0 (n := 6) (by decide) hn (Or.inl ⟨rfl, k⟩)⟩
theorem j_due_s {b : Nat} (h : RZ E x Z S) (hb : b < 6) (no : ¬ (Z 27 0 = 1 ∧ z_pp Z b = true ∧ Z 34 b < z_L Z (Z 28 0))) (k : Q (-7300) S) : p_L_due E x (nI b) S Q := by
  obtain ⟨ad, la, V, ⟨hC, rfl⟩, hV, hI⟩ := h
  refine ⟨hC.o 10 0 z1, c_rqI1 (n := 6) (by decide) hb ⟨hC.o 10 0 z1, hC.o 10 0 z1, c_r9 hC (fun ev => Or.inr ⟨rfl, k⟩) (fun ev h7 e9 => ⟨hC.o 7 0 h7, ?_⟩)⟩⟩
  have h1 : Z 27 0 = 1 := hV.G.1.symm.trans ev
  refine c_awaits hC h7 (hI.on h1 hV.G) hI.M hI.T (hV.T.sl rfl) hV.B (hI.n.2.2.1 b hb) hb ?_
  refine zb_d (fun a => ?_) (fun a => Or.inr ⟨rfl, k⟩)
  rw [Bool.and_eq_true, decide_eq_true_eq] at a
  exact absurd ⟨h1, a.1, a.2⟩ no
theorem j_due {b p0 : Nat} (h : RZ E x Z S) (hb : b < 6) (h1 : Z 27 0 = 1) (hp : z_pp Z b = true) (hr : Z 34 b < z_L Z (Z 28 0)) (h0 : p0 < z_st Z (Z 28 0)) (h4 : ro_bl (z_f Z (Z 28 0) (Z 34 b)) p0 = b) (h5 : ∀ q, q < p0 → ¬ ro_bl (z_f Z (Z 28 0) (Z 34 b)) q = b) (k : Q (nI (z_du Z (Z 34 b) p0)) S) : p_L_due E x (nI b) S Q := by
  obtain ⟨ad, la, V, ⟨hC, rfl⟩, hV, hI⟩ := h
  refine ⟨hC.o 10 0 z1, c_rqI1 (n := 6) (by decide) hb ⟨hC.o 10 0 z1, hC.o 10 0 z1, c_r9 hC (fun ev => ?_) (fun ev h7 e9 => ⟨hC.o 7 0 h7, ?_⟩)⟩⟩
  · have := hV.G.1
    omega
  · have on := hI.on h1 hV.G
    refine c_awaits hC h7 on hI.M hI.T (hV.T.sl rfl) hV.B (hI.n.2.2.1 b hb) hb ?_
    refine zb_d (fun a => ⟨_, rfl, hC.o 7 0 h7, c_nextDue hC h7 on hI.M hI.T (hV.T.sl rfl) hV.B hr hb h0 h4 h5 k⟩) (fun a => ?_)
    rw [hp, decide_eq_true hr] at a
    exact absurd a (by decide)
theorem j_pass_s (h : RZ E x Z S) (hs : Z 27 0 = 1 ∨ Z 20 0 = 60) (k : Q (-7300) S) : p_L_pass E x S Q := by
  obtain ⟨ad, la, V, ⟨hC, rfl⟩, hV, hI⟩ := h
  have h20 := hI.d
  refine ⟨hC.o 10 0 z1, hC.o 10 0 z1, c_sil hC (fun ev => ⟨hC.o 10 0 z1, hC.sg 1008 8 z1 ?_⟩) (fun ev => ⟨rfl, k⟩)⟩
  rw [hC.gi 802 8 0 z1, hV.R.2.1]
  refine ⟨fun c => ?_, fun c => ⟨rfl, k⟩⟩
  have lt : Z 20 0 < 60 := (nI_ltI (by omega) (by decide)).mp c
  have := hV.G.1
  omega
/-- the day is over -/
def zPass (Z : zZ) : zZ := up (up (up (up Z 25 0 (z_tb (z_ba Z (Z 20 0)) (Z 25 0))) 26 0 4294967295) 21 (Z 20 0) 0) 20 0 (Z 20 0 + 1)
theorem j_pass (h : RZ E x Z S) (z27 : Z 27 0 = 0) (lt : Z 20 0 < 60) (k : ∀ S', RZ E x (zPass Z) S' → Q (nI (Z 20 0 + 1)) S') : p_L_pass E x S Q := by
  obtain ⟨ad, la, V, ⟨hC, rfl⟩, hV, hI⟩ := h
  have h20 := hI.d
  refine ⟨hC.o 10 0 z1, hC.o 10 0 z1, c_sil hC (fun ev => ⟨hC.o 10 0 z1, hC.sg 1008 8 z1 ?_⟩) (fun ev => ?_)⟩
  · rw [hC.gi 802 8 0 z1, hV.R.2.1]
    refine ⟨fun c => hC.sg 1008 8 z1 ?_, fun c => absurd (nI_lt (b := 60) lt (by decide)) c⟩
    refine c_endDay hC hI.M hI.P hI.T hI.R4 hV.R hV.Y (hV.T.sl rfl) hI.d (fun S1 g1 => ⟨g1.o 10 0 z1, g1.sg 1008 8 z1 ?_⟩)
    rw [g1.gi 802 8 0 z1, u3_s]
    have tbl : z_tb (z_ba Z (Z 20 0)) (Z 25 0) < 4 := by
      cases e : z_ba Z (Z 20 0) with
      | none => exact hI.R4.2.1
      | some b => exact Nat.mod_lt _ (by decide)
    have w := hV.R
    have za : agZ [20, 21, 25, 26] Z (zPass Z) := ((((agZ.refl _ _).u).u).u).u
    have va : agV [400, 802, 804, 805] V (u3 (u3 (u3 (u3 V 804 0 0 (z_tb (z_ba Z (Z 20 0)) (Z 25 0))) 805 0 0 4294967295) 400 (Z 20 0) 0 0) 802 0 0 (Z 20 0 + 1)) := ((((agV.refl _ _).u).u).u).u
    have dz : ∀ d, z_day (zPass Z) d = if d = Z 20 0 then [] else z_day Z d := by
      intro d
      unfold z_day zPass
      rw [up_f (show 21 ≠ 20 by decide), up_f (show 22 ≠ 20 by decide)]
      by_cases e : d = Z 20 0
      · rw [if_pos e, e, up_s]
        rfl
      · rw [if_neg e, up_i e]
        rfl
    refine k _ (RZ.mk g1 rfl (hV.ch (lv := [400, 802, 804, 805]) (lz := [20, 21, 25, 26]) va za (kY := Or.inr (fun d hd => ?_)) (kR := Or.inr ⟨w.1, ?_, w.2.2.1, ?_, ?_⟩)) (hI.ch2 (lz := [20, 21, 25, 26]) za (kP := Or.inr (fun d hd => ⟨?_, fun t ht => ?_⟩)) (kR := Or.inr ⟨hI.R4.1, ?_, Or.inl ?_⟩) (kd := Or.inr ?_) (kf := Or.inr ?_) (kn := Or.inr (fun d hd => ?_)) (kg := Or.inr ?_)))
    · rw [dz]
      unfold v_day
      rw [u3_f (show 400 ≠ 802 by decide)]
      by_cases e : d = Z 20 0
      · rw [if_pos e, e, u3_s]
        rfl
      · rw [if_neg e, u3_i e]
        exact hV.Y d hd
    · unfold zPass
      rw [u3_s, up_s]
    · unfold zPass
      rw [u3_f (by decide), u3_f (by decide), u3_f (by decide), u3_s]
      rfl
    · unfold zPass
      rw [u3_f (by decide), u3_f (by decide), u3_s]
      rfl
    · unfold zPass
      rw [up_f (by decide)]
      by_cases e : d = Z 20 0
      · rw [e, up_s]
        decide
      · rw [up_i e]
        exact (hI.P d hd).1
    · rw [dz] at ht
      by_cases e : d = Z 20 0
      · rw [if_pos e] at ht
        exact absurd ht List.not_mem_nil
      · rw [if_neg e] at ht
        exact (hI.P d hd).2 t ht
    · exact tbl
    · exact cm1.symm
    · unfold zPass
      rw [up_s]
      omega
    · intro d h1 h2 t ht
      have e20 : zPass Z 20 0 = Z 20 0 + 1 := up_s _ _ _ _
      rw [e20] at h1
      rw [dz, if_neg (by omega)] at ht
      have := hI.fit d (by omega) h2 t ht
      rw [← this]
      exact congrFun (z_fit_congr (za.m (k := [3, 4, 5, 6, 7, 10, 11, 12]) rfl) rfl rfl) t
    · rw [dz]
      by_cases e : d = Z 20 0
      · rw [if_pos e]
        exact List.nodup_nil
      · rw [if_neg e]
        exact hI.nd d hd
    · exact ⟨by show Z 27 0 < 2; omega, fun x => by have : Z 27 0 = 1 := x; omega⟩
  · have := hV.G.1
    omega
theorem j_plan0 {l1 l2 : Int32} (h : RZ E x Z S) (hn : ∀ t, t < Z 10 0 → l2 ≠ nI t) (k : Q (-7100) S) : p_L_plan E x l1 l2 S Q := by
  obtain ⟨ad, la, V, ⟨hC, rfl⟩, hV, hI⟩ := h
  exact ⟨hC.o 10 0 z1, hC.o 10 0 z1, c_tou0 hC hV hn (Or.inl ⟨rfl, k⟩)⟩
theorem j_plan_r {t : Nat} {l : Int32} (h : RZ E x Z S) (ht : t < Z 10 0) (hn : ∀ d, Z 20 0 ≤ d → d ≤ 60 → l ≠ nI d) (k : Q (-7200) S) : p_L_plan E x l (nI t) S Q := by
  obtain ⟨ad, la, V, ⟨hC, rfl⟩, hV, hI⟩ := h
  exact ⟨hC.o 10 0 z1, hC.o 10 0 z1, c_tou1 hC hV hI ht ⟨hC.o 10 0 z1, c_day0 hC hV hI hn (Or.inr (Or.inl ⟨rfl, k⟩))⟩⟩
theorem j_plan_s {t d : Nat} (h : RZ E x Z S) (ht : t < Z 10 0) (h1 : Z 20 0 ≤ d) (h2 : d ≤ 60) (no : ¬ (Z 21 d < 4 ∧ t ∉ z_day Z d ∧ z_fit Z t = true)) (k : Q (-7300) S) : p_L_plan E x (nI d) (nI t) S Q := by
  obtain ⟨ad, la, V, ⟨hC, rfl⟩, hV, hI⟩ := h
  have vJ := hV.J
  have w := hV.T.2 t ht
  have hsl := w.1
  have d61 : d < 61 := by omega
  have y := hV.Y.get h2
  have mem : V 3003 0 t ∈ v_day V d ↔ t ∈ z_day Z d := by
    rw [hV.Y d h2]
    exact v_mem_sl vJ.1 (hI.P d h2).2 ht
  refine ⟨hC.o 10 0 z1, hC.o 10 0 z1, c_tou1 hC hV hI ht ⟨hC.o 10 0 z1, c_day1 hC hV hI h1 h2 ⟨_, rfl, _, rfl, hC.o 4 d d61, ?_⟩⟩⟩
  refine c_takesTouch hC d61 hsl (fun a b => ⟨fun x => absurd x (by decide), fun _ => ⟨hC.o 10 0 z1, hC.sg 1007 1 z1 (c_bellsOut hC hV.B hI.B ⟨hC.o 9 _ hsl, c_isFit hC hsl hI.M (hI.T.2 t ht) w.2 (zb_d (fun ft => ?_) (fun nf => Or.inr (Or.inr ⟨rfl, k⟩)))⟩)⟩⟩) (fun _ => ⟨fun _ => Or.inr (Or.inr ⟨rfl, k⟩), fun x => absurd rfl x⟩)
  rw [y.1] at a
  exact absurd ⟨a, fun q => b (mem.mpr q), ft⟩ no
theorem j_plan {t d : Nat} (h : RZ E x Z S) (ht : t < Z 10 0) (h1 : Z 20 0 ≤ d) (h2 : d ≤ 60) (a4 : Z 21 d < 4) (tn : t ∉ z_day Z d) (ft : z_fit Z t = true) (k : ∀ S', RZ E x (up (up Z 22 (4 * d + Z 21 d) t) 21 d (Z 21 d + 1)) S' → Q (nI (Z 21 d + 1)) S') : p_L_plan E x (nI d) (nI t) S Q := by
  obtain ⟨ad, la, V, ⟨hC, rfl⟩, hV, hI⟩ := h
  have vJ := hV.J
  have w := hV.T.2 t ht
  have hsl := w.1
  have d61 : d < 61 := by omega
  have y := hV.Y.get h2
  have mem : V 3003 0 t ∈ v_day V d ↔ t ∈ z_day Z d := by
    rw [hV.Y d h2]
    exact v_mem_sl vJ.1 (hI.P d h2).2 ht
  refine ⟨hC.o 10 0 z1, hC.o 10 0 z1, c_tou1 hC hV hI ht ⟨hC.o 10 0 z1, c_day1 hC hV hI h1 h2 ⟨_, rfl, _, rfl, hC.o 4 d d61, ?_⟩⟩⟩
  refine c_takesTouch hC d61 hsl (fun a b => ⟨fun x => absurd x (by decide), fun _ => ⟨hC.o 10 0 z1, hC.sg 1007 1 z1 (c_bellsOut hC hV.B hI.B ⟨hC.o 9 _ hsl, c_isFit hC hsl hI.M (hI.T.2 t ht) w.2 (zb_d (fun _ => ⟨hC.o 4 d d61, hC.ex 400 d d61 (c_add hC 400 d _ d61 hsl (by omega) (fun la' c S1 g1 => ⟨g1.o 4 d d61, g1.ex 400 d d61 (c_size g1 400 d d61 ?_)⟩))⟩) (fun nf => by rw [ft] at nf; cases nf))⟩)⟩⟩) (fun no => absurd ⟨by rw [y.1]; exact a4, fun q => tn (mem.mp q)⟩ no)
  have es : vadd V 400 d c (V 3003 0 t) 400 d 0 = Z 21 d + 1 := by
    unfold vadd
    rw [u3_s, y.1]
  rw [es]
  have va : agV [400, 2400, 4400] V (vadd V 400 d c (V 3003 0 t)) := (((agV.refl _ _).u).u).u
  have za : agZ [21, 22] Z (up (up Z 22 (4 * d + Z 21 d) t) 21 d (Z 21 d + 1)) := ((agZ.refl _ _).u).u
  have dz : ∀ d', d' ≤ 60 → z_day (up (up Z 22 (4 * d + Z 21 d) t) 21 d (Z 21 d + 1)) d' = if d' = d then z_day Z d ++ [t] else z_day Z d' := fun d' hd' => z_day_add hI.P h2 a4 hd'
  have ef2 : z_fit (up (up Z 22 (4 * d + Z 21 d) t) 21 d (Z 21 d + 1)) = z_fit Z := z_fit_congr (za.m (k := [3, 4, 5, 6, 7, 10, 11, 12]) rfl) rfl rfl
  refine k _ (RZ.mk g1 rfl (hV.ch (lv := [400, 2400, 4400]) (lz := [21, 22]) va za (kY := Or.inr (fun d' hd' => ?_))) (hI.ch2 (lz := [21, 22]) za (kP := Or.inr (fun d' hd' => ⟨?_, fun u hu => ?_⟩)) (kf := Or.inr (fun d' k1 k2 u hu => ?_)) (kn := Or.inr (fun d' hd' => ?_)) (kg := Or.inr ⟨hI.g.1, fun on => ?_⟩)))
  · rw [v_day_add, dz d' hd']
    by_cases e : d' = d
    · rw [if_pos e, if_pos e, List.map_append, hV.Y d h2]
      rfl
    · rw [if_neg e, if_neg e, hV.Y d' hd']
      rfl
  · by_cases e : d' = d
    · rw [e, up_s]
      omega
    · rw [up_i e]
      exact (hI.P d' hd').1
  · rw [dz d' hd'] at hu
    show u < Z 10 0
    split at hu
    · rcases List.mem_append.mp hu with q | q
      · exact (hI.P d h2).2 u q
      · rw [List.mem_singleton.mp q]
        exact ht
    · exact (hI.P d' hd').2 u hu
  · rw [dz d' k2] at hu
    rw [ef2]
    split at hu
    · rcases List.mem_append.mp hu with q | q
      · exact hI.fit d h1 h2 u q
      · rw [List.mem_singleton.mp q]
        exact ft
    · exact hI.fit d' k1 k2 u hu
  · rw [dz d' hd']
    split
    · refine List.nodup_append.mpr ⟨hI.nd d h2, List.nodup_cons.mpr ⟨List.not_mem_nil, List.nodup_nil⟩, fun p hp q hq e => ?_⟩
      rw [List.mem_singleton.mp hq] at e
      rw [e] at hp
      exact tn hp
    · exact hI.nd d' hd'
  · have w9 := hI.g.2 on
    have c := za.m (k := [3, 4, 5, 6, 7, 10, 11, 12]) rfl
    refine ⟨w9.1, ?_, by rw [z_C_st c, z_C_L c]; exact w9.2.2⟩
    have : Z 20 0 ≤ 60 := hI.d
    show Z 28 0 ∈ z_day _ (Z 20 0)
    rw [dz _ this]
    split
    · rename_i e
      rw [← e]
      exact List.mem_append.mpr (Or.inl w9.2.1)
    · exact w9.2.1
end JC
