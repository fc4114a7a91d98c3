/-! the law's going on -/
theorem z_row_C {Z W : zZ} {row n LL : Nat} (h : z_rowR Z row n LL W) : z_C Z W := by
  intro f hf
  simp only [List.mem_cons, List.not_mem_nil, or_false] at hf
  obtain ⟨Z3, lo, r⟩ := h
  have k3 : Z3 f = Z f := (z_lo_f lo f (fun e => by
    simp only [List.mem_cons, List.not_mem_nil, or_false] at e
    omega)).trans (z_2_f (fun e => by
    simp only [List.mem_cons, List.not_mem_nil, or_false] at e
    omega))
  rcases r with ⟨_, a, _⟩ | ⟨_, _, a, _⟩ | ⟨_, _, a⟩
  · rw [a f (fun e => by
      simp only [List.mem_cons, List.not_mem_nil, or_false] at e
      omega)]
    exact k3
  · rw [a f (fun e => by
      simp only [List.mem_cons, List.not_mem_nil, or_false] at e
      omega)]
    exact k3
  · rw [a f (by omega) (by omega)]
    exact k3
section LG
variable {E : zE} {aa : Nat → Nat} {L Z : zZ} {S : zS} {X : String → zS → Prop}
theorem l_layT {Q : Int32 → zS → Prop} {t : Nat} {l : Int32} (h : RA aa L S) (hz : LZ L Z) (hM : z_M Z) (hT : z_TT Z) (ht : t < Z 10 0) (el : l = nI (L 1 t)) (k : ∀ f S', RA aa (sr L f) S' → lz_W (z_st Z t) f (z_cs Z t) → z_L Z t ≤ 16 → Q (nI (z_L Z t)) S') : p_L_lay E (aa 0) l (aa 9) S Q X := by
  rw [el, q_T_c hz ht]
  have hx := hT.2 t ht
  have h4 := (hz.T.2.2 t ht).1
  have hL := z_LD_t hM hx
  refine l_lay h hz hM hL hx.2.1 h4 ?_
  have e : z_tcG Z (z_mt Z t) (z_cl Z t) (Z 11 t) = z_cs Z t := z_tcG_t Z t _
  have l4 := z_tcG_4 (Z := Z) (mm := z_mt Z t) (cc := z_cl Z t) (Z 11 t) (fun j hj => (hz.M.2.2 _ (hL.2.2 j (by omega)).1).1)
  rw [e] at l4 ⊢
  exact fun f S' g hW => k f S' g hW (by unfold z_L; omega)
theorem LZ.two {row n v13 v10 : Nat} (hz : LZ L (z_sk Z row n)) (e1 : v13 = L 10 13 + (if z_wg Z row n = true then 1 else 0)) (e2 : v10 = L 10 10 + 1) : LZ (up (up L 10 13 v13) 10 10 v10) (z_2 Z row n) := by
  have kf : ∀ f, f ≠ 17 → z_sk Z row n f = Z f := fun f hf => z_sk_f hf n
  obtain ⟨b1, b2, b3, b4, b5, b6, b7, b8⟩ := hz.G
  refine ⟨hz.M, hz.T, hz.P, hz.W, hz.B, hz.D, hz.E, hz.X, hz.Y, ⟨b1, b2, b3, b4, b5, ?_, b7, b8⟩, ⟨hz.R.1, ?_, fun x => ?_⟩, hz.C⟩
  · show nI v13 = nI (Z 39 0 + _)
    rw [kf 39 (by decide)] at b6
    rw [e1, ← nI_add, ← nI_add, b6]
  · show v10 = Z 31 0 + 1
    have := hz.R.2.1
    rw [kf 31 (by decide)] at this
    rw [e2, this]
  · have r := hz.R.2.2 x
    refine ⟨r.1, r.2.1, r.2.2.1, r.2.2.2.1, fun b hb => ?_⟩
    rw [up_i (by omega), up_i (by omega)]
    exact r.2.2.2.2 b hb
theorem LZ.off {v6 : Nat} (hz : LZ L Z) (e : v6 = 0) : LZ (up L 10 6 v6) (up Z 27 0 0) :=
  ⟨hz.M, hz.T, hz.P, hz.W, hz.B, hz.D, hz.E, hz.X, hz.Y, hz.G, ⟨e, hz.R.2.1, fun x => absurd (show (0 : Nat) = 1 from x) (by decide)⟩, hz.C⟩
theorem LZ.rung {v14 v15 t : Nat} (hz : LZ L Z) (ht : t < 12) (off : Z 27 0 = 0) (e1 : v14 = L 10 14 + 1) (e2 : v15 = t + 1) : LZ (up (up L 10 14 v14) 10 15 v15) (up (up Z 40 0 (Z 40 0 + 1)) 41 0 t) := by
  obtain ⟨b1, b2, b3, b4, b5, b6, b7, b8⟩ := hz.G
  refine ⟨hz.M, hz.T, hz.P, hz.W, hz.B, hz.D, hz.E, hz.X, hz.Y, ⟨b1, b2, b3, b4, b5, b6, ?_, Or.inr ⟨e2, ht⟩⟩, ⟨hz.R.1, hz.R.2.1, fun x => ?_⟩, hz.C⟩
  · show nI v14 = nI (Z 40 0 + 1)
    rw [e1, ← nI_add, ← nI_add, b7]
  · have x' : Z 27 0 = 1 := x
    rw [off] at x'
    cases x'
theorem l_end {B : Nat → Nat → Nat → Nat → Nat → Nat → Nat → Nat → Int32 → Int32 → zS → Prop} {Q : Int32 → zS → Prop} {row n t : Nat} {l100 : Int32} (hI : IZ Z) (on : Z 27 0 = 1) (et : Z 28 0 = t) (en : z_st Z t = n) (h : RA aa L S) (hz : LZ L (z_sk Z row n)) (e100 : l100 = nI (if z_wg Z row n = true then 1 else 0)) (h31 : Z 31 0 < z_L Z t) (h16 : z_L Z t ≤ 16)
    (k : ∀ L' W S', RA aa L' S' → LZ L' W → z_rowR Z row n (z_L Z t) W → L' 10 7 = t → lz_W n (L' 9) (z_cs W t) → B (aa 0) (aa 1) (aa 2) (aa 3) (aa 4) (aa 8) (aa 9) (aa 10) (nI n) (nI (z_L Z t)) S') :
    p_L_goOn_J248 E B Q X (aa 0) (aa 1) (aa 2) (aa 3) (aa 4) (aa 8) (aa 9) (aa 10) (nI n) (nI (z_L Z t)) l100 (gA S (aa 10) 13) 13 (aa 10) S := by
  subst e100
  have hI0 := hI
  obtain ⟨⟨hM, hT, hB, hP, hR4, h20⟩, f1, f2, f3, f4, f5⟩ := hI
  obtain ⟨g1, g2, g3, g4, g5, g6, g7⟩ := f4.2 on
  rw [et] at g1 g2
  have hn6 := ro_N6 (z_T_N hM (hT.2 t g1))
  rw [en] at hn6
  have c2 : z_C Z (z_2 Z row n) := z_2_C
  have kk : ∀ f, f ∉ [17, 31, 39] → z_2 Z row n f = Z f := fun f hf => z_2_f hf
  have d2 : ∀ d, z_day (z_2 Z row n) d = z_day Z d := z_day_congr (kk 21 (by decide)) (kk 22 (by decide))
  have hP2 : z_P (z_2 Z row n) := z_P_congr (kk 21 (by decide)) (kk 22 (by decide)) (kk 10 (by decide)) hP
  have hB2 : z_B (z_2 Z row n) := z_B_congr (kk 18 (by decide)) (kk 19 (by decide)) hB
  have e20 := kk 20 (by decide)
  have fy : z_fit (z_2 Z row n) = z_fit Z := z_fit_congr c2 (kk 18 (by decide)) (kk 19 (by decide))
  have hF2 : I_fit (z_2 Z row n) := fun d h1 h2 u hu => by rw [d2] at hu; rw [e20] at h1; rw [fy]; exact f1 d h1 h2 u hu
  have hN2 : I_nd (z_2 Z row n) := fun d hd => by rw [d2]; exact f2 d hd
  have s31 : L 10 10 = Z 31 0 := by
    have := hz.R.2.1
    rw [z_sk_f (by decide) n] at this
    exact this
  refine ⟨h.o 10, h.ix 10 13 rfl (by decide) ?_⟩
  rw [h.a 10, nI_add]
  refine h.wA 10 13 _ rfl (fun S1 h1 => ⟨h1.o 10, h1.i0 10 10, h1.i0 10 10, ?_⟩)
  rw [h1.a 10, show up L 10 13 (L 10 13 + (if z_wg Z row n = true then 1 else 0)) 10 10 = L 10 10 from up_i (by decide), nI_1]
  refine h1.wA 10 10 _ rfl (fun S2 h2 => ?_)
  have z2 := hz.two (Z := Z) (row := row) (n := n) rfl rfl
  refine l_look h2 z2 (z_C_M c2 hM) (z_C_TT c2 hT) hB2 hP2 (by rw [e20]; exact h20) hF2 (fun L3 Z3 S3 h3 lo z3 => ?_)
  have hM3 : z_M Z3 := z_C_M (z_lo_C lo) (z_C_M c2 hM)
  have hT3 : z_TT Z3 := z_C_TT (z_lo_C lo) (z_C_TT c2 hT)
  have hB3 := z_lo_B lo hB2
  have hP3 := z_lo_P lo hP2
  have li := z_lo_I (z_C_M c2 hM) (z_C_TT c2 hT) hP2 hB2 (by rw [e20]; exact h20) hF2 hN2 lo
  have k3 : ∀ f, f ∉ [13, 14, 18, 21, 22, 23] → f ∉ [17, 31, 39] → Z3 f = Z f := fun f h1 h2 => (z_lo_f lo f h1).trans (kk f h2)
  have e27 : Z3 27 0 = 1 := by rw [k3 27 (by decide) (by decide)]; exact on
  have g7 : L3 10 7 = t := by rw [(z3.R.2.2 e27).1, k3 28 (by decide) (by decide), et]
  have g10 : L3 10 10 = Z 31 0 + 1 := by
    rw [z3.R.2.1, z_lo_f lo 31 (by decide)]
    exact up_s _ _ _ _
  have e10 : Z3 10 0 = Z 10 0 := by rw [k3 10 (by decide) (by decide)]
  have b10 : Z 10 0 ≤ 4 := by
    have := hz.T.2.1
    rw [z_sk_f (by decide) n] at this
    exact this
  have fin : ∀ L4 W S4, RA aa L4 S4 → LZ L4 W → z_rowR Z row n (z_L Z t) W → L4 10 7 = t → p_L_lay E (aa 0) (gA S4 (aa 1) t) (aa 9) S4 (fun r S => B (aa 0) (aa 1) (aa 2) (aa 3) (aa 4) (aa 8) (aa 9) (aa 10) (nI n) r S) (fun _ _ => False) := by
    intro L4 W S4 h4 z4 hr g74
    have hIW := z_row_I hI0 on et en hr
    have cW := z_row_C hr
    refine l_layT h4 z4 hIW.M hIW.T (by rw [cW 10 (by decide)]; exact g1) (h4.a 1 t) (fun f S5 h5 hW _ => ?_)
    rw [z_C_st cW, en] at hW
    rw [z_C_L cW]
    exact k _ W S5 h5 z4.sr hr g74 hW
  refine l_areIn h3 z3 hB3 hn6.1 (zb_d (fun a => ⟨h3.o 10, h3.i0 10 10, ?_⟩) (fun a => ⟨h3.o 10, h3.i0 10 6, ?_⟩))
  · rw [h3.a 10 10, g10, nI_eq (by omega) (by omega)]
    refine ⟨fun ne => ⟨h3.i0 10 7, h3.o 1, h3.ix 1 t (by rw [h3.a 10, g7]) (by show _ < 4; omega) ?_⟩, fun eq => ⟨h3.i0 10 6, ?_⟩⟩
    · exact fin L3 Z3 S3 h3 z3 ⟨Z3, lo, Or.inr (Or.inr ⟨a, ne, fun _ _ _ => rfl⟩)⟩ g7
    · refine h3.wA 10 6 0 rfl (fun S4 h4 => ⟨h4.i0 10 14, h4.i0 10 14, ?_⟩)
      rw [h4.a 10, nI_1]
      refine h4.wA 10 14 _ rfl (fun S5 h5 => ⟨h5.i0 10 7, h5.i0 10 15, ?_⟩)
      have g75 : up (up L3 10 6 0) 10 14 (up L3 10 6 0 10 14 + 1) 10 7 = t := by rw [up_i (by decide), up_i (by decide), g7]
      rw [h5.a 10, g75, nI_1]
      refine h5.wA 10 15 _ rfl (fun S6 h6 => ⟨h6.i0 10 2, h6.i0 10 2, h6.i0 10 7, ?_⟩)
      have z6 := (z3.off (v6 := 0) rfl).rung (t := t) (v14 := up L3 10 6 0 10 14 + 1) (v15 := t + 1) (by omega) (up_s _ _ _ _) rfl rfl
      have hP6 : z_P (up (up (up Z3 27 0 0) 40 0 ((up Z3 27 0 0) 40 0 + 1)) 41 0 t) := z_P_congr (by rw [up_f (by decide), up_f (by decide), up_f (by decide)]) (by rw [up_f (by decide), up_f (by decide), up_f (by decide)]) (by rw [up_f (by decide), up_f (by decide), up_f (by decide)]) hP3
      have d6 : ∀ d, z_day (up (up (up Z3 27 0 0) 40 0 ((up Z3 27 0 0) 40 0 + 1)) 41 0 t) d = z_day Z3 d := fun d => by rw [z_up_day (by decide) (by decide), z_up_day (by decide) (by decide), z_up_day (by decide) (by decide)]
      have e206 : (up (up (up Z3 27 0 0) 40 0 ((up Z3 27 0 0) 40 0 + 1)) 41 0 t) 20 0 = Z 20 0 := by rw [up_f (by decide), up_f (by decide), up_f (by decide), k3 20 (by decide) (by decide)]
      have e106 : (up (up (up Z3 27 0 0) 40 0 ((up Z3 27 0 0) 40 0 + 1)) 41 0 t) 10 0 = Z 10 0 := by rw [up_f (by decide), up_f (by decide), up_f (by decide), e10]
      have g26 : ∀ S7 : zS, RA aa (up (up (up L3 10 6 0) 10 14 (up L3 10 6 0 10 14 + 1)) 10 15 (t + 1)) S7 → gA S7 (aa 10) 2 = nI (Z 20 0) ∧ gA S7 (aa 10) 7 = nI t := fun S7 h7 => by
        rw [h7.a 10, h7.a 10, show (up (up (up L3 10 6 0) 10 14 (up L3 10 6 0 10 14 + 1)) 10 15 (t + 1)) 10 2 = Z 20 0 from by rw [← e206]; exact z6.G.1, up_i (by decide), g75]
        exact ⟨rfl, rfl⟩
      rw [(g26 S6 h6).1, (g26 S6 h6).2]
      have t3 : t ∈ z_day Z3 (Z 20 0) := by
        have := li.2.2.2 t n (by rw [e20, d2]; exact g2) (by rw [z_C_st c2]; exact en) a
        rw [e20] at this
        exact this
      refine l_planAt h6 z6 hP6 (by rw [e206]; exact Nat.le_refl _) h20 (by omega) (fun no => absurd (by rw [d6]; exact t3) no) (fun q hq => ?_)
      have hp6 := hP6 (Z 20 0) h20
      rw [← z_day_len (up (up (up Z3 27 0 0) 40 0 ((up Z3 27 0 0) 40 0 + 1)) 41 0 t)] at hp6
      rw [d6, e106] at hp6
      rw [d6] at hq
      have hq2 := (List.getElem?_eq_some_iff.mp hq).1
      have ep6 : (up (up (up L3 10 6 0) 10 14 (up L3 10 6 0 10 14 + 1)) 10 15 (t + 1)) 2 (Z 20 0) = lpd (z_day Z3 (Z 20 0)) := by
        have := z6.P (Z 20 0) (by rw [e206]; exact Nat.le_refl _) h20
        rw [lz_day_z, d6] at this
        exact this
      refine l_takePlan h6 h20 ep6 (fun u hu => by have := hp6.2 u hu; omega) hp6.1 hq2 (fun S7 h7 => ?_)
      have le7 : ((z_day Z3 (Z 20 0)).eraseIdx q).length ≤ 4 := by
        have := List.length_eraseIdx_le (z_day Z3 (Z 20 0)) q
        omega
      have ok6 : lz_ok (up (up (up Z3 27 0 0) 40 0 ((up Z3 27 0 0) 40 0 + 1)) 41 0 t) (z_day (up (up (up Z3 27 0 0) 40 0 ((up Z3 27 0 0) 40 0 + 1)) 41 0 t)) := fun d h1 h2 => by
        have := hP6 d h2
        rw [← z_day_len (up (up (up Z3 27 0 0) 40 0 ((up Z3 27 0 0) 40 0 + 1)) 41 0 t)] at this
        exact this
      have z7 := (z6.zl hP6).pl (d := Z 20 0) (v := lpd ((z_day Z3 (Z 20 0)).eraseIdx q)) ok6 le7 rfl
      have g77 : up (up (up (up L3 10 6 0) 10 14 (up L3 10 6 0 10 14 + 1)) 10 15 (t + 1)) 2 (Z 20 0) (lpd ((z_day Z3 (Z 20 0)).eraseIdx q)) 10 7 = t := by rw [up_f (by decide), up_i (by decide), g75]
      refine ⟨h7.o 10, h7.i0 10 7, h7.o 1, h7.ix 1 t (by rw [h7.a 10, g77]) (by show _ < 4; omega) ?_⟩
      refine fin _ _ S7 h7 z7 ⟨Z3, lo, Or.inr (Or.inl ⟨a, eq, fun f hf => ?_, ?_, ?_, ?_, ⟨q, ?_, ?_⟩, fun d h1 h2 => ?_⟩)⟩ g77
      · have : f ≠ 21 ∧ f ≠ 22 ∧ f ≠ 27 ∧ f ≠ 40 ∧ f ≠ 41 := by
          simp only [List.mem_cons, List.not_mem_nil, or_false] at hf
          omega
        rw [Zl_f this.1 this.2.1, up_f this.2.2.2.2, up_f this.2.2.2.1, up_f this.2.2.1]
      · rw [Zl_f (by decide) (by decide), up_f (by decide), up_f (by decide), up_s]
      · rw [Zl_f (by decide) (by decide), up_f (by decide), up_s, up_f (by decide), k3 40 (by decide) (by decide)]
      · rw [Zl_f (by decide) (by decide), up_s, et]
      · rw [et]
        exact hq
      · rw [Zl_day (by rw [show sl _ (Z 20 0) ((z_day Z3 (Z 20 0)).eraseIdx q) (Z 20 0) = _ from if_pos rfl]; exact le7)]
        exact if_pos rfl
      · have e9 : sl (z_day (up (up (up Z3 27 0 0) 40 0 ((up Z3 27 0 0) 40 0 + 1)) 41 0 t)) (Z 20 0) ((z_day Z3 (Z 20 0)).eraseIdx q) d = z_day (up (up (up Z3 27 0 0) 40 0 ((up Z3 27 0 0) 40 0 + 1)) 41 0 t) d := if_neg h1
        rw [Zl_day (by rw [e9, d6, z_day_len]; exact (hP3 d h2).1), e9, d6]
  · refine h3.wA 10 6 0 rfl (fun S4 h4 => ?_)
    have g74 : up L3 10 6 0 10 7 = t := by rw [up_i (by decide), g7]
    refine ⟨h4.i0 10 7, h4.o 1, h4.ix 1 t (by rw [h4.a 10, g74]) (by show _ < 4; omega) ?_⟩
    exact fin _ _ S4 h4 (z3.off rfl) ⟨Z3, lo, Or.inl ⟨a, fun f hf => up_f (fun e => hf (by rw [e]; decide)), up_s _ _ _ _⟩⟩ g74
theorem l_goOn_W {K : Nat → zS → Prop} {Q : Int32 → zS → Prop} {n t LL : Nat} (h16 : LL ≤ 16) :
    ∀ (w : Nat) (Z L : zZ) (S : zS), RA aa L S → LZ L Z → IZ Z → L 10 7 = t → (Z 27 0 = 1 → Z 28 0 = t) → t < Z 10 0 → z_st Z t = n → z_L Z t = LL → lz_W n (L 9) (z_cs Z t) → LL < Z 31 0 + w → 0 < w →
    (∀ N L' Z' S', RA aa L' S' → z_go N Z Z' → LZ L' Z' → IZ Z' → K (aa 10) S') →
    p_L_goOn_L27 E K Q X w (aa 0) (aa 1) (aa 2) (aa 3) (aa 4) (aa 8) (aa 9) (aa 10) (nI n) (nI LL) S
  | 0, Z, L, S, h, hz, hI, g7, et, ht, en, eL, hW, h1, h2, k => by omega
  | w + 1, Z, L, S, h, hz, hI, g7, et, ht, en, eL, hW, h1, h2, k => by
    subst eL
    have stop : ¬ z_on2 Z → K (aa 10) S := fun no => k 0 L Z S h ⟨no, z_eq.refl Z⟩ hz hI
    have g6 : L 10 6 = Z 27 0 := hz.R.1
    have g10 : L 10 10 = Z 31 0 := hz.R.2.1
    have b27 := hI.g.1
    refine ⟨h.o 10, h.i0 10 6, ?_⟩
    rw [h.a 10 6, g6, ri_is1 b27]
    refine ⟨fun e => stop (fun y => e y.1), fun on => ⟨h.i0 10 10, ?_⟩⟩
    have et := et on
    obtain ⟨q1, q2, q3, q4, q5, q6, q7⟩ := hI.g.2 on
    rw [et] at q3 q5
    have hN := z_T_N hI.M (hI.T.2 t ht)
    rw [en] at hN
    have hn6 := ro_N6 hN
    have p6 := z_pow6 hN
    rw [en] at q3
    have In := hI.2.2.2.2.2
    rw [h.a 10 10, g10]
    refine pk_le (z_L Z t) (Z 31 0) (fun e => by omega) (fun lt => ⟨h.i0 10 10, ?_⟩)
    refine l_isPulled h hz on (by omega) In.2.2.1 lt (by omega) (zb_c (fun e => stop (fun y => ?_)) (fun e => ⟨h.o 10, h.i0 10 10, h.o 9, ?_⟩))
    · have := y.2
      rw [et, e] at this
      cases this
    · have on2 : z_on2 Z := ⟨on, by rw [et]; exact e⟩
      have hf : L 9 (Z 31 0) = iv n (z_f Z t (Z 31 0)) := by
        rw [← en] at hW ⊢
        exact lz_W_f hW lt
      refine h.ix 9 (Z 31 0) (by rw [h.a 10, g10]) (by show _ < 16; omega) ⟨7, ?_⟩
      have hV := z_f_V hI.M (hI.T.2 t ht) lt
      rw [en] at hV
      rw [h.a 9, hf]
      have hat := z_at_lt (row := z_f Z t (Z 31 0)) hI.M hI.T hI.g In on et en
      refine l_row_L (row := z_f Z t (Z 31 0)) on (by omega) In.1 (by rw [et]; exact en) hN hV (by omega) hat (fun L2 S2 h2 z2 => ⟨h2.o 10, h2.i0 10 13, ?_⟩) 7 0 L S h hz (Nat.zero_le _) (by omega)
      have next : ∀ L' W S', RA aa L' S' → LZ L' W → z_rowR Z (z_f Z t (Z 31 0)) n (z_L Z t) W → L' 10 7 = t → lz_W n (L' 9) (z_cs W t) → p_L_goOn_L27 E K Q X w (aa 0) (aa 1) (aa 2) (aa 3) (aa 4) (aa 8) (aa 9) (aa 10) (nI n) (nI (z_L Z t)) S' := by
        intro L' W S' h' z' hr g7' hW'
        have cW := z_row_C hr
        have hIW := z_row_I hI on et en hr
        have w31 := z_row_31 hr
        refine l_goOn_W h16 w W L' S' h' z' hIW g7' (fun o => ?_) (by rw [cW 10 (by decide)]; exact ht) (by rw [z_C_st cW]; exact en) (by rw [z_C_L cW]) hW' (by omega) (by omega) (fun N L4 Z4 S4 h4 go z4 i4 => k (N + 1) L4 Z4 S4 h4 (Or.inr ⟨on2, W, ?_, go⟩) z4 i4)
        · rw [← z'.R.2.2 o |>.1]
          exact g7'
        · rw [et, en]
          exact hr
      refine zb_c (fun ew => l_end hI on et en h2 z2 (by rw [ew]; rfl) lt h16 next) (fun ew => l_end hI on et en h2 z2 (by rw [ew]; rfl) lt h16 next)
/-- going on, told by the rows that are done -/
theorem l_goOn {Q : Int32 → zS → Prop} (h : RA aa L S) (hz : LZ L Z) (hI : IZ Z) (on : Z 27 0 = 1) (k : ∀ N L' Z' S', RA aa L' S' → z_go N Z Z' → LZ L' Z' → IZ Z' → Q (nI (Z' 31 0)) S') : p_L_goOn E (aa 0) (aa 1) (aa 2) (aa 3) (aa 4) (aa 8) (aa 9) (aa 10) S Q X := by
  obtain ⟨q1, q2, q3, q4, q5, q6, q7⟩ := hI.g.2 on
  have g7 : L 10 7 = Z 28 0 := (hz.R.2.2 on).1
  have b10 : Z 10 0 ≤ 4 := hz.T.2.1
  refine ⟨h.o 10, h.i0 10 7, ?_⟩
  rw [h.a 10 7, g7]
  refine l_stageIn h hz hI.M hI.T q1 ⟨h.o 10, h.i0 10 7, h.o 1, h.ix 1 (Z 28 0) (by rw [h.a 10, g7]) (by show _ < 4; omega) (l_layT h hz hI.M hI.T q1 (h.a 1 _) (fun f S2 h2 hW h16 => ⟨18, ?_⟩))⟩
  refine l_goOn_W (t := Z 28 0) h16 18 Z _ S2 h2 hz.sr hI g7 (fun _ => rfl) q1 rfl rfl hW (by omega) (by decide) (fun N L' Z' S' h' go z' i' => ⟨h'.o 10, h'.i0 10 10, ?_⟩)
  rw [h'.a 10 10, z'.R.2.1]
  exact k N L' Z' S' h' go z' i'
end LG
