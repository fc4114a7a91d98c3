/-! all is told: touches, bells, days, the rest -/
section LTU
variable {E : zE} {aa : Nat → Nat} {x : Nat} {L Z : zZ} {S C : zS} {Q : Int32 → zS → zS → Prop} {X : String → zS → Prop}
theorem lt_J572 {B325 : Nat → Int32 → Nat → Nat → Nat → Nat → Nat → Nat → Nat → Nat → Nat → Nat → Int32 → zS → zS → Prop} {B615 : zS → zS → Prop} {t : Nat} {l2 v l100 l101 : Int32} (h : RA aa L S) (hz : LZ L Z) (hc : RZ E x Z C) (ht : t < Z 10 0) (h16 : z_L Z t ≤ 16) (hW : lz_W (z_st Z t) (L 9) (z_cs Z t)) (hv : z_R (z_f Z t) (z_L Z t) v) (e : l101 = l100)
    (k : B325 x l2 (aa 0) (aa 1) (aa 2) (aa 3) (aa 4) (aa 5) (aa 6) (aa 7) (aa 9) (aa 10) (nI (t + 1)) S C) : p_L_isTold_J572 E B325 B615 Q X x l2 (aa 0) (aa 1) (aa 2) (aa 3) (aa 4) (aa 5) (aa 6) (aa 7) (aa 9) (aa 10) (nI t) (nI (z_st Z t)) (nI (z_L Z t)) v l100 l101 S C := by
  have hI := hc.I
  have hx := hI.T.2 t ht
  have hN := z_T_N hI.M hx
  have hn6 := ro_N6 hN
  have hL := z_L_bd hI.M hx
  refine pe e (j_firstRepeat hc ht (fun v' hv' => pe (z_R_one hv' hv) (j_comesRound hc ht ⟨h.o 9, h.ix 9 (z_L Z t - 1) (pk_sub (b := 1) (by omega)) (by show _ < 16; omega) (l_rounds hn6.1 ?_)⟩)))
  have ef : L 9 (z_L Z t - 1) = iv (z_st Z t) (z_f Z t (z_L Z t - 1)) := lz_W_f hW (by show _ < z_L Z t; omega)
  have hV := z_f_V hI.M hx (i := z_L Z t - 1) (by omega)
  have b1 := iv_lt2 hN hV
  have b2 := ro_V_lt hN (ro_V_rnd hN).1
  rw [h.a 9, ef, nI_eq (by omega) (by omega), iv_eq_rnd hN hV, z_la_f hL.1, nI_1]
  refine ⟨fun y => ?_, fun y => ?_⟩
  · rw [if_neg y]
    exact py' k
  · rw [if_pos y]
    exact py' k
theorem lt_L325 {K554 K615 : zS → zS → Prop} {K623 : Nat → Nat → Nat → Nat → Nat → Nat → Nat → Nat → Nat → Nat → zS → zS → Prop} {l2 : Int32} (hc : RZ E x Z C) :
    ∀ (w t : Nat) (L : zZ) (S : zS), RA aa L S → LZ L Z → t ≤ Z 10 0 → Z 10 0 < t + w → (∀ L' S', RA aa L' S' → LZ L' Z → K623 x (aa 0) (aa 1) (aa 2) (aa 3) (aa 4) (aa 5) (aa 6) (aa 7) (aa 10) S' C) →
    p_L_isTold_L325 E K554 K615 K623 Q X w x l2 (aa 0) (aa 1) (aa 2) (aa 3) (aa 4) (aa 5) (aa 6) (aa 7) (aa 9) (aa 10) (nI t) S C
  | 0, t, L, S, h, hz, h1, h2, k => by omega
  | w + 1, t, L, S, h, hz, h1, h2, k => by
    have hI := hc.I
    have b10 : Z 10 0 ≤ 4 := hz.T.2.1
    have g1 : L 10 1 = Z 10 0 := hz.T.1
    unfold p_L_isTold_L325
    refine ⟨h.o 10, h.i0 10 1, ?_⟩
    rw [h.a 10 1, g1]
    refine pk_le (Z 10 0) t (fun _ => k L S h hz) (fun ht => ?_)
    have hx := hI.T.2 t ht
    have hN := z_T_N hI.M hx
    have hn6 := ro_N6 hN
    have hL := z_L_bd hI.M hx
    have t4 := (hz.T.2.2 t ht).1
    have hcd : ∀ k, k < Z 11 t → z_mt Z t k < 4 ∧ z_cl Z t k < 4 := fun k hk => by
      have a := (hx.2.2.2 k hk).1
      have b : z_cl Z t k < 3 := Nat.mod_lt _ (by decide)
      have c : Z 3 0 ≤ 3 := hz.M.2.1
      omega
    have hl := lz_cd_lt t4 hcd
    have e8 := lz_cd8 (mm := z_mt Z t) (cc := z_cl Z t) t4
    have hat := lz_cd_at t4 hcd (k := 0) hx.2.1
    have d1 := Nat.div_le_self (lz_cd (Z 11 t) (z_mt Z t) (z_cl Z t)) (2 ^ 3)
    have d2 := Nat.div_le_self (lz_cd (Z 11 t) (z_mt Z t) (z_cl Z t)) (2 ^ 5)
    refine l_stageIn h hz hI.M hI.T ht ⟨h.o 1, h.ix 1 t rfl (by show _ < 4; omega) ?_⟩
    refine l_layT h hz hI.M hI.T ht (h.a 1 t) (fun f S2 h2' hW h16 => ?_)
    have z2 : LZ (sr L f) Z := hz.sr
    have ec : gA S2 (aa 1) t = nI (lz_cd (Z 11 t) (z_mt Z t) (z_cl Z t)) := by rw [h2'.a 1]; exact congrArg nI (q_T_c z2 ht)
    refine l_low (n := z_L Z t) (by omega) (by omega) (fun r hr => l_low (n := z_st Z t) (by omega) (by omega) (fun p hp => ?_))
    refine l_repeat (g := z_f Z t) h2' hN hL.1 h16 (fun i hi => z_f_V hI.M hx hi) (fun i hi => lz_W_f hW hi) (fun v hv => ?_)
    have hV := z_f_V hI.M hx hr
    have ef : gA S2 (aa 9) r = nI (iv (z_st Z t) (z_f Z t r)) := by rw [h2'.a 9]; exact congrArg nI (lz_W_f hW hr)
    refine j_leads hc ht ⟨h2'.o 1, h2'.ix 1 t rfl (by show _ < 4; omega) ?_⟩
    rw [ec, (li_and (by omega)).1, e8]
    refine pe rfl (j_rows hc ht (pe rfl (j_leadAt (q := 0) hc ht (by have := hx.2.1; omega) (h2'.ix 1 t rfl (by show _ < 4; omega) (h2'.ix 1 t rfl (by show _ < 4; omega) ?_)))))
    rw [ec, li_shr (by omega) (by decide) (show (3 : Int32) = nI 3 from rfl), li_shr (by omega) (by decide) (show (5 : Int32) = nI 5 from rfl), (li_and (n := lz_cd (Z 11 t) (z_mt Z t) (z_cl Z t) / 2 ^ 3) (by omega)).2.1, (li_and (n := lz_cd (Z 11 t) (z_mt Z t) (z_cl Z t) / 2 ^ 5) (by omega)).2.1, show lz_cd (Z 11 t) (z_mt Z t) (z_cl Z t) / 2 ^ 3 % 4 = z_mt Z t 0 from hat.1, show lz_cd (Z 11 t) (z_mt Z t) (z_cl Z t) / 2 ^ 5 % 4 = z_cl Z t 0 from hat.2, show (10 : Int32) * nI (z_mt Z t 0) = nI (10 * z_mt Z t 0) from pk_mul 10 _, nI_add]
    refine pe rfl (h2'.ix 1 t rfl (by show _ < 4; omega) ?_)
    rw [ec, (li_and (by omega)).1, e8]
    refine j_leadAt_n hc ht (ne_i (Nat.le_refl _) (by omega)) (pe rfl (j_rowAt hc ht hr ⟨h2'.o 9, h2'.ix 9 r rfl (by show _ < 16; omega) ?_⟩))
    rw [ef]
    refine l_number hN hV (pe rfl (j_bellAt hc ht hr hp ⟨h2'.o 9, h2'.ix 9 r rfl (by show _ < 16; omega) ?_⟩))
    rw [ef]
    refine l_bell hN hV hp (pe rfl (j_rowAt_n hc ht (ne_i (Nat.le_refl _) (by omega)) (pe rfl (j_bellAt_p hc ht hr (ne_i (Nat.le_refl _) (by omega)) (pe rfl (j_bellAt_r hc ht (ne_m (by decide) (by omega)) (py' ?_)))))))
    refine j_isTrue hc ht (fun v' hv' => ?_)
    have ev := z_R_one hv' hv
    subst ev
    have next : p_L_isTold_L325 E K554 K615 K623 Q X w x l2 (aa 0) (aa 1) (aa 2) (aa 3) (aa 4) (aa 5) (aa 6) (aa 7) (aa 9) (aa 10) (nI (t + 1)) S2 C := lt_L325 hc w (t + 1) _ S2 h2' z2 (by omega) (by omega) k
    refine ⟨fun y => lt_J572 h2' z2 hc ht h16 hW hv ?_ next, fun y => lt_J572 h2' z2 hc ht h16 hW hv ?_ next⟩
    · rcases hv with ⟨e, _⟩ | ⟨r', e, hr', _⟩
      · rw [e] at y
        exact absurd y (by decide)
      · rw [e, if_neg (z_oi_n (by omega))]
    · rcases hv with ⟨e, _⟩ | ⟨r', e, hr', _⟩
      · rw [e]
        rfl
      · rw [e] at y
        exact absurd (nI_n0 (by omega)) y
theorem lt_L626 {K733 : zS → zS → Prop} {K741 : Nat → Nat → Nat → Nat → Nat → Nat → zS → zS → Prop} (h : RA aa L S) (hz : LZ L Z) (hc : RZ E x Z C) (k : K741 x (aa 0) (aa 1) (aa 2) (aa 5) (aa 10) S C) :
    ∀ (w b : Nat), b ≤ 6 → 6 < b + w → p_L_isTold_L626 E K733 K741 Q X w x (aa 0) (aa 1) (aa 2) (aa 3) (aa 4) (aa 5) (aa 6) (aa 7) (aa 10) (nI b) S C
  | 0, b, h1, h2 => by omega
  | w + 1, b, h1, h2 => by
    have hI := hc.I
    unfold p_L_isTold_L626
    refine pk_le 6 b (fun _ => ?_) (fun hb => ?_)
    · exact k
    · have next := lt_L626 (K733 := K733) h hz hc k w (b + 1) (by omega) (by omega)
      have qb := q_B_in hz hI.B hb
      have w0 : gA S (aa 3) b = nI (Z 17 b) := by rw [h.a 3]; exact congrArg nI (hz.W b (by omega))
      have w6 : gA S (aa 3) (6 + b) = nI (Z 17 (6 + b)) := by rw [h.a 3]; exact congrArg nI (hz.W (6 + b) (by omega))
      have J685 : ∀ l : Int32, l = zb (z_in Z b) → p_L_isTold_J685 E (fun (a0 : Nat) (a3 : Nat) (a4 : Nat) (a5 : Nat) (a6 : Nat) (a7 : Nat) (a8 : Nat) (a9 : Nat) (a10 : Nat) (a12 : Nat) (l13 : Int32) (S C : zS) => p_L_isTold_L626 E K733 K741 Q X w a0 a3 a4 a5 a6 a7 a8 a9 a10 a12 l13 S C) (fun (S C : zS) => K733 S C) Q X x (aa 0) (aa 1) (aa 2) (aa 3) (aa 4) (aa 5) (aa 6) (aa 7) (aa 10) (nI b) l (zb (z_in Z b)) S C := by
        intro l el
        have e := hz.E b hb
        refine pe el.symm (j_late hc hb ⟨h.o 6, h.ix 6 b rfl (by show _ < 12; omega) (pe (by rw [h.a 6, e.1]) (j_early hc hb (h.ix 6 (6 + b) (nI_add 6 b) (by show _ < 12; omega) (pe (by rw [h.a 6, e.2]) (j_errors hc hb ⟨h.o 7, h.ix 7 b rfl (by show _ < 6; omega) ?_⟩)))))⟩)
        rw [h.a 7, hz.X b hb, nI_1]
        exact py' next
      refine j_wear (p := 0) hc hb (by decide) ⟨h.o 3, h.ix 3 b rfl (by show _ < 12; omega) (pe (by rw [w0, show 6 * 0 + b = b by omega]) (j_wear (p := 1) hc hb (by decide) (h.ix 3 (6 + b) (nI_add 6 b) (by show _ < 12; omega) (pe (by rw [w6]) (j_isIn hc hb ⟨h.o 4, h.ix 4 b rfl (by show _ < 6; omega) ?_⟩)))))⟩
      rw [h.a 4, show (nI (L 4 b) = 0 ↔ L 4 b = 0) from nI_eq (b := 0) (by omega) (by decide)]
      refine ⟨fun y => J685 0 ?_, fun y => J685 1 ?_⟩
      · cases z : z_in Z b with
        | false => rfl
        | true => exact absurd (qb.2.mpr z) y
      · rw [qb.2.mp y]
        rfl
theorem lt_L830 {K868 : zS → zS → Prop} {K876 : Nat → Nat → Nat → Nat → Nat → Nat → Int32 → zS → zS → Prop} {d : Nat} (h : RA aa L S) (hz : LZ L Z) (hc : RZ E x Z C) (h1 : Z 20 0 ≤ d) (h2 : d ≤ 60) (k : K876 x (aa 0) (aa 1) (aa 2) (aa 5) (aa 10) (nI d) S C) :
    ∀ (w q : Nat), q ≤ Z 21 d → Z 21 d < q + w → p_L_isTold_L830 E K868 K876 Q X w x (aa 0) (aa 1) (aa 2) (aa 5) (aa 10) (nI d) (nI q) S C
  | 0, q, h3, h4 => by omega
  | w + 1, q, h3, h4 => by
    have hI := hc.I
    have b10 : Z 10 0 ≤ 4 := hz.T.2.1
    have hp := hI.P d h2
    have hp' := hp
    rw [← z_day_len Z] at hp
    have ep : gA S (aa 2) d = nI (lpd (z_day Z d)) := by rw [h.a 2]; exact congrArg nI (hz.P d h1 h2)
    have h44 : ∀ t, t ∈ z_day Z d → t < 4 := fun t ht => by have := hp.2 t ht; omega
    have hl := lpd_lt h44 hp.1
    unfold p_L_isTold_L830
    refine ⟨h.o 2, h.ix 2 d rfl (by show _ < 61; omega) ?_⟩
    rw [ep, (li_and (by omega)).1, (lpd8 hp.1).1, z_day_len]
    have := hp'.1
    refine pk_le (Z 21 d) q (fun _ => k) (fun lt => j_plannedAt hc h1 h2 lt (h.ix 2 d rfl (by show _ < 61; omega) ?_))
    have hg : (z_day Z d)[q]? = some (Z 22 (4 * d + q)) := by rw [z_day_get, if_pos lt]
    rw [ep, lpd_at h44 hp.1 hg, nI_1]
    exact py' (lt_L830 h hz hc h1 h2 k w (q + 1) (by omega) (by omega))
theorem lt_L747 {K825 K868 : zS → zS → Prop} {K882 : Nat → Nat → zS → zS → Prop} (h : RA aa L S) (hz : LZ L Z) (hc : RZ E x Z C) (k : K882 x (aa 10) S C) :
    ∀ (w j : Nat), Z 20 0 + j ≤ 61 → j ≤ 4 → 4 < j + w → p_L_isTold_L747 E K825 K868 K882 Q X w x (aa 0) (aa 1) (aa 2) (aa 5) (aa 10) (nI (Z 20 0 + j)) S C
  | 0, j, h1, h2, h3 => by omega
  | w + 1, j, h1, h2, h3 => by
    have hI := hc.I
    have h20 := hI.d
    have g2 : L 10 2 = Z 20 0 := hz.G.1
    have b10 : Z 10 0 ≤ 4 := hz.T.2.1
    unfold p_L_isTold_L747
    refine pk_le 61 (Z 20 0 + j) (fun _ => k) (fun lt => ⟨h.o 10, h.i0 10 2, ?_⟩)
    rw [h.a 10 2, g2, show (nI (Z 20 0) + 4 : Int32) = nI (Z 20 0 + 4) from nI_add _ 4]
    refine pk_le (Z 20 0 + 4) (Z 20 0 + j) (fun _ => k) (fun lt4 => ?_)
    have h1d : Z 20 0 ≤ Z 20 0 + j := by omega
    have h2d : Z 20 0 + j ≤ 60 := by omega
    have hp := hI.P (Z 20 0 + j) h2d
    have hp' := hp.1
    rw [← z_day_len Z] at hp
    have ep : gA S (aa 2) (Z 20 0 + j) = nI (lpd (z_day Z (Z 20 0 + j))) := by rw [h.a 2]; exact congrArg nI (hz.P _ h1d h2d)
    have hl := lpd_lt (fun t ht => by have := hp.2 t ht; omega) hp.1
    refine j_planned hc h1d h2d ⟨h.o 2, h.ix 2 (Z 20 0 + j) rfl (by show _ < 61; omega) ?_⟩
    rw [ep, (li_and (by omega)).1, (lpd8 hp.1).1, z_day_len]
    refine pe rfl (j_rota hc h1d h2d (l_band h hz hI.M hI.T hI.P hI.R4 h1d h2d (pe rfl ⟨h.o 2, h.ix 2 (Z 20 0 + j) rfl (by show _ < 61; omega) ?_⟩)))
    rw [ep, (li_and (by omega)).1, (lpd8 hp.1).1, z_day_len]
    refine j_plannedAt_n hc h1d h2d (ne_i (Nat.le_refl _) (by omega)) (py' ⟨5, Nat.le_refl _, lt_L830 h hz hc h1d h2d ?_ 5 0 (Nat.zero_le _) (by omega)⟩)
    rw [nI_1]
    exact lt_L747 h hz hc k w (j + 1) (by omega) (by omega) (by omega)
theorem lt_J882 (h : RA aa L S) (hz : LZ L Z) (hc : RZ E x Z C) (k : Q 1 S C) : p_L_isTold_J882 E Q X x (aa 10) S C := by
  have hI := hc.I
  have h20 := hI.d
  have b27 := hI.g.1
  have b3 : Z 3 0 ≤ 3 := hz.M.2.1
  have b10 : Z 10 0 ≤ 4 := hz.T.2.1
  obtain ⟨q1, q2, q3, q4, q5, q6, q7, q8⟩ := hz.G
  have g0 : gA S (aa 10) 0 = nI (Z 3 0) := by rw [h.a 10]; exact congrArg nI hz.M.1
  have g1 : gA S (aa 10) 1 = nI (Z 10 0) := by rw [h.a 10]; exact congrArg nI hz.T.1
  have g2 : gA S (aa 10) 2 = nI (Z 20 0) := by rw [h.a 10]; exact congrArg nI q1
  have g3 : gA S (aa 10) 3 = nI (Z 23 0) := by rw [h.a 10]; exact q2
  have g6 : gA S (aa 10) 6 = nI (Z 27 0) := by rw [h.a 10]; exact congrArg nI hz.R.1
  have g10 : gA S (aa 10) 10 = nI (Z 31 0) := by rw [h.a 10]; exact congrArg nI hz.R.2.1
  have g13 : gA S (aa 10) 13 = nI (Z 39 0) := by rw [h.a 10]; exact q6
  have g14 : gA S (aa 10) 14 = nI (Z 40 0) := by rw [h.a 10]; exact q7
  have g15 : gA S (aa 10) 15 - 1 = nI (Z 41 0) := by
    rw [h.a 10]
    rcases q8 with ⟨e, e2⟩ | ⟨e, e2⟩
    · rw [e, e2]
      rfl
    · rw [e, show (nI (Z 41 0 + 1) - 1 : Int32) = nI (Z 41 0 + 1 - 1) from pk_sub (b := 1) (by omega), Nat.add_sub_cancel]
  have nem : ∀ d, Z 20 0 ≤ d → d ≤ 60 → nI (Z 20 0) - 1 ≠ nI d := by
    by_cases e0 : Z 20 0 = 0
    · rw [e0]
      exact ne_rm (by decide) (by decide)
    · rw [show (nI (Z 20 0) - 1 : Int32) = nI (Z 20 0 - 1) from pk_sub (b := 1) (by omega)]
      exact ne_r (Or.inl (by omega)) (by omega) (by decide)
  have J983 : ∀ l : Int32, ∀ r : Int32, r = l → p_L_isTold_J983 E Q X x (aa 10) l r S C := by
    intro l r e
    refine pe e ⟨hc.o, j_wrong hc ⟨h.o 10, h.i0 10 13, pe g13.symm ⟨hc.o, j_rung hc ⟨h.i0 10 14, pe g14.symm ⟨hc.o, j_latest hc ⟨h.i0 10 15, pe g15.symm ?_⟩⟩⟩⟩⟩⟩
    refine j_planned0 hc (ne_r (a := 61) (Or.inr (by decide)) (by decide) (by decide)) (pe rfl ⟨h.i0 10 2, ?_⟩)
    rw [g2]
    refine j_plannedAt0 hc nem (pe rfl (j_rota0 hc (ne_rm (by decide) (by decide)) (pe rfl ⟨h.i0 10 1, ?_⟩)))
    rw [g1]
    refine j_rows0 hc (ne_i (Nat.le_refl _) (by omega)) (pe rfl (j_isTrue0 hc (ne_m (by decide) (by omega)) (pe rfl (j_wear0 hc (ne_i (a := 6) (by decide) (by decide)) (pe rfl (j_wear_r (b := 0) hc (by decide) (ne_r (a := 2) (Or.inr (by decide)) (by decide) (by decide)) (pe rfl (j_late0 hc (ne_i (a := 6) (by decide) (by decide)) (pe rfl (j_errors0 hc (ne_m (by decide) (by decide)) (pe rfl ⟨h.i0 10 0, ?_⟩)))))))))))
    rw [g0]
    exact j_stage0 hc (ne_i (Nat.le_refl _) (by omega)) (pe rfl (j_course0 hc (ne_m (by decide) (by omega)) (pe rfl (j_isIn0 hc (ne_i (a := 2147483647) (by decide) (by decide)) (pe rfl ⟨Or.inr rfl, k⟩)))))
  have J958 : ∀ l r : Int32, r = l → p_L_isTold_J958 E Q X x (aa 10) l r S C := by
    intro l r e
    refine pe e ⟨hc.o, j_delay hc (fun off => ⟨h.o 10, h.i0 10 6, ?_⟩) (fun on => ⟨h.o 10, h.i0 10 6, ?_⟩)⟩
    · rw [g6, ri_is1 b27]
      exact ⟨fun _ => J983 0 0 rfl, fun y => by omega⟩
    · rw [g6, ri_is1 b27]
      refine ⟨fun y => absurd on y, fun _ => ⟨h.i0 10 11, J983 _ _ ?_⟩⟩
      rw [h.a 10, (hz.R.2.2 on).2.2.2.1]
  have J933 : ∀ l r : Int32, r = l → p_L_isTold_J933 E Q X x (aa 10) l r S C := by
    intro l r e
    refine pe e ⟨hc.o, j_done hc (fun off => ⟨h.o 10, h.i0 10 6, ?_⟩) (fun on => ⟨h.o 10, h.i0 10 6, ?_⟩)⟩
    · rw [g6, ri_is1 b27]
      exact ⟨fun _ => J958 _ _ rfl, fun y => by omega⟩
    · rw [g6, ri_is1 b27]
      exact ⟨fun y => absurd on y, fun _ => ⟨h.i0 10 10, J958 _ _ g10.symm⟩⟩
  refine ⟨hc.o, j_touches hc ⟨h.o 10, h.i0 10 1, pe g1.symm ⟨hc.o, j_today hc ⟨h.i0 10 2, pe g2.symm ⟨hc.o, j_dropped hc ⟨h.i0 10 3, pe g3.symm ⟨hc.o, j_isRinging hc ⟨h.i0 10 6, ?_⟩⟩⟩⟩⟩⟩⟩⟩
  rw [g6, ri_is1 b27]
  refine ⟨fun y => J933 _ _ ?_, fun y => J933 _ _ ?_⟩
  · rw [show Z 27 0 = 0 by omega]
    rfl
  · rw [y]
    rfl
theorem l_isTold {l1 u : Int32} (tt : TT E aa x S C) (k : ∀ S' C', TT E aa x S' C' → Q 1 S' C') : p_L_isTold E x l1 u (aa 0) (aa 1) (aa 2) (aa 3) (aa 4) (aa 5) (aa 6) (aa 7) (aa 9) (aa 10) S C Q X := by
  obtain ⟨L, Z, h, hz, hc, hn⟩ := tt
  have hI := hc.I
  have b3 : Z 3 0 ≤ 3 := hz.M.2.1
  have b10 : Z 10 0 ≤ 4 := hz.T.2.1
  refine ⟨4, Nat.le_refl _, lt_L3 hc 4 0 L S h hz (Nat.zero_le _) (by omega) (fun L1 S1 h1 z1 => ⟨5, Nat.le_refl _, lt_L325 hc 5 0 L1 S1 h1 z1 (Nat.zero_le _) (by omega) (fun L2 S2 h2 z2 => ⟨7, Nat.le_refl _, ?_⟩)⟩)⟩
  refine lt_L626 h2 z2 hc ⟨h2.o 10, h2.i0 10 2, 5, Nat.le_refl _, ?_⟩ 7 0 (by decide) (by decide)
  rw [h2.a 10 2, z2.G.1]
  have := lt_L747 (E := E) (X := X) (Q := Q) (x := x) (K825 := fun (S C : zS) => ((0 : Int32) = 0 ∨ (0 : Int32) = 1) ∧ Q 0 S C) (K868 := fun (S C : zS) => ((0 : Int32) = 0 ∨ (0 : Int32) = 1) ∧ Q 0 S C) (K882 := fun (a0 : Nat) (a12 : Nat) (S C : zS) => p_L_isTold_J882 E Q X a0 a12 S C) h2 z2 hc (lt_J882 h2 z2 hc (k _ _ ⟨L2, Z, h2, z2, hc, hn⟩)) 5 0 (by have := hI.d; omega) (by decide) (by decide)
  exact this
end LTU
