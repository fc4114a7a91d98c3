/-! calls that change bells -/
theorem RR.mk3 {E : zE} {x m : Nat} {ad la : Nat → Nat → Nat} {V' : vV} {Z' : zZ} {Sc Sm : zS} {ma : Nat → Nat} {M T R : Nat} (hM : RM ma Z' m Sm) (hC : RC E ad la (sd M T R) V' Sc) (hx : ad 10 0 = x) (hV : RV V' Z') (hI : IZ Z') (e3 : Z' 3 0 = M) (e10 : Z' 10 0 + 2 = T) (e27 : Z' 27 0 = R) : RR E x m Sc Sm := by
  refine ⟨ad, la, V', ma, Z', ⟨?_, hx⟩, hM, hV, hI⟩
  rw [e3, e10, e27]
  exact hC
theorem z_R4_cg {Z Z' : zZ} (hR : z_R4 Z) (h1 : Z' 24 = Z 24) (h2 : Z' 25 = Z 25) (h3 : Z' 26 = Z 26) : z_R4 Z' := by
  unfold z_R4
  rw [h1, h2, h3]
  exact hR
theorem IZ.dr {Z Z' : zZ} (h27 : Z 27 0 = 0) (hM : z_M Z) (hT : z_TT Z) (hB : z_B Z) (hP : z_P Z) (hR : z_R4 Z) (h20 : Z 20 0 ≤ 60) (nd : I_nd Z) (w : I_w Z) (n : I_n Z) (h : z_dr Z Z') : IZ Z' := by
  have c := z_dr_C h
  have f := h.1
  have e20 : Z' 20 = Z 20 := f 20 (by decide)
  have ef : z_fit Z' = z_fit Z := z_fit_congr c (f 18 (by decide)) (f 19 (by decide))
  refine ⟨⟨z_C_M c hM, z_C_TT c hT, z_B_congr (f 18 (by decide)) (f 19 (by decide)) hB, z_dr_P h hP, z_R4_cg hR (f 24 (by decide)) (f 25 (by decide)) (f 26 (by decide)), by rw [e20]; exact h20⟩, fun d h1 h2 t ht => ?_, fun d hd => ?_, ?_, ?_, ?_⟩
  · rw [e20] at h1
    rw [h.2.2.2 d h1 h2] at ht
    rw [ef]
    exact (List.mem_filter.mp ht).2
  · by_cases x : d < Z 20 0
    · rw [h.2.2.1 d x]
      exact nd d hd
    · rw [h.2.2.2 d (by omega) hd]
      exact (nd d hd).filter _
  · intro e i hi
    rw [z_nw_congr (f 17 (by decide)) (f 18 (by decide))]
    exact w h27 i hi
  · have e : Z' 27 0 = 0 := by rw [f 27 (by decide)]; exact h27
    exact ⟨by omega, fun x => by omega⟩
  · unfold I_n
    rw [f 33 (by decide), f 34 (by decide), f 35 (by decide)]
    exact n
theorem IZ.lo {Z Z' : zZ} (h27 : Z 27 0 = 0) (hM : z_M Z) (hT : z_TT Z) (hB : z_B Z) (hP : z_P Z) (hR : z_R4 Z) (h20 : Z 20 0 ≤ 60) (ft : I_fit Z) (nd : I_nd Z) (n : I_n Z) (h : z_lo Z Z') : IZ Z' := by
  have c := z_lo_C h
  have f := z_lo_f h
  have e20 : Z' 20 = Z 20 := f 20 (by decide)
  have li := z_lo_I hM hT hP hB h20 ft nd h
  refine ⟨⟨z_C_M c hM, z_C_TT c hT, z_lo_B h hB, z_lo_P h hP, z_R4_cg hR (f 24 (by decide)) (f 25 (by decide)) (f 26 (by decide)), by rw [e20]; exact h20⟩, li.1, li.2.1, fun _ => li.2.2.1, ?_, ?_⟩
  · have e : Z' 27 0 = 0 := by rw [f 27 (by decide)]; exact h27
    exact ⟨by omega, fun x => by omega⟩
  · unfold I_n
    rw [f 33 (by decide), f 34 (by decide), f 35 (by decide)]
    exact n
theorem V_B.u0 {V : vV} {Z : zZ} (h : V_B V Z) (b v : Nat) (h9 : Z 0 = Z 0 := by rfl) : V_B (u3 V 200 b 0 v) (up (up Z 0 0 0) 19 b v) := by
  intro b' hb'
  have w := h b' hb'
  refine ⟨?_, w.2.1, w.2.2.1, w.2.2.2.1, w.2.2.2.2.1, w.2.2.2.2.2.1, w.2.2.2.2.2.2.1, w.2.2.2.2.2.2.2.1, w.2.2.2.2.2.2.2.2.1, w.2.2.2.2.2.2.2.2.2⟩
  by_cases e : b' = b
  · rw [e, u3_s, up_s]
  · rw [u3_i e, up_i e]
    exact w.1
theorem z_in_le {Z Z' : zZ} (h : ∀ b, b < 6 → z_in Z b = true → z_in Z' b = true) {n : Nat} (hn : n ≤ 6) (a : z_are Z n = true) : z_are Z' n = true := by
  unfold z_are at a ⊢
  rw [List.all_eq_true] at a ⊢
  exact fun b hb => h b (by have := List.mem_range.mp hb; omega) (a b hb)
theorem z_fit_le {Z Z' : zZ} (hM : z_M Z) (hT : z_TT Z) (c : z_C Z Z') (h : ∀ b, b < 6 → z_in Z b = true → z_in Z' b = true) {t : Nat} (ht : t < Z 10 0) (a : z_fit Z t = true) : z_fit Z' t = true := by
  unfold z_fit at a ⊢
  rw [Bool.and_eq_true] at a ⊢
  rw [z_C_st c, z_C_snd c]
  exact ⟨z_in_le h (ro_N6 (z_T_N hM (hT.2 t ht))).1 a.1, a.2⟩
section OPG
variable {E : zE} {x m : Nat}
theorem s_takeOut : sim_takeOut E x m (RR E x m) := by
  intro Sc Sm hRR l1
  obtain ⟨ad, la, V, ma, Z, ⟨hC, rfl⟩, hM, hV, hI⟩ := hRR
  unfold pm_takeOut p_X11_takeOut
  refine ⟨hC.o 10 0 z1, c_bell hC (fun b hb e => ⟨_, rfl, hC.o 2 b hb, ?_⟩) (fun hn => Or.inl ⟨rfl, ?_⟩)⟩
  · subst e
    have b19 := hI.B.1 b hb
    have e27 : gI Sm 1127 m = nI (Z 27 0) := hM.i 27
    rw [hC.gi 200 2 b hb, (hV.B b hb).1, ri_0 b19]
    refine ⟨fun h19 => ⟨hC.o 10 0 z1, c_sil hC (fun e9 => ⟨hC.o 2 b hb, Or.inr rfl, hC.uI 200 2 b 1 hb rfl (fun S1 g1 => ⟨g1.o 10 0 z1, g1.sg 1007 1 z1 ?_⟩)⟩) (fun e9 => Or.inr ⟨rfl, ?_⟩)⟩, fun h19 => Or.inr ⟨rfl, ?_⟩⟩
    · have z27 : Z 27 0 = 0 := hV.G.1.symm.trans e9
      have hI1 : z_B (up (up Z 0 0 0) 19 b 1) := ⟨fun b' hb' => by
        by_cases e : b' = b
        · rw [e, up_s]
          decide
        · rw [up_i e]
          exact hI.B.1 b' hb', hI.B.2⟩
      have hV1 : RV (u3 V 200 b 0 1) (up (up Z 0 0 0) 19 b 1) := hV.ch (lv := [200]) (lz := [0, 19]) ((agV.refl _ _).u) (((agZ.refl _ _).u).u) (kB := Or.inr (hV.B.u0 b 1))
      have c1 : z_C Z (up (up Z 0 0 0) 19 b 1) := (((agZ.refl [0, 19] Z).u).u).m (by rfl)
      have hM1 := z_C_M c1 hI.M
      have hT1 := z_C_TT c1 hI.T
      have hP1 : z_P (up (up Z 0 0 0) 19 b 1) := z_P_congr rfl rfl rfl hI.P
      have nd1 : I_nd (up (up Z 0 0 0) 19 b 1) := hI.nd
      refine c_bellsOut g1 hV1.B hI1 ⟨_, g1.sgR 1008 8 z1, g1.o 8 0 z1, c_drop g1 hM1 hP1 hT1 hV1.R hV1.Y (hV1.T.sl rfl) hI.d (fun V3 V4 S4 g4 dp d3 d4 => ?_)⟩
      refine w1_isBell1 hb ⟨fun _ => ⟨hM.1, hM.ij 19 b rfl hb ?_⟩, fun x => absurd x (by decide)⟩
      rw [hM.a 19, ri_0 b19, e27, z27]
      refine ⟨fun x => absurd h19 x, fun _ => ⟨fun _ => (m_u0 hM (fun S5 g5 => g5.ij 19 b rfl hb ⟨Or.inr rfl, g5.wA 19 b 1 rfl (fun S6 g6 => ?_)⟩)).2, fun x => absurd rfl x⟩⟩
      refine m_drops g6 hM1 hT1 hI1 hP1 hI.d (fun Z7 S7 g7 dr => fin0 g7 ?_ rfl ?_)
      · rw [dr.1 0 (by decide)]
        rfl
      · have hV7 := hV1.dr hM1 hT1 hP1 hI.d dp d3 d4 dr
        exact RR.mk3 g7 g4 rfl hV7 (IZ.dr (Z := up (up Z 0 0 0) 19 b 1) z27 hM1 hT1 hI1 hP1 (z_R4_cg hI.R4 rfl rfl rfl) hI.d nd1 hI.w hI.n dr) (by rw [dr.1 3 (by decide)]; rfl) (by rw [dr.1 10 (by decide)]; rfl) (by rw [dr.1 27 (by decide)]; rfl)
    · have z27 : Z 27 0 = 1 := hV.G.1.symm.trans e9
      refine w1_isBell1 hb ⟨fun _ => ⟨hM.1, hM.ij 19 b rfl hb ?_⟩, fun x => absurd x (by decide)⟩
      rw [hM.a 19, ri_0 b19, e27, z27]
      exact ⟨fun x => absurd h19 x, fun _ => ⟨fun x => absurd x (by decide), fun _ => m_tk hM 2 (by omega) rfl (fun S1 g1 => finK g1 2 rfl rfl (by omega) (RR.mk hC rfl hV hI g1 s0))⟩⟩
    · refine w1_isBell1 hb ⟨fun _ => ⟨hM.1, hM.ij 19 b rfl hb ?_⟩, fun x => absurd x (by decide)⟩
      rw [hM.a 19, ri_0 b19]
      exact ⟨fun _ => m_tk hM 2 (by omega) rfl (fun S1 g1 => finK g1 2 rfl rfl (by omega) (RR.mk hC rfl hV hI g1 s0)), fun x => absurd x h19⟩
  · exact w1_isBell0 hn ⟨fun x => absurd rfl x, fun _ => m_uk hM 1 (by omega) rfl (fun S1 g1 => finK g1 1 rfl rfl (by omega) (RR.mk hC rfl hV hI g1 s0))⟩
theorem s_bringIn : sim_bringIn E x m (RR E x m) := by
  intro Sc Sm hRR l1
  obtain ⟨ad, la, V, ma, Z, ⟨hC, rfl⟩, hM, hV, hI⟩ := hRR
  unfold pm_bringIn p_X11_bringIn
  refine ⟨hC.o 10 0 z1, c_bell hC (fun b hb e => ⟨_, rfl, hC.o 2 b hb, ?_⟩) (fun hn => Or.inl ⟨rfl, ?_⟩)⟩
  · subst e
    have b19 := hI.B.1 b hb
    rw [hC.gi 200 2 b hb, (hV.B b hb).1, ri_0 b19]
    refine ⟨fun h19 => ⟨Or.inl rfl, hC.uI 200 2 b 0 hb rfl (fun S1 g1 => ?_)⟩, fun h19 => Or.inr ⟨rfl, ?_⟩⟩
    · have hI1 : z_B (up (up Z 0 0 0) 19 b 0) := ⟨fun b' hb' => by
        by_cases e : b' = b
        · rw [e, up_s]
          decide
        · rw [up_i e]
          exact hI.B.1 b' hb', hI.B.2⟩
      have hV1 : RV (u3 V 200 b 0 0) (up (up Z 0 0 0) 19 b 0) := hV.ch (lv := [200]) (lz := [0, 19]) ((agV.refl _ _).u) (((agZ.refl _ _).u).u) (kB := Or.inr (hV.B.u0 b 0))
      have c1 : z_C Z (up (up Z 0 0 0) 19 b 0) := (((agZ.refl [0, 19] Z).u).u).m (by rfl)
      refine c_isUsable g1 hV1.B hI1 hb ⟨zb_01 _, w1_isBell1 hb ⟨fun _ => ⟨hM.1, hM.ij 19 b rfl hb ?_⟩, fun x => absurd x (by decide)⟩⟩
      rw [hM.a 19, ri_0 b19]
      refine ⟨fun x => absurd x h19, fun _ => m_t0 hM (fun S5 g5 => g5.ij 19 b rfl hb ⟨Or.inl rfl, g5.wA 19 b 0 rfl (fun S6 g6 => m_isInNow g6 hI1 hb ⟨zb_01 _, fin0 g6 rfl rfl (RR.mk2 g6 g1 rfl hV1 (hI.ch2 (lz := [0, 19]) (((agZ.refl _ _).u).u) (kB := Or.inr hI1) (kf := Or.inr ?_)))⟩)⟩)⟩
      intro d h1 h2 t ht
      refine z_fit_le hI.M hI.T c1 (fun b' hb' h => ?_) ((hI.P d h2).2 t ht) (hI.fit d h1 h2 t ht)
      unfold z_in at h ⊢
      by_cases e : b' = b
      · subst e
        rw [up_s]
        rw [Bool.and_eq_true] at h
        exact h.2
      · rw [up_i e]
        exact h
    · refine w1_isBell1 hb ⟨fun _ => ⟨hM.1, hM.ij 19 b rfl hb ?_⟩, fun x => absurd x (by decide)⟩
      rw [hM.a 19, ri_0 b19]
      exact ⟨fun _ => m_tk hM 2 (by omega) rfl (fun S1 g1 => ⟨Or.inl rfl, finK g1 2 rfl rfl (by omega) (RR.mk hC rfl hV hI g1 s0)⟩), fun x => absurd h19 x⟩
  · exact w1_isBell0 hn ⟨fun x => absurd rfl x, fun _ => m_tk hM 1 (by omega) rfl (fun S1 g1 => ⟨Or.inl rfl, finK g1 1 rfl rfl (by omega) (RR.mk hC rfl hV hI g1 s0)⟩)⟩
theorem z_nw0 {Z : zZ} {i : Nat} (h : Z 17 i = 0) (hi : i < 12) : z_nw Z i = false := by
  unfold z_nw
  rw [h]
  have : ∀ i, i < 12 → decide (nI 0 < z_lim i) = true := by decide
  rw [this i hi]
  exact Bool.and_false _
theorem s_mend : sim_mend E x m (RR E x m) := by
  intro Sc Sm hRR l1 l2
  obtain ⟨ad, la, V, ma, Z, ⟨hC, rfl⟩, hM, hV, hI⟩ := hRR
  unfold pm_mend p_X11_mend
  have e27 : gI Sm 1127 m = nI (Z 27 0) := hM.i 27
  refine ⟨hC.o 10 0 z1, c_bell hC (fun b hb e => c_rqR (lo := 0) (hi := 1) (by decide) (by decide) (fun p _ hp e2 => ⟨hC.o 10 0 z1, c_sil hC (fun e9 => ⟨_, rfl, hC.o 2 b hb, ?_⟩) (fun e9 => Or.inr (Or.inr ⟨rfl, ?_⟩))⟩) (fun hn => Or.inr (Or.inl ⟨rfl, ?_⟩))) (fun hn => Or.inl ⟨rfl, ?_⟩)⟩
  · subst e
    subst e2
    have z27 : Z 27 0 = 0 := hV.G.1.symm.trans e9
    refine c_renew hC hb (by omega) (fun S1 g1 => ?_)
    have v : V 205 b p = Z 17 (6 * p + b) := by
      have v := hV.B b hb
      rcases (show p = 0 ∨ p = 1 by omega) with rfl | rfl
      · rw [v.2.2.2.2.2.1, show 6 * 0 + b = b by omega]
      · rw [v.2.2.2.2.2.2.1]
    rw [v]
    refine w1_isBell1 hb ⟨fun _ => w1_inR1 (lo := 0) (hi := 1) (Nat.zero_le _) hp (by decide) ⟨fun _ => ⟨hM.1, ?_⟩, fun x => absurd x (by decide)⟩, fun x => absurd x (by decide)⟩
    rw [e27, z27]
    have h12 : 6 * p + b < 12 := by omega
    refine ⟨fun _ => m_t0 hM (fun S2 g2 => g2.ij 17 (6 * p + b) (ri_6 p b) h12 (g2.ij 17 (6 * p + b) (ri_6 p b) h12 (g2.wA 17 (6 * p + b) 0 rfl (fun S3 g3 => g3.ij 18 (6 * p + b) (ri_6 p b) h12 ⟨Or.inl rfl, g3.wA 18 (6 * p + b) 0 rfl (fun S4 g4 => ?_)⟩)))), fun x => absurd rfl x⟩
    have z0 : agZ [0, 17, 18] Z (up (up (up Z 0 0 0) 17 (6 * p + b) 0) 18 (6 * p + b) 0) := ((((agZ.refl _ _).u).u).u)
    have c1 := z0.m (k := [3, 4, 5, 6, 7, 10, 11, 12]) rfl
    have hI1 : z_B (up (up (up Z 0 0 0) 17 (6 * p + b) 0) 18 (6 * p + b) 0) := ⟨hI.B.1, fun i hi => by
        by_cases e : i = 6 * p + b
        · rw [e, up_s]
          decide
        · rw [up_i e]
          exact hI.B.2 i hi⟩
    have up0 : ∀ i, (up (up (up Z 0 0 0) 17 (6 * p + b) 0) 18 (6 * p + b) 0) 17 i = if i = 6 * p + b then 0 else Z 17 i := fun i => by
      rw [up_f (by decide)]
      by_cases e : i = 6 * p + b
      · rw [if_pos e, e, up_s]
      · rw [if_neg e, up_i e]
        rfl
    have up1 : ∀ i, (up (up (up Z 0 0 0) 17 (6 * p + b) 0) 18 (6 * p + b) 0) 18 i = if i = 6 * p + b then 0 else Z 18 i := fun i => by
      by_cases e : i = 6 * p + b
      · rw [if_pos e, e, up_s]
      · rw [if_neg e, up_i e]
        rfl
    rw [g2.a 17]
    refine fin0 g4 rfl rfl (RR.mk2 g4 g1 rfl (hV.ch (lv := [205, 206]) (lz := [0, 17, 18]) (((agV.refl _ _).u).u) z0 (kB := Or.inr (fun b' hb' => ?_))) (hI.ch2 (lz := [0, 17, 18]) z0 (kB := Or.inr hI1) (kf := Or.inr ?_) (kw := Or.inr ?_) (kg := Or.inr ?_)))
    · have w := hV.B b' hb'
      have wv : ∀ q, q < 2 → (u3 (u3 V 205 b p 0) 206 b p 0) 205 b' q = (if 6 * q + b' = 6 * p + b then 0 else V 205 b' q) := fun q hq => by
        rw [u3_f (by decide)]
        by_cases e : b' = b
        · subst e
          by_cases e3 : q = p
          · subst e3
            rw [u3_s, if_pos rfl]
          · rw [u3_j e3, if_neg (by omega)]
        · rw [u3_i e, if_neg (by omega)]
      have ww : ∀ q, q < 2 → (u3 (u3 V 205 b p 0) 206 b p 0) 206 b' q = (if 6 * q + b' = 6 * p + b then 0 else V 206 b' q) := fun q hq => by
        by_cases e : b' = b
        · subst e
          by_cases e3 : q = p
          · subst e3
            rw [u3_s, if_pos rfl]
          · rw [u3_j e3, if_neg (by omega)]
            rfl
        · rw [u3_i e, if_neg (by omega)]
          rfl
      refine ⟨w.1, w.2.1, w.2.2.1, w.2.2.2.1, w.2.2.2.2.1, ?_, ?_, ?_, ?_, w.2.2.2.2.2.2.2.2.2⟩
      · rw [wv 0 (by decide), up0, w.2.2.2.2.2.1, show 6 * 0 + b' = b' by omega]
      · rw [wv 1 (by decide), up0, w.2.2.2.2.2.2.1]
      · rw [ww 0 (by decide), up1, w.2.2.2.2.2.2.2.1, show 6 * 0 + b' = b' by omega]
      · rw [ww 1 (by decide), up1, w.2.2.2.2.2.2.2.2.1]
    · intro d h1 h2 t ht
      refine z_fit_le hI.M hI.T c1 (fun b' hb' h => ?_) ((hI.P d h2).2 t ht) (hI.fit d h1 h2 t ht)
      unfold z_in at h ⊢
      rw [Bool.and_eq_true, Bool.and_eq_true] at h ⊢
      rw [up1, up1]
      refine ⟨h.1, ?_, ?_⟩
      · split
        · rfl
        · exact h.2.1
      · split
        · rfl
        · exact h.2.2
    · intro _ i hi
      by_cases e : i = 6 * p + b
      · exact z_nw0 (by rw [up0, if_pos e]) hi
      · have := hI.w z27 i hi
        unfold z_nw at this ⊢
        rw [up0, up1, if_neg e, if_neg e]
        exact this
    · exact ⟨by show Z 27 0 < 2; omega, fun x => by have : Z 27 0 = 1 := x; omega⟩
  · subst e
    subst e2
    have z27 : Z 27 0 = 1 := hV.G.1.symm.trans e9
    refine w1_isBell1 hb ⟨fun _ => w1_inR1 (lo := 0) (hi := 1) (Nat.zero_le _) hp (by decide) ⟨fun _ => ⟨hM.1, ?_⟩, fun x => absurd x (by decide)⟩, fun x => absurd x (by decide)⟩
    rw [e27, z27]
    exact ⟨fun x => absurd x (by decide), fun _ => m_tk hM 3 (by omega) rfl (fun S1 g1 => finK g1 3 rfl rfl (by omega) (RR.mk hC rfl hV hI g1 s0))⟩
  · subst e
    exact w1_isBell1 hb ⟨fun _ => w1_inR0 (lo := 0) (hi := 1) (by decide) (by decide) hn ⟨fun x => absurd rfl x, fun _ => m_tk hM 2 (by omega) rfl (fun S1 g1 => finK g1 2 rfl rfl (by omega) (RR.mk hC rfl hV hI g1 s0))⟩, fun x => absurd x (by decide)⟩
  · exact w1_isBell0 hn ⟨fun x => absurd rfl x, fun _ => m_tk hM 1 (by omega) rfl (fun S1 g1 => finK g1 1 rfl rfl (by omega) (RR.mk hC rfl hV hI g1 s0))⟩
end OPG
