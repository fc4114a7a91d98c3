/-! stand, due, pass -/
theorem I_fit.cg {Z Z' : zZ} (h : I_fit Z) (c : z_C Z Z') (h18 : Z' 18 = Z 18) (h19 : Z' 19 = Z 19) (h20 : Z' 20 = Z 20) (h21 : Z' 21 = Z 21) (h22 : Z' 22 = Z 22) : I_fit Z' := by
  unfold I_fit
  rw [h20, z_fit_congr c h18 h19]
  intro d h1 h2 t ht
  rw [z_day_congr h21 h22] at ht
  exact h d h1 h2 t ht
theorem I_fit.u27 {Z : zZ} (h : I_fit Z) : I_fit (up Z 27 0 0) := h.cg (fun f hf => up_f (fun e => by subst e; exact absurd hf (by decide))) (up_f (by decide)) (up_f (by decide)) (up_f (by decide)) (up_f (by decide)) (up_f (by decide))
theorem z_endR_lo {Z Z3 : zZ} (hM : z_M Z) (hT : z_TT Z) (hP : z_P Z) (hB : z_B Z) (h20 : Z 20 0 ≤ 60) (f1 : I_fit Z) (f2 : I_nd Z) (h : z_lo (up Z 27 0 0) Z3) : z_endR Z Z3 := by
  have lk : ∀ W, z_lk (up Z 27 0 0) W → z_lk Z (fun f i => if f = 27 then Z 27 i else W f i) := by
    intro W l
    refine ⟨fun f hf => funext fun i => ?_, fun i hi => ?_⟩
    · show (if f = 27 then Z 27 i else W f i) = Z f i
      by_cases e : f = 27
      · rw [if_pos e, e]
      · rw [if_neg e, l.1 f hf, up_f e]
    · show (if 18 = 27 then Z 27 i else W 18 i) = _
      rw [if_neg (by decide), l.2 i hi]
      rfl
  have ne : ∀ (W : zZ) (f : Nat), f ≠ 27 → (fun f i => if f = 27 then Z 27 i else W f i) f = W f := fun W f hf => funext fun i => if_neg hf
  have dy : ∀ (W : zZ) (d : Nat), z_day (fun f i => if f = 27 then Z 27 i else W f i) d = z_day W d := fun W d => z_day_congr (ne W 21 (by decide)) (ne W 22 (by decide)) d
  have ft : ∀ W : zZ, z_fit (fun f i => if f = 27 then Z 27 i else W f i) = z_fit W := fun W => z_fit_congr (fun f hf => ne W f (fun e => by subst e; exact absurd hf (by decide))) (ne W 18 (by decide)) (ne W 19 (by decide))
  have li := z_lo_I (Z := up Z 27 0 0) hM hT hP hB h20 f1.u27 f2 h
  have z0 : Z3 27 0 = 0 := by
    rw [z_lo_f h 27 (by decide), up_s]
  rcases h with ⟨e, l⟩ | ⟨e, W, l, dr⟩
  · refine ⟨_, fun f i => if f = 27 then Z 27 i else Z3 f i, lk Z3 l, z_dr_id ?_ ?_, fun f hf _ => (ne Z3 f hf).symm, z0⟩
    · intro d h1 h2 t ht
      rw [ft]
      rw [dy] at ht
      refine li.1 d ?_ h2 t ht
      rw [ne Z3 20 (by decide)] at h1
      exact h1
    · have e20 : Z3 20 0 = Z 20 0 := by rw [l.1 20 (by decide)]; rfl
      show (if 20 = 27 then Z 27 0 else Z3 20 0) ≤ 60
      rw [if_neg (by decide), e20]
      exact h20
  · refine ⟨_, fun f i => if f = 27 then Z 27 i else Z3 f i, lk W l, ⟨fun f hf => funext fun i => ?_, ?_, fun d hd => ?_, fun d h1 h2 => ?_⟩, fun f hf _ => (ne Z3 f hf).symm, z0⟩
    · show (if f = 27 then Z 27 i else Z3 f i) = if f = 27 then Z 27 i else W f i
      rw [dr.1 f hf]
    · rw [ne Z3 23 (by decide), ne W 23 (by decide), ne W 20 (by decide), dr.2.1, z_cnt_c (Z := W) (Z' := fun f i => if f = 27 then Z 27 i else W f i) (fun d _ t _ => by rw [ft]) (fun d _ => dy W d) (W 20 0) (61 - W 20 0) (by rw [l.1 20 (by decide)]; have : (up Z 27 0 0) 20 0 = Z 20 0 := rfl; omega)]
    · rw [ne W 20 (by decide)] at hd
      rw [dy, dy]
      exact dr.2.2.1 d hd
    · rw [ne W 20 (by decide)] at h1
      rw [dy, dy, ft]
      exact dr.2.2.2 d h1 h2
/-- every bell has a place in a row -/
def ro_chk5 (n : Nat) (r : Nat) : Bool := (List.range n).all (fun b => (List.range n).any (fun p => ro_bl r p == b))
theorem ro_c5_5 : ro_en 4 (ro_chk5 4) 4 [] 0 = true ∧ ro_en 5 (ro_chk5 5) 5 [] 0 = true ∧ ro_en 6 (ro_chk5 6) 6 [] 0 = true := by decide +kernel
theorem ro_min {P : Nat → Prop} : ∀ (k : Nat), P k → ∃ j, j ≤ k ∧ P j ∧ ∀ q, q < j → ¬ P q := by
  intro k
  induction k using Nat.strongRecOn with
  | ind k ih =>
    intro h
    by_cases e : ∃ q, q < k ∧ P q
    · obtain ⟨q, hq, h2⟩ := e
      obtain ⟨j, a, b, c⟩ := ih q hq h2
      exact ⟨j, by omega, b, c⟩
    · exact ⟨k, Nat.le_refl _, h, fun q hq hp => e ⟨q, hq, hp⟩⟩
theorem ro_place {n r b : Nat} (hN : ro_N n) (hr : ro_V n r) (hb : b < n) : ∃ p, p < n ∧ ro_bl r p = b ∧ ∀ q, q < p → ro_bl r q ≠ b := by
  have c : ro_chk5 n r = true := by
    rcases hN with rfl | rfl | rfl
    · exact ro_all ro_c5_5.1 hr
    · exact ro_all ro_c5_5.2.1 hr
    · exact ro_all ro_c5_5.2.2 hr
  unfold ro_chk5 at c
  rw [List.all_eq_true] at c
  have c := c b (List.mem_range.mpr hb)
  rw [List.any_eq_true] at c
  obtain ⟨p, hp, e⟩ := c
  obtain ⟨j, h1, h2, h3⟩ := ro_min (P := fun p => ro_bl r p = b) p (beq_iff_eq.mp e)
  have := List.mem_range.mp hp
  exact ⟨j, by omega, h2, h3⟩
section OPH
variable {E : zE} {x m : Nat}
theorem s_stand : sim_stand E x m (RR E x m) := by
  intro Sc Sm hRR _
  obtain ⟨ad, la, V, ma, Z, ⟨hC, rfl⟩, hM, hV, hI⟩ := hRR
  unfold pm_stand p_X11_stand
  have e27 : gI Sm 1127 m = nI (Z 27 0) := hM.i 27
  refine ⟨hC.o 10 0 z1, c_r9 hC (fun e => ⟨rfl, hM.1, ?_⟩) (fun e h7 e9 => ?_)⟩
  · rw [e27, ← hV.G.1, e]
    exact ⟨fun _ => (m_uk hM 1 (by omega) rfl (fun S1 g1 => finK g1 1 rfl rfl (by omega) (RR.mk hC rfl hV hI g1 s0))).2, fun x => absurd rfl x⟩
  · have h1 : Z 27 0 = 1 := hV.G.1.symm.trans e
    have hI0 : IZ (up Z 0 0 0) := hI.scr s0
    have hV0 : RV V (up Z 0 0 0) := hV.scr s0
    refine c_endRinging hC hV0 rfl hI0.M hI0.T hI0.B hI0.P hI0.d (fun V' S' g' ag hV' => ⟨g'.o 7 0 h7, hM.1, ?_⟩)
    rw [e27, h1]
    refine ⟨fun x => absurd x (by decide), fun _ => (m_u0 hM (fun S1 g1 => ⟨Or.inl rfl, g1.wI 27 0 rfl (fun S2 g2 => m_lo g2 hI0.M hI0.T (z_B_congr rfl rfl hI0.B) (z_P_congr rfl rfl rfl hI0.P) hI0.d (fun Z3 S3 g3 lo => ⟨g3.1, ?_⟩))⟩)).2⟩
    have f3 := z_lo_f lo
    have hI3 : IZ Z3 := IZ.lo (Z := up (up Z 0 0 0) 27 0 0) rfl hI0.M hI0.T (z_B_congr rfl rfl hI0.B) (z_P_congr rfl rfl rfl hI0.P) (z_R4_cg hI0.R4 rfl rfl rfl) hI0.d hI0.fit.u27 hI0.nd hI0.n lo
    have hV3 := hV' Z3 (z_endR_lo hI0.M hI0.T hI0.P hI0.B hI0.d hI0.fit hI0.nd lo)
    have e0 : Z3 27 0 = 0 := by
      rw [f3 27 (by decide), up_s]
    have e31 : gI S3 1131 m = nI (Z3 31 0) := g3.i 31
    rw [e31, g'.gi 701 7 0 h7, ag 701 (by decide), (hV.G.2 h1).2.1, f3 31 (by decide)]
    exact fin0 g3 (by rw [f3 0 (by decide)]; rfl) rfl (RR.mk3 g3 (g'.drop7 (hV3.G.1.trans e0)) rfl hV3 hI3 (by rw [f3 3 (by decide)]; rfl) (by rw [f3 10 (by decide)]; rfl) e0)
theorem IZ.on {Z : zZ} (h : IZ Z) (on : Z 27 0 = 1) {V : vV} (g : V_G V Z) : G_on V Z (Z 28 0) (z_st Z (Z 28 0)) := by
  have := h.g.2 on
  exact ⟨g, on, rfl, this.1, rfl, this.2.2.1⟩
theorem s_due : sim_due E x m (RR E x m) := by
  intro Sc Sm hRR l1
  obtain ⟨ad, la, V, ma, Z, ⟨hC, rfl⟩, hM, hV, hI⟩ := hRR
  unfold pm_due p_X11_due
  have hn := hI.n
  have hon : Z 27 0 = 1 → Z 28 0 = Z 28 0 ∧ z_T Z (Z 28 0) ∧ Z 29 0 < 64 ∧ ∀ b, b < 6 → Z 34 b < 2 ^ 31 := fun e => by
    have g := hI.g.2 e
    have ht := hI.T.2 _ g.1
    have := z_pow6 (z_T_N hI.M ht)
    exact ⟨rfl, ht, by omega, fun b hb => by have := hn.2.2.1 b hb; omega⟩
  have no : ∀ b, b < 6 → ¬ (Z 27 0 = 1 ∧ z_pp Z b = true ∧ Z 34 b < z_L Z (Z 28 0)) → p_X11_due E m (nI b) Sm (fun b9 Sm1 => gI Sm1 1100 m = 2 ∧ ((2 : Int32) = 0 → 0 = b9) ∧ RR E (ad 10 0) m Sc Sm1) (fun _ _ => False) := by
    intro b hb h
    refine w1_isBell1 hb ⟨fun _ => ⟨hM.1, m_hasPull (t := Z 28 0) hM hI.M hI.g.1 hon hb (fun _ Z1 S1 g1 hE => ⟨fun _ => m_uk g1 2 (by omega) rfl (fun S2 g2 => finK g2 2 rfl rfl (by omega) (RR.mk hC rfl hV hI g2 (((z_scr.refl Z).E hE).up (by decide)))), fun x => absurd rfl x⟩) (fun a1 a2 a3 => absurd ⟨a1, a2, a3⟩ h)⟩, fun x => absurd x (by decide)⟩
  refine c_rqI (n := 6) (by decide) (fun b hb e => ⟨hC.o 10 0 z1, hC.o 10 0 z1, c_r9 hC (fun ev => Or.inr ⟨rfl, ?_⟩) (fun ev h7 e9 => ⟨hC.o 7 0 h7, ?_⟩)⟩) (fun hn => Or.inl ⟨rfl, ?_⟩)
  · subst e
    exact no b hb (fun x => by
      have := hV.G.1
      omega)
  · subst e
    have h1 : Z 27 0 = 1 := hV.G.1.symm.trans ev
    have g := hI.g.2 h1
    have ht := hI.T.2 _ g.1
    have hN := z_T_N hI.M ht
    have on := hI.on h1 hV.G
    refine c_awaits hC h7 on hI.M hI.T (hV.T.sl rfl) hV.B (hn.2.2.1 b hb) hb ?_
    refine zb_d (fun a => ⟨_, rfl, hC.o 7 0 h7, ?_⟩) (fun a => Or.inr ⟨rfl, no b hb (fun x => ?_)⟩)
    · rw [Bool.and_eq_true, decide_eq_true_eq] at a
      have hb2 : b < z_st Z (Z 28 0) := by
        rcases Nat.lt_or_ge b (z_st Z (Z 28 0)) with y | y
        · exact y
        · rw [z_pp_hi g.2.2.1 y] at a
          exact absurd a.1 (by decide)
      obtain ⟨p0, h0, h4, h5⟩ := ro_place hN (z_f_V hI.M ht a.2) hb2
      have n6 := (ro_N6 hN).1
      refine c_nextDue hC h7 on hI.M hI.T (hV.T.sl rfl) hV.B a.2 hb h0 h4 h5 ?_
      refine w1_isBell1 hb ⟨fun _ => ⟨hM.1, m_hasPull (t := Z 28 0) hM hI.M hI.g.1 hon hb (fun h _ _ _ _ => absurd ⟨h1, a.1, a.2⟩ h) (fun _ _ _ Z1 S1 g1 hE hW => ⟨fun x => absurd x (by decide), fun _ => m_u0 g1 (fun S2 g2 => ?_)⟩)⟩, fun x => absurd x (by decide)⟩
      have s1 : z_scr Z (up Z1 0 0 0) := ((z_scr.refl Z).E hE).up (by decide)
      have hI1 := hI.scr s1
      have e34 : up Z1 0 0 0 34 = Z 34 := s1 34 (by decide)
      have eL := z_C_L s1.C
      have ef := z_C_f s1.C
      have edu : z_du (up Z1 0 0 0) = z_du Z := by
        unfold z_du
        rw [s1 30 (by decide), s1 32 (by decide), s1 28 (by decide), z_C_st s1.C]
      refine m_dueOf (n := 0) (t := Z 28 0) (p0 := p0) g2 hI1.M (congrFun (s1 28 (by decide)) 0) (hI1.T.2 _ (by rw [s1 10 (by decide)]; exact g.1)) ?_ hb (by rw [e34, eL]; exact a.2) (by omega) (by rw [e34, ef]; exact h4) (by rw [e34, ef]; exact h5) ?_
      · rw [z_C_st s1.C, z_C_cs s1.C]
        exact hW
      · rw [e34, edu]
        exact fin0 g2 rfl rfl (RR.mk hC rfl hV hI g2 s1)
    · rw [x.2.1, decide_eq_true x.2.2] at a
      exact absurd a (by decide)
  · exact w1_isBell0 hn ⟨fun x => absurd rfl x, fun _ => m_uk hM 1 (by omega) rfl (fun S1 g1 => finK g1 1 rfl rfl (by omega) (RR.mk hC rfl hV hI g1 s0))⟩
theorem s_pass : sim_pass E x m (RR E x m) := by
  intro Sc Sm hRR _
  obtain ⟨ad, la, V, ma, Z, ⟨hC, rfl⟩, hM, hV, hI⟩ := hRR
  unfold pm_pass p_X11_pass
  have e27 : gI Sm 1127 m = nI (Z 27 0) := hM.i 27
  have e20 : gI Sm 1120 m = nI (Z 20 0) := hM.i 20
  have h20 := hI.d
  refine ⟨hC.o 10 0 z1, c_sil hC (fun ev => ⟨hC.o 10 0 z1, hC.sg 1008 8 z1 ?_⟩) (fun ev => ⟨rfl, hM.1, ?_⟩)⟩
  · have z27 : Z 27 0 = 0 := hV.G.1.symm.trans ev
    rw [hC.gi 802 8 0 z1, hV.R.2.1]
    have no : Z 20 0 = 60 → (m ∈ gL Sm ∧ gK Sm m = 11) ∧ ((¬ (gI Sm 1127 m) = 0) → p_X11_pass_J17 E (fun b9 Sm1 => gI Sm1 1100 m = 1 ∧ ((1 : Int32) = 0 → 0 = b9) ∧ RR E (ad 10 0) m Sc Sm1) (fun _ _ => False) m m Sm) ∧ (((gI Sm 1127 m) = 0) → ((¬ (gI Sm 1120 m) = 60) → p_X11_pass_J22 E (fun b9 Sm1 => gI Sm1 1100 m = 1 ∧ ((1 : Int32) = 0 → 0 = b9) ∧ RR E (ad 10 0) m Sc Sm1) (fun _ _ => False) m 0 m Sm) ∧ (((gI Sm 1120 m) = 60) → p_X11_pass_J17 E (fun b9 Sm1 => gI Sm1 1100 m = 1 ∧ ((1 : Int32) = 0 → 0 = b9) ∧ RR E (ad 10 0) m Sc Sm1) (fun _ _ => False) m m Sm)) := by
      intro e60
      refine ⟨hM.1, ?_⟩
      rw [e27, z27, e20, e60]
      exact ⟨fun x => absurd rfl x, fun _ => ⟨fun x => absurd rfl x, fun _ => m_tk hM 1 (by omega) rfl (fun S1 g1 => finK g1 1 rfl rfl (by omega) (RR.mk hC rfl hV hI g1 s0))⟩⟩
    refine ⟨fun c => hC.sg 1008 8 z1 ?_, fun c => ⟨rfl, no ?_⟩⟩
    · have lt : Z 20 0 < 60 := (nI_ltI (by omega) (by decide)).mp c
      refine c_endDay hC hI.M hI.P hI.T hI.R4 hV.R hV.Y (hV.T.sl rfl) hI.d (fun S1 g1 => ⟨g1.o 10 0 z1, g1.sg 1008 8 z1 ⟨hM.1, ?_⟩⟩)
      rw [g1.gi 802 8 0 z1, u3_s, e27, z27, e20]
      refine ⟨fun x => absurd rfl x, fun _ => ⟨fun _ => m_t0 hM (fun S2 g2 => ?_), fun x => absurd ((nI_eq (b := 60) (by omega) (by decide)).mp x) (by omega)⟩⟩
      have h0 : IZ (up Z 0 0 0) := hI.scr s0
      have e20' : gI S2 1120 m = nI (Z 20 0) := g2.i 20
      rw [e20']
      have tbl : z_tb (z_ba Z (Z 20 0)) (Z 25 0) < 4 := by
        cases e : z_ba Z (Z 20 0) with
        | none => exact hI.R4.2.1
        | some b => exact Nat.mod_lt _ (by decide)
      have w := hV.R
      have endj : ∀ l, l = nI (z_tb (z_ba Z (Z 20 0)) (Z 25 0)) → p_X11_pass_J61 E (fun b9 Sm1 => gI Sm1 1100 m = 0 ∧ ((0 : Int32) = 0 → nI (Z 20 0 + 1) = b9) ∧ RR E (ad 10 0) m S1 Sm1) (fun _ _ => False) m l m S2 := by
        intro l el
        refine ⟨g2.1, g2.wI 25 _ el (fun S3 g3 => ⟨g3.1, g3.wI 26 4294967295 cm1 (fun S4 g4 => g4.ij 21 (Z 20 0) (g4.i 20) (show Z 20 0 < 61 by omega) (g4.wA 21 (Z 20 0) 0 rfl (fun S5 g5 => g5.wI 20 (Z 20 0 + 1) ?_ (fun S6 g6 => ?_))))⟩)⟩
        · rw [g5.i 20]
          exact nI_1 _
        · have e6 : gI S6 1120 m = nI (Z 20 0 + 1) := (g6.i 20).trans (by rw [up_s])
          have za : agZ [0, 20, 21, 25, 26] Z (up (up (up (up (up Z 0 0 0) 25 0 (z_tb (z_ba Z (Z 20 0)) (Z 25 0))) 26 0 4294967295) 21 (Z 20 0) 0) 20 0 (Z 20 0 + 1)) := (((((agZ.refl _ _).u).u).u).u).u
          have va : agV [400, 802, 804, 805] V (u3 (u3 (u3 (u3 V 804 0 0 (z_tb (z_ba Z (Z 20 0)) (Z 25 0))) 805 0 0 4294967295) 400 (Z 20 0) 0 0) 802 0 0 (Z 20 0 + 1)) := ((((agV.refl _ _).u).u).u).u
          have dz : ∀ d, z_day (up (up (up (up (up Z 0 0 0) 25 0 (z_tb (z_ba Z (Z 20 0)) (Z 25 0))) 26 0 4294967295) 21 (Z 20 0) 0) 20 0 (Z 20 0 + 1)) d = if d = Z 20 0 then [] else z_day Z d := by
            intro d
            unfold z_day
            rw [up_f (show 21 ≠ 20 by decide), up_f (show 22 ≠ 20 by decide)]
            by_cases e : d = Z 20 0
            · rw [if_pos e, e, up_s]
              rfl
            · rw [if_neg e, up_i e]
              rfl
          refine fin0 g6 rfl e6.symm (RR.mk2 g6 g1 rfl (hV.ch (lv := [400, 802, 804, 805]) (lz := [0, 20, 21, 25, 26]) va za (kY := Or.inr (fun d hd => ?_)) (kR := Or.inr ⟨w.1, ?_, w.2.2.1, ?_, ?_⟩)) (hI.ch2 (lz := [0, 20, 21, 25, 26]) za (kP := Or.inr (fun d hd => ⟨?_, fun t ht => ?_⟩)) (kR := Or.inr ⟨hI.R4.1, ?_, Or.inl ?_⟩) (kd := Or.inr ?_) (kf := Or.inr ?_) (kn := Or.inr (fun d hd => ?_)) (kg := Or.inr ?_)))
          · rw [dz]
            unfold v_day
            rw [u3_f (show 400 ≠ 802 by decide)]
            by_cases e : d = Z 20 0
            · rw [if_pos e, e, u3_s]
              rfl
            · rw [if_neg e, u3_i e]
              exact hV.Y d hd
          · rw [u3_s, up_s]
          · rw [u3_f (by decide), u3_f (by decide), u3_f (by decide), u3_s]
            rfl
          · rw [u3_f (by decide), u3_f (by decide), u3_s]
            rfl
          · rw [up_f (by decide)]
            by_cases e : d = Z 20 0
            · rw [e, up_s]
              decide
            · rw [up_i e]
              exact (hI.P d hd).1
          · rw [dz] at ht
            by_cases e : d = Z 20 0
            · rw [if_pos e] at ht
              exact absurd ht List.not_mem_nil
            · rw [if_neg e] at ht
              exact (hI.P d hd).2 t ht
          · exact tbl
          · exact cm1.symm
          · rw [up_s]
            omega
          · intro d h1 h2 t ht
            rw [up_s] at h1
            rw [dz, if_neg (by omega)] at ht
            have := hI.fit d (by omega) h2 t ht
            rw [← this]
            exact congrFun (z_fit_congr (za.m (k := [3, 4, 5, 6, 7, 10, 11, 12]) rfl) rfl rfl) t
          · rw [dz]
            by_cases e : d = Z 20 0
            · rw [if_pos e]
              exact List.nodup_nil
            · rw [if_neg e]
              exact hI.nd d hd
          · exact ⟨by show Z 27 0 < 2; omega, fun x => by have : Z 27 0 = 1 := x; omega⟩
      refine m_bandOf g2 h0.M h0.P h0.T h0.R4 h20 (Nat.le_refl _) ?_
      rw [z_ba_scr s0]
      cases e : z_ba Z (Z 20 0) with
      | none =>
        refine ⟨fun x => absurd rfl x, fun _ => ⟨g2.1, endj _ ?_⟩⟩
        rw [e]
        exact g2.i 25
      | some b =>
        have hb := z_ba_lt hI.R4 e
        refine ⟨fun _ => endj _ ?_, fun x => absurd x (z_oi_n (by omega))⟩
        rw [e, show z_oi (some b) + 1 = nI (b + 1) from nI_1 b, ri_rem4 (by omega)]
        rfl
    · exact Nat.le_antisymm h20 (Nat.le_of_not_lt (fun h => c ((nI_ltI (by omega) (by decide)).mpr h)))
  · have z27 : Z 27 0 = 1 := hV.G.1.symm.trans ev
    rw [e27, z27]
    exact ⟨fun _ => m_tk hM 1 (by omega) rfl (fun S1 g1 => finK g1 1 rfl rfl (by omega) (RR.mk hC rfl hV hI g1 s0)), fun x => absurd x (by decide)⟩
end OPH
