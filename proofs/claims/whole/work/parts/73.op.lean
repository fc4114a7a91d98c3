/-! calls that ask for wear, bands, days -/
theorem s01 {Z : zZ} : z_scr Z (up Z 0 0 0) := s0
theorem z_ba_cg {Z Z' : zZ} (c : z_C Z Z') (h20 : Z' 20 = Z 20) (h21 : Z' 21 = Z 21) (h22 : Z' 22 = Z 22) (h24 : Z' 24 = Z 24) (h25 : Z' 25 = Z 25) (h26 : Z' 26 = Z 26) : z_ba Z' = z_ba Z := by
  have mx : ∀ d k, z_mx Z' d k = z_mx Z d k := by
    intro d k
    induction k with
    | zero => rfl
    | succ k ih =>
      show (if z_mx Z' d k < z_st Z' (Z' 22 (4 * d + k)) then z_st Z' (Z' 22 (4 * d + k)) else z_mx Z' d k) = _
      rw [ih, z_C_st c, h22]
      rfl
  have bf : ∀ a k, z_bf Z' a k = z_bf Z a k := by
    intro a k
    unfold z_bf
    rw [h24]
  have bd : ∀ d a, z_bd Z' d a = z_bd Z d a := by
    intro d a
    unfold z_bd
    rw [h20, h26, h21, mx, bf]
  have bo : ∀ j, z_bo Z' j = z_bo Z j := by
    intro j
    induction j with
    | zero =>
      show (Z' 25 0, none) = (Z 25 0, none)
      rw [h25]
    | succ j ih =>
      show (z_tb (z_bd Z' (Z' 20 0 + j) (z_bo Z' j).1) (z_bo Z' j).1, z_bd Z' (Z' 20 0 + j) (z_bo Z' j).1) = _
      rw [ih, h20, bd]
      rfl
  funext d
  unfold z_ba
  rw [h20, bo]
theorem z_ba_scr {Z Z' : zZ} (e : z_scr Z Z') : z_ba Z' = z_ba Z := z_ba_cg e.C (e 20 (by decide)) (e 21 (by decide)) (e 22 (by decide)) (e 24 (by decide)) (e 25 (by decide)) (e 26 (by decide))
section OPF
variable {E : zE} {x m : Nat}
theorem ri_6 (p b : Nat) : (6 : Int32) * nI p + nI b = nI (6 * p + b) := by
  rw [show (6 : Int32) * nI p = nI (6 * p) from pk_mul 6 p, nI_add]
theorem s_wear : sim_wear E x m (RR E x m) := by
  intro Sc Sm hRR l1 l2
  obtain ⟨ad, la, V, ma, Z, ⟨hC, rfl⟩, hM, hV, hI⟩ := hRR
  unfold pm_wear p_X11_wear
  refine ⟨hC.o 10 0 z1, c_bell hC (fun b hb e => c_rqR (lo := 0) (hi := 1) (by decide) (by decide) (fun p _ hp e2 => ⟨_, rfl, hC.o 2 b hb, hC.ij 205 b p hb e2 (by show p < 2; omega) ?_⟩) (fun hn => Or.inr ⟨rfl, ?_⟩)) (fun hn => Or.inl ⟨rfl, ?_⟩)⟩
  · subst e
    subst e2
    have v : V 205 b p = Z 17 (6 * p + b) := by
      have v := hV.B b hb
      rcases (show p = 0 ∨ p = 1 by omega) with rfl | rfl
      · rw [v.2.2.2.2.2.1, show 6 * 0 + b = b by omega]
      · rw [v.2.2.2.2.2.2.1]
    rw [hC.ga 205 b p hb, v]
    refine w1_isBell1 hb ⟨fun _ => w1_inR1 (lo := 0) (hi := 1) (Nat.zero_le _) hp (by decide) ⟨fun x => absurd x (by decide), fun _ => m_t0 hM (fun S1 g1 => g1.ij 17 (6 * p + b) (ri_6 p b) (by show _ < 12; omega) ?_)⟩, fun x => absurd x (by decide)⟩
    rw [g1.a 17]
    exact fin0 g1 rfl rfl (RR.mk hC rfl hV hI g1 s0)
  · subst e
    exact w1_isBell1 hb ⟨fun _ => w1_inR0 (lo := 0) (hi := 1) (by decide) (by decide) hn ⟨fun _ => m_tk hM 2 (by omega) rfl (fun S1 g1 => finK g1 2 rfl rfl (by omega) (RR.mk hC rfl hV hI g1 s0)), fun x => absurd rfl x⟩, fun x => absurd x (by decide)⟩
  · exact w1_isBell0 hn ⟨fun x => absurd rfl x, fun _ => m_tk hM 1 (by omega) rfl (fun S1 g1 => finK g1 1 rfl rfl (by omega) (RR.mk hC rfl hV hI g1 s0))⟩
theorem s_isIn : sim_isIn E x m (RR E x m) := by
  intro Sc Sm hRR l1
  obtain ⟨ad, la, V, ma, Z, ⟨hC, rfl⟩, hM, hV, hI⟩ := hRR
  unfold pm_isIn p_X11_isIn
  refine ⟨hC.o 10 0 z1, c_bell hC (fun b hb e => ⟨_, rfl, hC.o 2 b hb, c_isUsable hC hV.B hI.B hb ⟨zb_01 _, ?_⟩⟩) (fun hn => ⟨rfl, ?_⟩)⟩
  · subst e
    refine w1_isBell1 hb ⟨fun x => absurd x (by decide), fun _ => m_e0 hM (fun S1 g1 => m_isInNow g1 (z_B_congr rfl rfl hI.B) hb ?_)⟩
    have ez : z_in (up Z 0 0 0) b = z_in Z b := rfl
    rw [ez]
    refine zb_c (fun e => ⟨Or.inl rfl, ?_⟩) (fun e => ⟨Or.inr rfl, ?_⟩)
    · rw [e]
      exact fin0 g1 rfl rfl (RR.mk hC rfl hV hI g1 s0)
    · rw [e]
      exact fin0 g1 rfl rfl (RR.mk hC rfl hV hI g1 s0)
  · exact w1_isBell0 hn ⟨fun _ => m_e1 hM (fun S1 g1 => ⟨Or.inl rfl, finK g1 1 rfl rfl (by omega) (RR.mk hC rfl hV hI g1 s0)⟩), fun x => absurd rfl x⟩
theorem s_setBand : sim_setBand E x m (RR E x m) := by
  intro Sc Sm hRR l1 l2
  obtain ⟨ad, la, V, ma, Z, ⟨hC, rfl⟩, hM, hV, hI⟩ := hRR
  unfold pm_setBand p_X11_setBand
  refine c_rqI (n := 4) (by decide) (fun i hi e => c_rqR (lo := 4) (hi := 6) (by decide) (by decide) (fun v hv hv6 e2 => ⟨hC.o 10 0 z1, hC.sg 1008 8 z1 (hC.ij 800 0 i z1 e hi (hC.sg 1008 8 z1 (hC.ij 800 0 i z1 e hi (hC.uA 800 0 i v z1 e2 (fun S2 g2 => ?_)))))⟩) (fun hn => Or.inr ⟨rfl, ?_⟩)) (fun hn => Or.inl ⟨rfl, ?_⟩)
  · subst e
    subst e2
    have w := hV.R
    rw [hC.ga 800 0 i z1, w.1 i hi]
    refine w1_inR1 (lo := 0) (hi := 3) (Nat.zero_le _) (by omega) (by decide) ⟨fun _ => w1_inR1 (lo := 4) (hi := 6) hv hv6 (by decide) ⟨fun x => absurd x (by decide), fun _ => m_t0 hM (fun S3 g3 => g3.ij 24 i rfl hi (g3.ij 24 i rfl hi (g3.wA 24 i v rfl (fun S4 g4 => ?_))))⟩, fun x => absurd x (by decide)⟩
    rw [g3.a 24]
    refine fin0 g4 rfl rfl (RR.mk2 g4 g2 rfl (hV.ch (lv := [800]) (lz := [0, 24]) ((agV.refl _ _).u) (((agZ.refl _ _).u).u) (kR := Or.inr ⟨fun j hj => ?_, ?_, ?_, ?_, ?_⟩)) (hI.ch2 (lz := [0, 24]) (((agZ.refl _ _).u).u) (kR := Or.inr ⟨fun j hj => ?_, ?_, ?_⟩)))
    · by_cases e : j = i
      · rw [e, u3_s, up_s]
      · rw [u3_j e, up_i e]
        exact w.1 j hj
    · exact w.2.1
    · exact w.2.2.1
    · exact w.2.2.2.1
    · exact w.2.2.2.2
    · by_cases e : j = i
      · rw [e, up_s]
        exact ⟨hv, hv6⟩
      · rw [up_i e]
        exact hI.R4.1 j hj
    · exact hI.R4.2.1
    · exact hI.R4.2.2
  · subst e
    exact w1_inR1 (lo := 0) (hi := 3) (Nat.zero_le _) (by omega) (by decide) ⟨fun _ => w1_inR0 (lo := 4) (hi := 6) (by decide) (by decide) hn ⟨fun _ => m_tk hM 2 (by omega) rfl (fun S1 g1 => finK g1 2 rfl rfl (by omega) (RR.mk hC rfl hV hI g1 s0)), fun x => absurd rfl x⟩, fun x => absurd x (by decide)⟩
  · exact w1_inR0 (lo := 0) (hi := 3) (by decide) (by decide) (fun j _ hj => hn j (by omega)) ⟨fun x => absurd rfl x, fun _ => m_tk hM 1 (by omega) rfl (fun S1 g1 => finK g1 1 rfl rfl (by omega) (RR.mk hC rfl hV hI g1 s0))⟩
theorem s_planned : sim_planned E x m (RR E x m) := by
  intro Sc Sm hRR l1
  obtain ⟨ad, la, V, ma, Z, ⟨hC, rfl⟩, hM, hV, hI⟩ := hRR
  unfold pm_planned p_X11_planned
  refine ⟨hC.o 10 0 z1, c_day hC hV.R.2.1 hI.d (fun d h1 h2 e => ⟨_, rfl, hC.o 4 d (show d < 61 by omega), hC.ex 400 d (show d < 61 by omega) (c_size hC 400 d (show d < 61 by omega) ?_)⟩) (fun hn => ⟨rfl, ?_⟩)⟩
  · rw [(hV.Y.get h2).1]
    refine ⟨hM.1, m_isDay hM hI.d (fun d' h1' h2' e' => ⟨fun x => absurd x (by decide), fun _ => m_u0 hM (fun S1 g1 => g1.ij 21 d e (by show d < 61; omega) ?_)⟩) (fun hn => absurd e (hn d h1 h2))⟩
    rw [g1.a 21]
    exact fin0 g1 rfl rfl (RR.mk hC rfl hV hI g1 s0)
  · exact ⟨hM.1, m_isDay hM hI.d (fun d' h1' h2' e' => absurd e' (hn d' h1' h2')) (fun _ => ⟨fun _ => m_uk hM 1 (by omega) rfl (fun S1 g1 => finK g1 1 rfl rfl (by omega) (RR.mk hC rfl hV hI g1 s0)), fun x => absurd rfl x⟩)⟩
theorem s_plannedAt : sim_plannedAt E x m (RR E x m) := by
  intro Sc Sm hRR l1 l2
  obtain ⟨ad, la, V, ma, Z, ⟨hC, rfl⟩, hM, hV, hI⟩ := hRR
  unfold pm_plannedAt p_X11_plannedAt
  refine ⟨hC.o 10 0 z1, c_day hC hV.R.2.1 hI.d (fun d h1 h2 e => ⟨_, rfl, hC.o 4 d (show d < 61 by omega), hC.ex 400 d (show d < 61 by omega) (c_size hC 400 d (show d < 61 by omega) ?_)⟩) (fun hn => Or.inl ⟨rfl, ?_⟩)⟩
  · have y := hV.Y.get h2
    have p4 := (hI.P d h2).1
    rw [y.1]
    refine c_rqI (by omega) (fun k hk e2 => ?_) (fun hn => Or.inr ⟨rfl, ?_⟩)
    · subst e
      subst e2
      have tk : Z 22 (4 * d + k) < Z 10 0 := (hI.P d h2).2 _ (List.mem_map.mpr ⟨k, List.mem_range.mpr hk, rfl⟩)
      have w := hV.T.2 _ tk
      refine ⟨hC.o 4 d (show d < 61 by omega), hC.ex 400 d (show d < 61 by omega) (c_get (g := 2400) (t := 9) hC 400 d k (show d < 61 by omega) (by rw [y.1]; exact hk) (fun hm => ⟨_, rfl, hC.o 9 _ hm, ?_⟩))⟩
      rw [hC.gi 900 9 _ hm, y.2 k hk, w.2.1]
      refine ⟨hM.1, m_isDay hM hI.d (fun d' h1' h2' e' => ⟨fun _ => ⟨hM.1, hM.ij 21 d rfl (by show d < 61; omega) ?_⟩, fun x => absurd x (by decide)⟩) (fun hn => absurd rfl (hn d h1 h2))⟩
      rw [hM.a 21]
      refine w1_inP1 hk (by omega) ⟨fun x => absurd x (by decide), fun _ => m_t0 hM (fun S1 g1 => g1.ij 22 (4 * d + k) ?_ (by show _ < 244; omega) ?_)⟩
      · rw [show (4 : Int32) * nI d = nI (4 * d) from pk_mul 4 d, nI_add]
      · rw [g1.a 22]
        exact fin0 g1 rfl rfl (RR.mk hC rfl hV hI g1 s0)
    · subst e
      refine ⟨hM.1, m_isDay hM hI.d (fun d' h1' h2' e' => ⟨fun _ => ⟨hM.1, hM.ij 21 d rfl (by show d < 61; omega) ?_⟩, fun x => absurd x (by decide)⟩) (fun hn => absurd rfl (hn d h1 h2))⟩
      rw [hM.a 21]
      exact w1_inP0 (by omega) hn ⟨fun _ => m_tk hM 2 (by omega) rfl (fun S1 g1 => finK g1 2 rfl rfl (by omega) (RR.mk hC rfl hV hI g1 s0)), fun x => absurd rfl x⟩
  · exact ⟨hM.1, m_isDay hM hI.d (fun d' h1' h2' e' => absurd e' (hn d' h1' h2')) (fun _ => ⟨fun x => absurd rfl x, fun _ => m_tk hM 1 (by omega) rfl (fun S1 g1 => finK g1 1 rfl rfl (by omega) (RR.mk hC rfl hV hI g1 s0))⟩)⟩
theorem s_rota : sim_rota E x m (RR E x m) := by
  intro Sc Sm hRR l1
  obtain ⟨ad, la, V, ma, Z, ⟨hC, rfl⟩, hM, hV, hI⟩ := hRR
  unfold pm_rota p_X11_rota
  refine ⟨hC.o 10 0 z1, hC.sg 1008 8 z1 ?_⟩
  rw [hC.gi 802 8 0 z1, hV.R.2.1]
  have h0 : IZ (up Z 0 0 0) := hI.scr s0
  refine c_rqR (hi := 60) (by decide) (by have := hI.d; omega) (fun d h1 h2 e => ⟨hC.o 10 0 z1, hC.sg 1008 8 z1 ?_⟩) (fun hn => ⟨rfl, ?_⟩)
  · subst e
    refine c_bandFor hC hI.M hI.P hI.T hI.R4 hV.R hV.Y (hV.T.sl rfl) h2 h1 ⟨hM.1, m_isDay hM hI.d (fun d' h1' h2' e' => ⟨fun x => absurd x (by decide), fun _ => m_u0 hM (fun S1 g1 => m_bandOf g1 h0.M h0.P h0.T h0.R4 h2 h1 ?_)⟩) (fun hn => absurd rfl (hn d h1 h2))⟩
    exact fin0 g1 rfl (by rw [z_ba_scr s0]) (RR.mk hC rfl hV hI g1 s0)
  · exact ⟨hM.1, m_isDay hM hI.d (fun d' h1' h2' e' => absurd e' (hn d' h1' h2')) (fun _ => ⟨fun _ => m_uk hM 1 (by omega) rfl (fun S1 g1 => finK g1 1 rfl rfl (by omega) (RR.mk hC rfl hV hI g1 s0)), fun x => absurd rfl x⟩)⟩
end OPF
