/-! calls that ask for methods and touches -/
theorem s0 {Z : zZ} {v : Nat} : z_scr Z (up Z 0 0 v) := (z_scr.refl Z).up (by decide)
section OPB
variable {E : zE} {x m : Nat}
theorem s_stage : sim_stage E x m (RR E x m) := by
  intro Sc Sm hRR l1
  obtain ⟨ad, la, V, ma, Z, ⟨hC, rfl⟩, hM, hV, hI⟩ := hRR
  have vm := hV.1
  have hMz := hI.1.1
  refine ⟨hC.o 10 0 z1, c_methodAt hC vm.1 (fun i hi => (vm.2 i hi).1) (fun i hi hm e => ⟨_, rfl, hC.o 5 i hm, ?_⟩) (fun hn => ⟨rfl, ?_⟩)⟩
  · subst e
    have b := z_M_n hMz hi
    rw [hC.gi 501 5 i hm, (vm.2 i hi).2.2.1]
    refine ⟨hM.1, m_asM1 hM hi hMz (fun S1 g1 => ⟨fun x => absurd x (by decide), fun _ => ⟨g1.1, g1.ij 4 i rfl (by show i < 8; omega) ?_⟩⟩)⟩
    rw [g1.a 4]
    exact fin0 g1 rfl rfl (RR.mk hC rfl hV hI g1 s0)
  · exact ⟨hM.1, m_asM0 hM hn hMz (fun S1 g1 => ⟨fun _ => finK g1 1 rfl rfl (by omega) (RR.mk hC rfl hV hI g1 s0), fun x => absurd rfl x⟩)⟩
theorem s_changeAt : sim_changeAt E x m (RR E x m) := by
  intro Sc Sm hRR l1 l2 l3
  obtain ⟨ad, la, V, ma, Z, ⟨hC, rfl⟩, hM, hV, hI⟩ := hRR
  have vm := hV.1
  have hMz := hI.1.1
  refine ⟨hC.o 10 0 z1, c_methodAt hC vm.1 (fun i hi => (vm.2 i hi).1) (fun i hi hm e => ⟨fun h3 => ?_, fun h3 => Or.inl ⟨rfl, ?_⟩⟩) (fun hn => Or.inl ⟨rfl, ?_⟩)⟩
  · subst e
    have b := z_M_n hMz hi
    obtain ⟨p, hp, rfl⟩ := nI_of (x := l3) (fun y => by
      have h4 := Int32.le_iff_toInt_le.mp h3
      have h5 := Int32.lt_iff_toInt_lt.mp y
      omega)
    refine c_rqR (lo := 0) (hi := 2) (by decide) (by decide) (fun c _ hc e => ?_) (fun hn => Or.inr ⟨rfl, ?_⟩)
    · subst e
      have ref : ∀ v, (p < Z 5 i → v = nI (z_ch Z i c p)) → (Z 5 i ≤ p → v = -1) → pm_changeAt E m (RR E (ad 10 0) m) (nI i) (nI c) (nI p) Sm 0 v Sc := by
        intro v v1 v2
        refine ⟨hM.1, m_isM1 hM hi hMz ⟨fun x => absurd x (by decide), fun _ => ⟨fun _ => w1_isCall1 (by omega) ⟨fun x => absurd x (by decide), fun _ => m_t0 hM (fun S1 g1 => g1.ij 5 i rfl (by show i < 8; omega) ?_)⟩, fun x => absurd h3 x⟩⟩⟩
        rw [g1.a 5, show up Z 0 0 0 5 i = Z 5 i from rfl]
        refine pk_le (Z 5 i) p (fun h4 => fin0 g1 rfl (v2 h4) (RR.mk hC rfl hV hI g1 s0)) (fun h4 => ?_)
        refine m_changeOf g1 (z_C_M s0.C hMz) hi (by omega) h4 (fin0 g1 rfl ?_ (RR.mk hC rfl hV hI g1 s0))
        rw [z_C_ch s0.C]
        exact v1 h4
      refine ⟨_, rfl, hC.o 5 i hm, ?_⟩
      by_cases h4 : p < Z 5 i
      · exact c_changeOf hC vm hMz hm hi (by omega) h4 (ref _ (fun _ => rfl) (fun y => by omega))
      · exact c_changeOfN hC vm hMz hm hi (by omega) hp (ref _ (fun y => absurd y h4) (fun _ => rfl))
    · exact ⟨hM.1, m_isM1 hM hi hMz ⟨fun x => absurd x (by decide), fun _ => ⟨fun _ => w1_isCall0 (fun j hj => hn j (Nat.zero_le _) (by omega)) ⟨fun _ => m_tk hM 2 (by omega) rfl (fun S1 g1 => finK g1 2 rfl rfl (by omega) (RR.mk hC rfl hV hI g1 s0)), fun x => absurd rfl x⟩, fun x => absurd h3 x⟩⟩⟩
  · subst e
    exact ⟨hM.1, m_isM1 hM hi hMz ⟨fun x => absurd x (by decide), fun _ => ⟨fun x => absurd x h3, fun _ => m_tk hM 1 (by omega) rfl (fun S1 g1 => finK g1 1 rfl rfl (by omega) (RR.mk hC rfl hV hI g1 s0))⟩⟩⟩
  · exact ⟨hM.1, m_isM0 hM hn hMz ⟨fun _ => m_tk hM 1 (by omega) rfl (fun S1 g1 => finK g1 1 rfl rfl (by omega) (RR.mk hC rfl hV hI g1 s0)), fun x => absurd rfl x⟩⟩
theorem s_head : sim_head E x m (RR E x m) := by
  intro Sc Sm hRR l1 l2
  obtain ⟨ad, la, V, ma, Z, ⟨hC, rfl⟩, hM, hV, hI⟩ := hRR
  have vm := hV.1
  have hMz := hI.1.1
  refine ⟨hC.o 10 0 z1, c_methodAt hC vm.1 (fun i hi => (vm.2 i hi).1) (fun i hi hm e => ?_) (fun hn => Or.inl ⟨rfl, ?_⟩)⟩
  · subst e
    have b := z_M_n hMz hi
    have hN := (hMz.2 i hi).1
    refine c_rqR (lo := 0) (hi := 2) (by decide) (by decide) (fun c _ hc e => ?_) (fun hn => Or.inr ⟨rfl, ?_⟩)
    · subst e
      have hVr := ro_la_V hN (z_lc Z i c) _ (ro_V_rnd hN).1 (z_M_lc hMz hi (by omega))
      have hlt := ro_V_lt hN hVr
      refine ⟨_, rfl, hC.o 5 i hm, ?_⟩
      rw [hC.gi 501 5 i hm, (vm.2 i hi).2.2.1]
      refine w8_rounds (by omega) ⟨hC.o 5 i hm, c_lastRow4 hC vm hMz hm hi (by omega) (ro_V_rnd hN).1 ⟨hC.o 5 i hm, ?_⟩⟩
      rw [hC.gi 501 5 i hm, (vm.2 i hi).2.2.1]
      refine c_num hN hVr ?_
      refine ⟨hM.1, m_isM1 hM hi hMz ⟨fun _ => w1_isCall1 (by omega) ⟨fun x => absurd x (by decide), fun _ => m_t0 hM (fun S1 g1 => g1.ij 4 i rfl (by show i < 8; omega) ?_)⟩, fun x => absurd x (by decide)⟩⟩
      rw [g1.a 4, show up Z 0 0 0 4 i = Z 4 i from rfl]
      refine w1_rounds (by omega) ⟨g1.1, m_behindLead g1 (z_C_M s0.C hMz) hi (by omega) (ro_V_rnd hN).1 ⟨g1.1, g1.ij 4 i rfl (by show i < 8; omega) ?_⟩⟩
      rw [g1.a 4, show up Z 0 0 0 4 i = Z 4 i from rfl, show z_lc (up Z 0 0 0) i c = z_lc Z i c from by unfold z_lc; rw [z_C_ch s0.C]; rfl]
      exact w1_number (by omega) (by omega) (fin0 g1 rfl rfl (RR.mk hC rfl hV hI g1 s0))
    · exact ⟨hM.1, m_isM1 hM hi hMz ⟨fun _ => w1_isCall0 (fun j hj => hn j (Nat.zero_le _) (by omega)) ⟨fun _ => m_tk hM 2 (by omega) rfl (fun S1 g1 => finK g1 2 rfl rfl (by omega) (RR.mk hC rfl hV hI g1 s0)), fun x => absurd rfl x⟩, fun x => absurd x (by decide)⟩⟩
  · exact ⟨hM.1, m_isM0 hM hn hMz ⟨fun x => absurd rfl x, fun _ => m_tk hM 1 (by omega) rfl (fun S1 g1 => finK g1 1 rfl rfl (by omega) (RR.mk hC rfl hV hI g1 s0))⟩⟩
theorem s_course : sim_course E x m (RR E x m) := by
  intro Sc Sm hRR l1
  obtain ⟨ad, la, V, ma, Z, ⟨hC, rfl⟩, hM, hV, hI⟩ := hRR
  have vm := hV.1
  have hMz := hI.1.1
  refine ⟨hC.o 10 0 z1, c_methodAt hC vm.1 (fun i hi => (vm.2 i hi).1) (fun i hi hm e => ⟨_, rfl, hC.o 5 i hm, ?_⟩) (fun hn => ⟨rfl, ?_⟩)⟩
  · subst e
    have b := z_M_n hMz hi
    have hN := (hMz.2 i hi).1
    obtain ⟨k, hk1, hk6, hk⟩ := ro_it_back hN (z_M_lc hMz hi (c := 0) (by decide))
    obtain ⟨k0, h1, h2, h3, h4⟩ := ro_least (fun q => ro_it (Z 4 i) (z_lc Z i 0) q = ro_rnd (Z 4 i)) k hk1 hk
    refine c_course hC vm hMz hm hi h1 (by omega) h3 h4 ?_
    refine ⟨hM.1, m_asM1 hM hi hMz (fun S1 g1 => ⟨fun _ => ⟨g1.1, g1.ij 4 i rfl (by show i < 8; omega) ?_⟩, fun x => absurd x (by decide)⟩)⟩
    have el : z_lc (up Z 0 0 0) i 0 = z_lc Z i 0 := by unfold z_lc; rw [z_C_ch s0.C]; rfl
    rw [g1.a 4, show up Z 0 0 0 4 i = Z 4 i from rfl]
    refine w1_rounds (by omega) ⟨g1.1, m_behindLead (c := 0) g1 (z_C_M s0.C hMz) hi (by omega) (ro_V_rnd hN).1 ⟨8, ?_⟩⟩
    exact m_course_L (k0 := k0) g1 (z_C_M s0.C hMz) hi (by rw [el]; exact h3) (by rw [el]; exact h4) (fin0 g1 rfl rfl (RR.mk hC rfl hV hI g1 s0)) 8 1 (by omega) h1 (by omega)
  · exact ⟨hM.1, m_asM0 hM hn hMz (fun S1 g1 => ⟨fun x => absurd rfl x, fun _ => finK g1 1 rfl rfl (by omega) (RR.mk hC rfl hV hI g1 s0)⟩)⟩
theorem s_dropLeads : sim_dropLeads E x m (RR E x m) := by
  intro Sc Sm hRR
  obtain ⟨ad, la, V, ma, Z, ⟨hC, rfl⟩, hM, hV, hI⟩ := hRR
  have vl := hV.2.2.2.2.1
  have vj := hV.2.2.2.1
  have hd : V 1006 0 0 < Z 10 0 + 2 := vj.2.2.2.1
  refine ⟨hC.o 10 0 z1, hC.vr 1006 z1 (fun _ => ⟨hC.o 9 _ hd, hC.ex 906 _ hd (c_size hC 906 _ hd ⟨hC.o 10 0 z1, hC.vr 1006 z1 (fun _ => ⟨hC.o 9 _ hd, hC.ex 906 _ hd (c_clear hC 906 _ hd (fun S2 g2 => ⟨hM.1, hM.wI 0 0 rfl (fun S3 g3 => g3.wI 8 0 rfl (fun S4 g4 => ⟨?_, ?_⟩))⟩))⟩)⟩)⟩)⟩
  · rw [vl.1]
    exact (g3.i 8).symm
  · refine RR.mk2 g4 g2 rfl (hV.ch (lv := [906]) (lz := [0, 8]) ((agV.refl _ _).u) (((agZ.refl _ _).u).u) (kT := Or.inr ?_) (kL := Or.inr ?_)) (hI.ch (lz := [0, 8]) (((agZ.refl _ _).u).u))
    · refine hV.2.2.1.cg (fun f hf => u3_f (fun e => by subst e; exact absurd hf (by decide))) (fun t ht f hf => ?_) (fun f hf => ?_)
      · by_cases e : f = 906
        · rw [e, u3_i (vj.2.1 t ht).1]
        · rw [u3_f e]
      · have : f ≠ 8 ∧ f ≠ 0 := by
          simp only [List.mem_cons, List.not_mem_nil, or_false] at hf
          omega
        rw [up_f this.1, up_f this.2]
    · unfold V_L
      rw [u3_f (show 1006 ≠ 906 by decide), u3_s, up_s]
      exact ⟨rfl, by decide, fun k hk => absurd hk (Nat.not_lt_zero k), fun h => absurd h (Nat.lt_irrefl 0)⟩
theorem s_touches : sim_touches E x m (RR E x m) := by
  intro Sc Sm hRR
  obtain ⟨ad, la, V, ma, Z, ⟨hC, rfl⟩, hM, hV, hI⟩ := hRR
  refine ⟨hC.o 10 0 z1, hC.ex 1003 0 z1 (c_size hC 1003 0 z1 ⟨hM.1, hM.wI 0 0 rfl (fun S3 g3 => ⟨?_, RR.mk hC rfl hV hI g3 s0⟩)⟩)⟩
  rw [hV.2.2.1.1]
  exact (g3.i 10).symm
/-- a touch is asked -/
theorem s_leads : sim_leads E x m (RR E x m) := by
  intro Sc Sm hRR l1
  obtain ⟨ad, la, V, ma, Z, ⟨hC, rfl⟩, hM, hV, hI⟩ := hRR
  have hMz := hI.1.1
  have hT := hI.1.2.1
  refine ⟨hC.o 10 0 z1, c_touchAt hC hV.2.2.1.1 (fun t ht e => ?_) (fun hn => ⟨rfl, ?_⟩)⟩
  · subst e
    have w := hV.2.2.1.2 t ht
    refine ⟨_, rfl, hC.o 9 _ w.1, hC.o 9 _ w.1, hC.ex 906 _ w.1 (c_size hC 906 _ w.1 ?_)⟩
    rw [w.2.2.2.2.1]
    have h12 := hT.1
    refine ⟨hM.1, m_asT1 hM ht hMz hT (fun Z1 S1 g1 s1 z0 _ => ⟨fun x => absurd x (by decide), fun _ => ⟨g1.1, g1.ij 11 t rfl (by show t < 12; omega) ?_⟩⟩)⟩
    rw [g1.a 11, s1 11 (by decide)]
    exact fin0 g1 z0 rfl (RR.mk hC rfl hV hI g1 s1)
  · exact ⟨hM.1, m_asT0 hM hn hT (fun S1 g1 => ⟨fun _ => finK g1 1 rfl rfl (by omega) (RR.mk hC rfl hV hI g1 s0), fun x => absurd rfl x⟩)⟩
theorem s_leadAt : sim_leadAt E x m (RR E x m) := by
  intro Sc Sm hRR l1 l2
  obtain ⟨ad, la, V, ma, Z, ⟨hC, rfl⟩, hM, hV, hI⟩ := hRR
  have hMz := hI.1.1
  have hT := hI.1.2.1
  refine ⟨hC.o 10 0 z1, c_touchAt hC hV.2.2.1.1 (fun t ht e => ?_) (fun hn => ⟨rfl, ?_⟩)⟩
  · subst e
    have w := hV.2.2.1.2 t ht
    have zt := hT.2 t ht
    have h12 := hT.1
    refine ⟨_, rfl, hC.o 9 _ w.1, hC.o 9 _ w.1, hC.ex 906 _ w.1 (c_size hC 906 _ w.1 ?_)⟩
    rw [w.2.2.2.2.1]
    refine c_rqI (by have := zt.2.2.1; omega) (fun k hk e => ?_) (fun hn => ⟨rfl, ?_⟩)
    · subst e
      have wk := w.2.2.2.2.2.1 k hk
      have zk := zt.2.2.2 k hk
      have b := z_M_n hMz zk.1
      refine ⟨hC.o 9 _ w.1, hC.ex 906 _ w.1 (c_get (g := 2906) (t := 5) hC 906 _ k w.1 (by rw [w.2.2.2.2.1]; exact hk) (fun hm => ⟨_, rfl, hC.o 5 _ hm, hC.o 9 _ w.1, hC.ij 907 _ k w.1 rfl (by have := zt.2.2.1; show k < 20; omega) ?_⟩))⟩
      rw [hC.gi 500 5 _ hm, hC.ga 907 _ k w.1, wk.1, wk.2, (hV.1.2 _ zk.1).2.1]
      refine ⟨hM.1, m_isT1 hM ht hT ⟨fun x => absurd x (by decide), fun _ => ⟨hM.1, hM.ij 11 t rfl (by show t < 12; omega) ?_⟩⟩⟩
      rw [hM.a 11]
      refine w1_inP1 hk (by have := zt.2.2.1; omega) ⟨fun x => absurd x (by decide), fun _ => m_t0 hM (fun S1 g1 => g1.ij 12 (20 * t + k) ?_ (by have := zt.2.2.1; show _ < 240; omega) ?_)⟩
      · rw [show (20 : Int32) * nI t = nI (20 * t) from pk_mul 20 t, nI_add]
      · rw [g1.a 12, show up Z 0 0 0 12 (20 * t + k) = Z 12 (20 * t + k) from rfl]
        have z8 : Z 12 (20 * t + k) / 3 < 8 := b.2.2.2.2
        refine fin0 g1 rfl ?_ (RR.mk hC rfl hV hI g1 s0)
        rw [show nI (Z 12 (20 * t + k)) / 3 = nI (Z 12 (20 * t + k) / 3) from pk_div (d := 3) (by omega) (by decide) (by decide), show nI (Z 12 (20 * t + k)) - nI (Z 12 (20 * t + k) / 3) * 3 = nI (Z 12 (20 * t + k) % 3) from by
          rw [show nI (Z 12 (20 * t + k) / 3) = nI (Z 12 (20 * t + k)) / 3 from (pk_div (d := 3) (by omega) (by decide) (by decide)).symm]
          exact pk_rem (d := 3) (by omega) (by decide) (by decide)]
        rfl
    · refine ⟨hM.1, m_isT1 hM ht hT ⟨fun x => absurd x (by decide), fun _ => ⟨hM.1, hM.ij 11 t rfl (by show t < 12; omega) ?_⟩⟩⟩
      rw [hM.a 11]
      exact w1_inP0 (by have := zt.2.2.1; omega) hn ⟨fun _ => m_tk hM 1 (by omega) rfl (fun S1 g1 => finK g1 1 rfl rfl (by omega) (RR.mk hC rfl hV hI g1 s0)), fun x => absurd rfl x⟩
  · exact ⟨hM.1, m_isT0 hM hn hT ⟨fun _ => m_tk hM 1 (by omega) rfl (fun S1 g1 => finK g1 1 rfl rfl (by omega) (RR.mk hC rfl hV hI g1 s0)), fun x => absurd rfl x⟩⟩
theorem s_rows : sim_rows E x m (RR E x m) := by
  intro Sc Sm hRR l1
  obtain ⟨ad, la, V, ma, Z, ⟨hC, rfl⟩, hM, hV, hI⟩ := hRR
  have hMz := hI.1.1
  have hT := hI.1.2.1
  refine ⟨hC.o 10 0 z1, c_touchAt hC hV.2.2.1.1 (fun t ht e => ?_) (fun hn => ⟨rfl, ?_⟩)⟩
  · subst e
    have w := hV.2.2.1.2 t ht
    refine ⟨_, rfl, hC.o 9 _ w.1, ?_⟩
    rw [hC.gi 902 9 _ w.1, w.2.2.2.1]
    refine ⟨hM.1, m_asT1 hM ht hMz hT (fun Z1 S1 g1 s1 z0 w1 => ⟨fun x => absurd x (by decide), fun _ => ⟨g1.1, fin0 g1 z0 ?_ (RR.mk hC rfl hV hI g1 s1)⟩⟩)⟩
    have := g1.i 13
    rw [w1.1] at this
    exact this.symm
  · exact ⟨hM.1, m_asT0 hM hn hT (fun S1 g1 => ⟨fun _ => finK g1 1 rfl rfl (by omega) (RR.mk hC rfl hV hI g1 s0), fun x => absurd rfl x⟩)⟩
theorem s_rowAt : sim_rowAt E x m (RR E x m) := by
  intro Sc Sm hRR l1 l2
  obtain ⟨ad, la, V, ma, Z, ⟨hC, rfl⟩, hM, hV, hI⟩ := hRR
  have hMz := hI.1.1
  have hT := hI.1.2.1
  refine ⟨hC.o 10 0 z1, c_touchAt hC hV.2.2.1.1 (fun t ht e => ?_) (fun hn => ⟨rfl, ?_⟩)⟩
  · subst e
    have w := hV.2.2.1.2 t ht
    have zt := hT.2 t ht
    have hN := z_T_N hMz zt
    have hL := z_L_bd hMz zt
    refine ⟨_, rfl, hC.o 9 _ w.1, ?_⟩
    rw [hC.gi 902 9 _ w.1, w.2.2.2.1]
    refine c_rqI (by omega) (fun r hr e => ⟨hC.o 9 _ w.1, hC.ij 908 _ r w.1 e (by show r < 240; omega) ?_⟩) (fun hn => ⟨rfl, ?_⟩)
    · subst e
      have hVr := z_f_V hMz zt hr
      have hlt := ro_V_lt hN hVr
      have hn6 := ro_N6 hN
      rw [hC.ga 908 _ r w.1, hC.gi 901 9 _ w.1, w.2.2.1, w.2.2.2.2.2.2.1 r hr]
      refine c_num hN hVr ⟨hM.1, m_asR1 hM ht hr hMz hT (fun Z1 S1 g1 s1 z0 w1 => ⟨fun x => absurd x (by decide), fun _ => ⟨g1.1, g1.ij 14 r rfl (by show r < 240; omega) ?_⟩⟩)⟩
      rw [g1.a 14, z_W_f w1 hr]
      refine m_stageOf g1 (z_C_M s1.C hMz) zt.1 (z_T_x (z_C_T s1.C zt)) ?_
      rw [z_C_st s1.C]
      exact w1_number hn6.1 (by omega) (fin0 g1 z0 rfl (RR.mk hC rfl hV hI g1 s1))
    · exact ⟨hM.1, m_asR0 hM ht hn hMz hT (fun Z1 S1 g1 s1 z0 => ⟨fun _ => finK g1 1 z0 rfl (by omega) (RR.mk hC rfl hV hI g1 s1), fun x => absurd rfl x⟩)⟩
  · exact ⟨hM.1, m_asR00 hM hn hT (fun Z1 S1 g1 s1 z0 => ⟨fun _ => finK g1 1 z0 rfl (by omega) (RR.mk hC rfl hV hI g1 s1), fun x => absurd rfl x⟩)⟩
theorem s_firstRepeat : sim_firstRepeat E x m (RR E x m) := by
  intro Sc Sm hRR l1
  obtain ⟨ad, la, V, ma, Z, ⟨hC, rfl⟩, hM, hV, hI⟩ := hRR
  have hMz := hI.1.1
  have hT := hI.1.2.1
  refine ⟨hC.o 10 0 z1, c_touchAt hC hV.2.2.1.1 (fun t ht e => ?_) (fun hn => ⟨rfl, ?_⟩)⟩
  · subst e
    have w := hV.2.2.1.2 t ht
    have zt := hT.2 t ht
    have hL := z_L_bd hMz zt
    refine ⟨_, rfl, hC.o 9 _ w.1, ?_⟩
    rw [hC.gi 903 9 _ w.1]
    refine ⟨hM.1, m_asT1 hM ht hMz hT (fun Z1 S1 g1 s1 z0 w1 => ⟨fun x => absurd x (by decide), fun _ => ⟨g1.1, m_repeat g1 w1.1 hL.1 hL.2 (fun i hi => by rw [z_W_f w1 hi]; exact z_f_lt hMz zt hi) (fun v hv => fin0 g1 z0 (z_R_one w.2.2.2.2.2.2.2.1 (z_R_congr (fun i hi => z_W_f w1 hi) hv)) (RR.mk hC rfl hV hI g1 s1))⟩⟩)⟩
  · exact ⟨hM.1, m_asT0 hM hn hT (fun S1 g1 => ⟨fun _ => finK g1 1 rfl rfl (by omega) (RR.mk hC rfl hV hI g1 s0), fun x => absurd rfl x⟩)⟩
theorem s_isTrue : sim_isTrue E x m (RR E x m) := by
  intro Sc Sm hRR l1
  obtain ⟨ad, la, V, ma, Z, ⟨hC, rfl⟩, hM, hV, hI⟩ := hRR
  have hMz := hI.1.1
  have hT := hI.1.2.1
  refine ⟨hC.o 10 0 z1, c_touchAt hC hV.2.2.1.1 (fun t ht e => ?_) (fun hn => ⟨rfl, ?_⟩)⟩
  · subst e
    have w := hV.2.2.1.2 t ht
    have zt := hT.2 t ht
    have hL := z_L_bd hMz zt
    have ref : ∀ r, (∀ v, z_R (z_f Z t) (z_L Z t) v → (v = -1 → r = 1) ∧ (¬ v = -1 → r = 0)) → pm_isTrue E m (RR E (ad 10 0) m) (nI t) Sm 0 r Sc := by
      intro r hr
      refine ⟨hM.1, m_asT1 hM ht hMz hT (fun Z1 S1 g1 s1 z0 w1 => ⟨fun x => absurd x (by decide), fun _ => ⟨g1.1, m_repeat g1 w1.1 hL.1 hL.2 (fun i hi => by rw [z_W_f w1 hi]; exact z_f_lt hMz zt hi) (fun v hv => ?_)⟩⟩)⟩
      have hv2 := hr v (z_R_congr (fun i hi => z_W_f w1 hi) hv)
      exact ⟨fun h1 => ⟨Or.inl rfl, fin0 g1 z0 (hv2.2 h1) (RR.mk hC rfl hV hI g1 s1)⟩, fun h1 => ⟨Or.inr rfl, fin0 g1 z0 (hv2.1 h1) (RR.mk hC rfl hV hI g1 s1)⟩⟩
    refine ⟨_, rfl, hC.o 9 _ w.1, ?_⟩
    rw [hC.gi 903 9 _ w.1]
    refine ⟨fun h1 => ⟨Or.inl rfl, ref 0 (fun v hv => ⟨fun h2 => ?_, fun _ => rfl⟩)⟩, fun h1 => ⟨Or.inr rfl, ref 1 (fun v hv => ⟨fun _ => rfl, fun h2 => ?_⟩)⟩⟩
    · exact absurd ((z_R_one w.2.2.2.2.2.2.2.1 hv).trans h2) h1
    · exact absurd ((z_R_one w.2.2.2.2.2.2.2.1 hv).symm.trans h1) h2
  · exact ⟨hM.1, m_asT0 hM hn hT (fun S1 g1 => ⟨fun _ => ⟨Or.inl rfl, finK g1 1 rfl rfl (by omega) (RR.mk hC rfl hV hI g1 s0)⟩, fun x => absurd rfl x⟩)⟩
theorem s_comesRound : sim_comesRound E x m (RR E x m) := by
  intro Sc Sm hRR l1
  obtain ⟨ad, la, V, ma, Z, ⟨hC, rfl⟩, hM, hV, hI⟩ := hRR
  have hMz := hI.1.1
  have hT := hI.1.2.1
  refine ⟨hC.o 10 0 z1, c_touchAt hC hV.2.2.1.1 (fun t ht e => ?_) (fun hn => ⟨rfl, ?_⟩)⟩
  · subst e
    have w := hV.2.2.1.2 t ht
    have zt := hT.2 t ht
    have hL := z_L_bd hMz zt
    have hN := z_T_N hMz zt
    have hn6 := ro_N6 hN
    have b1 : z_la Z t < 2 ^ 18 := by rw [← z_la_f hL.1]; exact z_f_lt hMz zt (by omega)
    have b2 := ro_V_lt hN (ro_V_rnd hN).1
    have ref : ∀ r, (z_la Z t = ro_rnd (z_st Z t) → r = 1) → (¬ z_la Z t = ro_rnd (z_st Z t) → r = 0) → pm_comesRound E m (RR E (ad 10 0) m) (nI t) Sm 0 r Sc := by
      intro r r1 r0
      refine ⟨hM.1, m_asT1 hM ht hMz hT (fun Z1 S1 g1 s1 z0 w1 => ⟨fun x => absurd x (by decide), fun _ => ⟨g1.1, g1.ij 14 (z_L Z t - 1) ?_ (by show _ < 240; omega) ?_⟩⟩)⟩
      · have := g1.i 13
        rw [w1.1] at this
        rw [this]
        exact pk_sub (b := 1) (by show 1 ≤ z_L Z t; omega)
      · rw [g1.a 14, z_W_f w1 (by omega), z_la_f hL.1]
        refine m_stageOf g1 (z_C_M s1.C hMz) zt.1 (z_T_x (z_C_T s1.C zt)) ?_
        rw [z_C_st s1.C]
        refine w1_rounds hn6.1 ?_
        rw [nI_eq (by omega) (by omega)]
        exact ⟨fun h1 => ⟨Or.inl rfl, fin0 g1 z0 (r0 h1) (RR.mk hC rfl hV hI g1 s1)⟩, fun h1 => ⟨Or.inr rfl, fin0 g1 z0 (r1 h1) (RR.mk hC rfl hV hI g1 s1)⟩⟩
    refine ⟨_, rfl, hC.o 9 _ w.1, ?_⟩
    rw [hC.gi 905 9 _ w.1, w.2.2.2.2.2.2.2.2]
    by_cases e : z_la Z t = ro_rnd (z_st Z t)
    · rw [if_pos e]
      exact ⟨Or.inr rfl, ref _ (fun _ => rfl) (fun y => absurd e y)⟩
    · rw [if_neg e]
      exact ⟨Or.inl rfl, ref _ (fun y => absurd y e) (fun _ => rfl)⟩
  · exact ⟨hM.1, m_asT0 hM hn hT (fun S1 g1 => ⟨fun _ => ⟨Or.inl rfl, finK g1 1 rfl rfl (by omega) (RR.mk hC rfl hV hI g1 s0)⟩, fun x => absurd rfl x⟩)⟩
end OPB
