/-! ring, the class -/
section OPR
variable {E : zE} {x m : Nat}
theorem s_ring : sim_ring E x m (RR E x m) := by
  intro Sc Sm hRR l1 l2 l3
  obtain ⟨ad, la, V, ma, Z, ⟨hC, rfl⟩, hM, hV, hI⟩ := hRR
  unfold pm_ring
  have hd := hI.d
  refine ⟨hC.o 10 0 z1, c_touchAt hC hV.T.1 (fun t ht e => ⟨_, rfl, hC.o 9 _ (hV.T.2 t ht).1, ?_⟩) (fun hn => Or.inl ⟨rfl, ?_⟩)⟩
  · subst e
    have w := hV.T.2 t ht
    have zt := hI.T.2 t ht
    have hN := z_T_N hI.M zt
    have hn6 := ro_N6 hN
    have p6 := z_pow6 hN
    have hL := z_L_bd hI.M zt
    have p0 : 0 < 2 ^ z_st Z t := Nat.pow_pos (by decide)
    have bad : ∀ p g, p < 2 ^ z_st Z t → 100 ≤ g → g ≤ 1000 → ¬ (Z 27 0 = 0 ∧ nI t ≠ nI (Z 41 0) ∧ ∃ b, z_ba Z (Z 20 0) = some b ∧ z_st Z t ≤ Z 24 b ∧ t ∈ z_day Z (Z 20 0)) → p_X11_ring E m (nI t) (nI p) (nI g) Sm (fun b9 Sm1 => gI Sm1 1100 m = 3 ∧ ((3 : Int32) = 0 → 0 = b9) ∧ RR E (ad 10 0) m Sc Sm1) (fun _ _ => False) := fun p g hp h1 h2 no =>
      m_ring hM hI ht hp ⟨h1, h2⟩ (fun _ Z' S' g s z0 => finK g 3 z0 rfl (by omega) (RR.mk hC rfl hV hI g s)) (fun a b c => absurd ⟨a, b, c⟩ no)
    rw [hC.gi 901 9 _ w.1, w.2.2.1, ri_2n hn6.1, show (nI (2 ^ z_st Z t) - 1 : Int32) = nI (2 ^ z_st Z t - 1) from pk_sub (b := 1) (by omega)]
    refine c_rqR (lo := 0) (by omega) (by decide) (fun p _ hp e => c_rqR (lo := 100) (hi := 1000) (by decide) (by decide) (fun g hg1 hg2 e3 => ⟨hC.o 10 0 z1, c_sil hC (fun ev => ⟨hC.o 10 0 z1, ?_⟩) (fun ev => Or.inr (Or.inr ⟨rfl, ?_⟩))⟩) (fun hn => Or.inr (Or.inl ⟨rfl, ?_⟩))) (fun hn => Or.inr (Or.inl ⟨rfl, ?_⟩))
    · subst e
      subst e3
      have hp' : p < 2 ^ z_st Z t := by omega
      have z27 : Z 27 0 = 0 := hV.G.1.symm.trans ev
      rw [hC.gi 1013 10 0 z1, hV.S.2.2.2]
      refine ⟨fun c => Or.inr (Or.inr ⟨rfl, bad p g hp' hg1 hg2 (fun x => x.2.1 c)⟩), fun c41 => hC.sg 1008 8 z1 ?_⟩
      refine c_canRing hC hI.M hI.P hI.T hI.R4 hV.R hV.Y (hV.T.sl rfl) hV.J.1 hd ht (fun b eb st td => ⟨fun _ => ⟨hC.o 10 0 z1, hC.sg 1008 8 z1 ?_⟩, fun x => absurd x (by decide)⟩) (fun no => ⟨fun x => absurd rfl x, fun _ => Or.inr (Or.inr ⟨rfl, bad p g hp' hg1 hg2 (fun x => no x.2.2)⟩)⟩)
      refine c_keepBand hC hI.M hI.P hI.T hI.R4 hV.R hV.Y (hV.T.sl rfl) hd (fun S1 g1 => ⟨g1.o 10 0 z1, g1.sg 1007 1 z1 (c_forget g1 (fun V2 S2 g2 a2 b2 => ?_))⟩)
      rw [z27] at g2
      refine c_newRing (P := fun q27 S40 => p_X10_doReadyRows E (ad 10 0) S40 (fun (S42 : zS) => (q27 ∈ gL S42 ∧ gK S42 q27 = 7) ∧ p_X11_ring E m (nI t) (nI p) (nI g) Sm (fun b9 Sm1 => gI Sm1 1100 m = 0 ∧ ((0 : Int32) = 0 → gI S42 701 q27 = b9) ∧ RR E (ad 10 0) m S42 Sm1) (fun _ _ => False)) (fun _ _ => False)) g2 w.1 rfl rfl (fun ad' q S3 g3 eq ea => ?_)
      -- what the class holds now
      have hb := z_ba_lt hI.R4 eb
      have vf : ∀ f, f ≠ 700 → f ≠ 701 → f ≠ 702 → f ≠ 704 → f ≠ 705 → f ≠ 1009 → u3 (u3 (u3 (u3 (vz V2 7 0) 700 0 0 (V 3003 0 t)) 704 0 0 p) 705 0 0 g) 1009 0 0 1 f = V2 f := fun f q0 q1 q2 q3 q4 q5 => by
        rw [u3_f q5, u3_f q4, u3_f q3, u3_f q0]
        by_cases e : f ∈ cI
        · have : ∀ f, f ∈ cI → f ≠ 701 → f ≠ 702 → f ≠ 704 → f ≠ 705 → f / 100 ≠ 7 := by decide +kernel
          exact vz_c (this f e q1 q2 q3 q4)
        · exact vz_no e
      have v7 : u3 (u3 (u3 (u3 (vz V2 7 0) 700 0 0 (V 3003 0 t)) 704 0 0 p) 705 0 0 g) 1009 0 0 1 700 0 0 = V 3003 0 t ∧ u3 (u3 (u3 (u3 (vz V2 7 0) 700 0 0 (V 3003 0 t)) 704 0 0 p) 705 0 0 g) 1009 0 0 1 701 0 0 = 0 ∧ u3 (u3 (u3 (u3 (vz V2 7 0) 700 0 0 (V 3003 0 t)) 704 0 0 p) 705 0 0 g) 1009 0 0 1 702 0 0 = 0 ∧ u3 (u3 (u3 (u3 (vz V2 7 0) 700 0 0 (V 3003 0 t)) 704 0 0 p) 705 0 0 g) 1009 0 0 1 704 0 0 = p ∧ u3 (u3 (u3 (u3 (vz V2 7 0) 700 0 0 (V 3003 0 t)) 704 0 0 p) 705 0 0 g) 1009 0 0 1 705 0 0 = g ∧ u3 (u3 (u3 (u3 (vz V2 7 0) 700 0 0 (V 3003 0 t)) 704 0 0 p) 705 0 0 g) 1009 0 0 1 1009 0 0 = 1 := by
        refine ⟨?_, ?_, ?_, ?_, ?_, u3_s _ _ _ _ _⟩
        · rw [u3_f (by decide), u3_f (by decide), u3_f (by decide), u3_s]
        · rw [u3_f (by decide), u3_f (by decide), u3_f (by decide), u3_f (by decide)]
          exact if_pos ⟨rfl, rfl, rfl, by decide⟩
        · rw [u3_f (by decide), u3_f (by decide), u3_f (by decide), u3_f (by decide)]
          exact if_pos ⟨rfl, rfl, rfl, by decide⟩
        · rw [u3_f (by decide), u3_f (by decide), u3_s]
        · rw [u3_f (by decide), u3_s]
      generalize u3 (u3 (u3 (u3 (vz V2 7 0) 700 0 0 (V 3003 0 t)) 704 0 0 p) 705 0 0 g) 1009 0 0 1 = V3 at *
      obtain ⟨w0, w1, w2, w4, w5, w9⟩ := v7
      have va : agV [805, 204, 700, 701, 702, 704, 705, 1009] V V3 := fun f hf => by
        have mm : f ≠ 805 ∧ f ≠ 204 ∧ f ≠ 700 ∧ f ≠ 701 ∧ f ≠ 702 ∧ f ≠ 704 ∧ f ≠ 705 ∧ f ≠ 1009 := by
          simp only [List.mem_cons, List.not_mem_nil, or_false] at hf
          omega
        rw [vf f mm.2.2.1 mm.2.2.2.1 mm.2.2.2.2.1 mm.2.2.2.2.2.1 mm.2.2.2.2.2.2.1 mm.2.2.2.2.2.2.2, a2 f mm.2.1, u3_f mm.1]
      have v805 : V3 805 0 0 = z_on (z_ba Z (Z 20 0)) := by
        rw [vf 805 (by decide) (by decide) (by decide) (by decide) (by decide) (by decide), a2 805 (by decide), u3_s]
      have v204 : ∀ b, b < 6 → V3 204 b 0 = 0 := fun b hb => by
        rw [vf 204 (by decide) (by decide) (by decide) (by decide) (by decide) (by decide)]
        exact b2 b hb
      have za := zRing_ag (Z := Z) (t := t) (p := p) (g := g)
      have zr := fun f (h : f ≠ 34) => zRing_f (Z := Z) (t := t) (p := p) (g := g) h
      have z26 : zRing Z t p g 26 0 = z_on (z_ba Z (Z 20 0)) := by rw [zr 26 (by decide)]; rfl
      have zz27 : zRing Z t p g 27 0 = 1 := by rw [zr 27 (by decide)]; rfl
      have zz28 : zRing Z t p g 28 0 = t := by rw [zr 28 (by decide)]; rfl
      have zz29 : zRing Z t p g 29 0 = p := by rw [zr 29 (by decide)]; rfl
      have zz30 : zRing Z t p g 30 0 = g := by rw [zr 30 (by decide)]; rfl
      have zz31 : zRing Z t p g 31 0 = 0 := by rw [zr 31 (by decide)]; rfl
      have zz32 : zRing Z t p g 32 0 = 0 := by rw [zr 32 (by decide)]; rfl
      have c := za.m (k := [3, 4, 5, 6, 7, 10, 11, 12]) rfl
      have hR := hV.R
      have hVr : RV V3 (zRing Z t p g) := hV.ch (lv := [805, 204, 700, 701, 702, 704, 705, 1009]) (lz := [26, 27, 28, 29, 30, 31, 32, 34]) va za
        (kB := Or.inr (fun b hb => by
          have w := hV.B b hb
          rw [va 200 (by decide), va 201 (by decide), va 202 (by decide), va 203 (by decide), va 205 (by decide), va 206 (by decide), va 207 (by decide), za 17 (by decide), za 18 (by decide), za 19 (by decide), za 35 (by decide), za 36 (by decide), za 37 (by decide), za 38 (by decide), v204 b hb, zRing_34, if_pos hb]
          exact ⟨w.1, w.2.1, w.2.2.1, w.2.2.2.1, rfl, w.2.2.2.2.2⟩))
        (kR := Or.inr ⟨by rw [va 800 (by decide), za 24 (by decide)]; exact hR.1, by rw [va 802 (by decide), za 20 (by decide)]; exact hR.2.1, by rw [va 803 (by decide), za 23 (by decide)]; exact hR.2.2.1, by rw [va 804 (by decide), za 25 (by decide)]; exact hR.2.2.2.1, by rw [v805, z26]⟩)
        (kG := Or.inr ⟨by rw [w9, zz27], fun _ => ⟨by rw [w0, va 3003 (by decide), zz28], by rw [w1, zz31], by rw [w2, zz32], by rw [w4, zz29], by rw [w5, zz30]⟩⟩)
      have hIr : IZ (zRing Z t p g) := hI.ch2 (lz := [26, 27, 28, 29, 30, 31, 32, 34]) za
        (kR := Or.inr ⟨by rw [za 24 (by decide)]; exact hI.R4.1, by rw [za 25 (by decide)]; exact hI.R4.2.1, Or.inr (by rw [z26, eb]; exact hb)⟩)
        (kw := Or.inr (fun e => by rw [zz27] at e; cases e))
        (kg := Or.inr ⟨by rw [zz27]; decide, fun _ => by
          rw [zz28, zz29, zz30, zz31, zz32, za 10 (by decide), z_day_congr (za 21 (by decide)) (za 22 (by decide)), za 20 (by decide), z_C_st c, z_C_L c, z_nw_congr (za 17 (by decide)) (za 18 (by decide))]
          exact ⟨ht, td, hp', ⟨hg1, hg2⟩, by omega, by omega, fun b _ hb => ⟨hI.w z27 b (by omega), hI.w z27 (6 + b) (by omega)⟩⟩⟩)
        (kN := Or.inr ⟨by rw [za 35 (by decide)]; exact hI.n.1, by rw [za 33 (by decide)]; exact hI.n.2.1, fun b hb => by rw [zRing_34, if_pos hb]; decide, trivial⟩)
      rw [← ea]
      refine ⟨242, c_loop (m := m) 242 0 V3 (zRing Z t p g) S3 g3 (by rw [za 10 (by decide)]) hVr hIr (by rw [w1, zz31]) (by rw [zz31]; decide) (by omega) (by omega) (fun V4 S4 g4 hz => ?_)⟩
      rw [← eq]
      refine ⟨g4.o 7 0 z1, ?_⟩
      rw [g4.gi 701 7 0 z1]
      refine m_ring hM hI ht hp' ⟨hg1, hg2⟩ (fun no => absurd ⟨z27, c41, b, eb, st, td⟩ no) (fun _ _ _ Zs Ss gs es z0 k3 k10 => ?_)
      have on : Zs 27 0 = 1 := by rw [es.2.2.2.1.1]; exact zz27
      refine m_goesOn gs hz es (hIr.eq es) on (fun Z' S' g' hV' hI' e7 _ e0 => ?_)
      refine fin0 g' (by rw [e0 0 (by decide)]; exact z0) (by rw [e7]) (RR.mk7 g' g4 rfl hV' hI' (by rw [e0 3 (by decide), k3]) (by rw [e0 10 (by decide), k10]))
    · subst e
      subst e3
      have z27 : Z 27 0 = 1 := hV.G.1.symm.trans ev
      exact bad p g (by omega) hg1 hg2 (fun x => by omega)
    · subst e
      refine ⟨hM.1, m_isT1 hM ht hI.T ⟨fun _ => ⟨hM.1, m_stageOf hM hI.M zt.1 (z_T_x zt) ?_⟩, fun x => absurd x (by decide)⟩⟩
      rw [ri_2n hn6.1]
      exact w1_inP1 (show p < 2 ^ z_st Z t by omega) (by omega) ⟨fun x => absurd x (by decide), fun _ => w1_inR0 (lo := 100) (hi := 1000) (by decide) (by decide) hn ⟨fun x => absurd rfl x, fun _ => m_ringX (j := 2) hM (by omega) (fun S1 g1 => finK g1 2 rfl rfl (by omega) (RR.mk hC rfl hV hI g1 s0))⟩⟩
    · refine ⟨hM.1, m_isT1 hM ht hI.T ⟨fun _ => ⟨hM.1, m_stageOf hM hI.M zt.1 (z_T_x zt) ?_⟩, fun x => absurd x (by decide)⟩⟩
      rw [ri_2n hn6.1]
      exact w1_inP0 (by omega) (fun j hj => hn j (Nat.zero_le _) (by omega)) ⟨fun _ => m_ringX (j := 2) hM (by omega) (fun S1 g1 => finK g1 2 rfl rfl (by omega) (RR.mk hC rfl hV hI g1 s0)), fun x => absurd rfl x⟩
  · exact ⟨hM.1, m_isT0 hM hn hI.T ⟨fun x => absurd rfl x, fun _ => m_ringX (j := 1) hM (by omega) (fun S1 g1 => finK g1 1 rfl rfl (by omega) (RR.mk hC rfl hV hI g1 s0))⟩⟩
end OPR
