/-! setCall -/
theorem z_TT_cg {Z Z' : zZ} (h3 : Z' 3 = Z 3) (h4 : Z' 4 = Z 4) (h10 : Z' 10 = Z 10) (h11 : Z' 11 = Z 11) (h12 : Z' 12 = Z 12) (hT : z_TT Z) : z_TT Z' := by
  unfold z_TT z_T z_mt z_st
  rw [h3, h4, h10, h11, h12]
  exact hT
section OPO
variable {E : zE} {ad la : Nat → Nat → Nat} {M T R : Nat} {V : vV} {Z : zZ} {S : zS} {X : String → zS → Prop}
/-- every touch is written anew -/
theorem c_rewr_L {K Q : zS → Prop} (hM : z_M Z) (hT : z_TT Z) (eM : Z 3 0 = M) (eT : Z 10 0 + 2 = T) (vm : V_M V Z) (e3 : V 1003 0 0 = Z 10 0) (vJ : V_J V Z)
    (sl : ∀ t, t < Z 10 0 → V 3003 0 t < T ∧ V 900 (V 3003 0 t) 0 = t ∧ v_LD V (V 3003 0 t) (z_st Z t) (Z 11 t) (z_mt Z t) (z_cl Z t))
    (k : ∀ V' S', RC E ad la (sd M T R) V' S' → (∀ f, f ∉ [600, 902, 903, 904, 905, 908] → V' f = V f) → V_P V' → (∀ t, t < Z 10 0 → W_T V' Z (V 3003 0 t) t) → K S') :
    ∀ (w j : Nat) (V' : vV) (S : zS), RC E ad la (sd M T R) V' S → (∀ f, f ∉ [600, 902, 903, 904, 905, 908] → V' f = V f) → V_P V' → (∀ t, t < j → W_T V' Z (V 3003 0 t) t) → j ≤ Z 10 0 → Z 10 0 < j + w → p_X10_rewriteTouches_L2 E K Q X w (ad 10 0) (nI j) S
  | 0, j, V', S, h, a, p, b, h1, h2 => by omega
  | w + 1, j, V', S, h, a, p, b, h1, h2 => by
    have h12 := hT.1
    refine ⟨h.o 10 0 z1, h.ex 1003 0 z1 (c_size h 1003 0 z1 ?_)⟩
    have en : V' 1003 0 0 = Z 10 0 := by rw [a 1003 (by decide)]; exact e3
    have en3 : V' 3003 = V 3003 := a 3003 (by decide)
    rw [en]
    refine pk_le (Z 10 0) j (fun h3 => ?_) (fun h3 => ⟨h.o 10 0 z1, h.ex 1003 0 z1 (c_get (g := 3003) (t := 9) h 1003 0 j z1 (by rw [en]; exact h3) (fun hm => ⟨_, rfl, h.o 9 _ hm, h.o 10 0 z1, _, h.sgR 1004 6 z1, ?_⟩))⟩)
    · have : j = Z 10 0 := by omega
      subst this
      exact k V' S h a p b
    · have zt := hT.2 j h3
      have w1 := sl j h3
      have nslot : ∀ f, f ≠ 600 → f ≠ 902 → f ≠ 903 → f ≠ 904 → f ≠ 905 → f ≠ 908 → V' f = V f := fun f q1 q2 q3 q4 q5 q6 => a f (by simp only [List.mem_cons, List.not_mem_nil, or_false]; omega)
      have ld : v_LD V' (V 3003 0 j) (z_st Z j) (Z 11 j) (z_mt Z j) (z_cl Z j) := by
        unfold v_LD
        rw [a 901 (by decide), a 906 (by decide), a 2906 (by decide), a 907 (by decide)]
        exact w1.2.2
      have LD : z_LD Z (z_mt Z j) (z_cl Z j) (z_st Z j) (Z 11 j) := ⟨z_T_N hM zt, zt.2.2.1, fun k hk => ⟨(zt.2.2.2 k hk).1, Nat.mod_lt _ (by decide), (zt.2.2.2 k hk).2⟩⟩
      rw [en3]
      refine c_writeFrom (a := 0) h (vm.cg (fun f hf => ?_) (fun _ _ => rfl)) hM (fun k hk => by rw [← eM]; exact (zt.2.2.2 k hk).1) LD w1.1 ld (Nat.zero_le _) (v_Wp0 p) (fun V2 S2 g2 ag wW e5 => ?_)
      · exact a f (by
          have : ∀ f, f ∈ [1000, 3000, 500, 501, 502, 503, 504, 505, 506] → f ∉ [600, 902, 903, 904, 905, 908] := by decide
          exact this f hf)
      rw [nI_1]
      have wT : W_T V2 Z (V 3003 0 j) j := vW_T hM zt rfl (by rw [ag.f (by decide) (by decide) (by decide) (by decide) (by decide) (by decide), a 900 (by decide)]; exact w1.2.1) (ld.ag ag) wW e5
      refine c_rewr_L hM hT eM eT vm e3 vJ sl k w (j + 1) V2 S2 g2 (fun f hf => ?_) wW.2.2.1 (fun t ht => ?_) (by omega) (by omega)
      · have mm : f ≠ 600 ∧ f ≠ 902 ∧ f ≠ 903 ∧ f ≠ 904 ∧ f ≠ 905 ∧ f ≠ 908 := by
          simp only [List.mem_cons, List.not_mem_nil, or_false] at hf
          omega
        rw [ag.f mm.1 mm.2.1 mm.2.2.1 mm.2.2.2.1 mm.2.2.2.2.1 mm.2.2.2.2.2]
        exact a f hf
      · by_cases e : t = j
        · rw [e]
          exact wT
        · have ne : V 3003 0 t ≠ V 3003 0 j := fun x => e (vJ.1 t j (by omega) h3 x)
          refine (b t (by omega)).cg (fun f hf => ag f _ ?_ (fun x => ne x.2)) (fun _ _ => rfl)
          intro e6
          subst e6
          exact absurd hf (by decide)
end OPO
theorem ro_isC_lt {n c : Nat} (h : ro_isC n c = true) (hn : n ≤ 6) : c < 64 := by
  unfold ro_isC at h
  rw [Bool.and_eq_true, decide_eq_true_eq] at h
  have : 2 ^ n ≤ 2 ^ 6 := Nat.pow_le_pow_right (by decide) hn
  omega
section OPP
variable {E : zE} {x m : Nat}
theorem s_setCall : sim_setCall E x m (RR E x m) := by
  intro Sc Sm hRR l1 l2 l3
  obtain ⟨ad, la, V, ma, Z, ⟨hC, rfl⟩, hM, hV, hI⟩ := hRR
  unfold pm_setCall p_X11_setCall
  have vm := hV.M
  have hMz := hI.M
  have e27 : gI Sm 1127 m = nI (Z 27 0) := hM.i 27
  have st : ∀ {j : Nat} {Q : Int32 → zS → Prop} {Xx : String → zS → Prop}, 1 ≤ j ∧ j ≤ 3 → (∀ S', RM ma (up Z 0 0 j) m S' → Q 0 S') → p_X11_setCall_J51 E Q Xx m l1 l2 l3 (nI j) m Sm := fun {j Q Xx} hj k => m_tk hM j hj rfl k
  refine ⟨hC.o 10 0 z1, c_methodAt hC vm.1 (fun i hi => (vm.2 i hi).1) (fun i hi hm e => c_rqR (lo := 1) (hi := 2) (by decide) (by decide) (fun c c1 c2 e2 => ⟨_, rfl, hC.o 5 i hm, ?_⟩) (fun hn => Or.inr (Or.inl ⟨rfl, ?_⟩))) (fun hn => Or.inl ⟨rfl, ?_⟩)⟩
  · subst e
    subst e2
    have b := z_M_n hMz hi
    rw [hC.gi 501 5 i hm, (vm.2 i hi).2.2.1]
    refine w8_isChange (by omega) (fun hc => ⟨fun _ => ⟨hC.o 10 0 z1, c_sil hC (fun e9 => ⟨hC.o 5 i hm, ?_⟩) (fun e9 => Or.inr (Or.inr ⟨rfl, ?_⟩))⟩, fun x => absurd x (by decide)⟩) (fun hc => ⟨fun x => absurd rfl x, fun _ => Or.inr (Or.inl ⟨rfl, ?_⟩)⟩)
    · obtain ⟨v, rfl, hv⟩ := hc
      have z27 : Z 27 0 = 0 := hV.G.1.symm.trans e9
      have v64 := ro_isC_lt hv (by omega)
      rw [hC.gi 502 5 i hm, (vm.2 i hi).2.2.2.1, show (nI (Z 5 i) - 1 : Int32) = nI (Z 5 i - 1) from pk_sub (b := 1) (by omega)]
      refine c_changeOf hC vm hMz hm hi (by omega) (by omega) ⟨hC.o 5 i hm, hC.o 5 i hm, hC.ij 505 i c hm rfl (by show c < 3; omega) (hC.uA 505 i c v hm rfl (fun S1 g1 => ⟨g1.o 10 0 z1, ?_⟩))⟩
      have za : agZ [0, 7] Z (up (up Z 0 0 0) 7 (2 * i + c - 1) v) := ((agZ.refl _ _).u).u
      have z7 : ∀ k, up (up Z 0 0 0) 7 (2 * i + c - 1) v 7 k = if k = 2 * i + c - 1 then v else Z 7 k := fun k => by
        by_cases e : k = 2 * i + c - 1
        · rw [if_pos e, e, up_s]
        · rw [if_neg e, up_i e]
          rfl
      have va : agV [505] V (u3 V 505 i c v) := (agV.refl _ _).u
      have ch0 : ∀ i' k, z_ch (up (up Z 0 0 0) 7 (2 * i + c - 1) v) i' 0 k = z_ch Z i' 0 k := fun i' k => by
        unfold z_ch
        rw [if_neg (by omega), if_neg (by omega)]
        rfl
      have lc0 : ∀ i', z_lc (up (up Z 0 0 0) 7 (2 * i + c - 1) v) i' 0 = z_lc Z i' 0 := fun i' => by
        unfold z_lc
        exact List.map_congr_left (fun k _ => ch0 i' k)
      have fl : ∀ i', z_fl (up (up Z 0 0 0) 7 (2 * i + c - 1) v) i' = z_fl Z i' := fun i' => by
        unfold z_fl z_pr
        rw [lc0]
        rfl
      have hM1 : z_M (up (up Z 0 0 0) 7 (2 * i + c - 1) v) := by
        refine ⟨hMz.1, fun i' hi' => ?_⟩
        have w := hMz.2 i' hi'
        refine ⟨w.1, w.2.1, w.2.2.1, w.2.2.2.1, fun c' hc' => ?_⟩
        rw [z7]
        split
        · rename_i e
          have : i' = i := by omega
          subst this
          exact hv
        · exact w.2.2.2.2 c' hc'
      have vm1 : V_M (u3 V 505 i c v) (up (up Z 0 0 0) 7 (2 * i + c - 1) v) := by
        refine ⟨vm.1, fun i' hi' => ?_⟩
        have w := vm.2 i' hi'
        refine ⟨w.1, w.2.1, w.2.2.1, w.2.2.2.1, w.2.2.2.2.1, fun c' hc' => ?_, ?_⟩
        · by_cases e : i' = i
          · subst e
            by_cases e2 : c' = c
            · subst e2
              rw [u3_s]
              unfold z_ch
              rw [if_pos ⟨rfl, by omega⟩, z7, if_pos rfl]
            · rw [u3_j e2, w.2.2.2.2.2.1 c' hc']
              unfold z_ch
              by_cases e0 : 0 < c'
              · rw [if_pos ⟨rfl, e0⟩, if_pos ⟨rfl, e0⟩, z7, if_neg (by omega)]
              · rw [if_neg (fun x => e0 x.2), if_neg (fun x => e0 x.2)]
                rfl
          · rw [u3_i e, w.2.2.2.2.2.1 c' hc']
            unfold z_ch
            by_cases e0 : 0 < c'
            · rw [if_pos ⟨rfl, e0⟩, if_pos ⟨rfl, e0⟩, z7, if_neg (by omega)]
            · rw [if_neg (fun x => e0 x.2), if_neg (fun x => e0 x.2)]
              rfl
        · rw [fl]
          exact w.2.2.2.2.2.2
      have hT1 : z_TT (up (up Z 0 0 0) 7 (2 * i + c - 1) v) := z_TT_cg rfl rfl rfl rfl rfl hI.T
      refine ⟨13, c_rewr_L (V := u3 V 505 i c v) hM1 hT1 rfl rfl vm1 hV.T.1 hV.J (fun t ht => ?_) (fun V2 S2 g2 a2 p2 b2 => ?_) 13 0 _ S1 g1 (fun _ _ => rfl) hV.2.2.2.2.2.1 (fun t ht => absurd ht (Nat.not_lt_zero t)) (Nat.zero_le _) (by have := hI.T.1; show Z 10 0 < _; omega)⟩
      · have w := hV.T.2 t ht
        exact ⟨w.1, w.2.1, w.2.2.1, w.2.2.2.2.1, w.2.2.2.2.2.1⟩
      have e9' : u3 V 505 i c v 3003 = V 3003 := rfl
      have va2 : agV [505, 600, 902, 903, 904, 905, 908] V V2 := fun f hf => by
        have mm : f ≠ 505 ∧ f ∉ [600, 902, 903, 904, 905, 908] := by
          simp only [List.mem_cons, List.not_mem_nil, or_false] at hf ⊢
          omega
        rw [a2 f mm.2, u3_f mm.1]
      have hV2 : RV V2 (up (up Z 0 0 0) 7 (2 * i + c - 1) v) := hV.ch (lv := [505, 600, 902, 903, 904, 905, 908]) (lz := [0, 7]) va2 za (kM := Or.inr (vm1.cg (fun f hf => a2 f (by
          have : ∀ f, f ∈ [1000, 3000, 500, 501, 502, 503, 504, 505, 506] → f ∉ [600, 902, 903, 904, 905, 908] := by decide
          exact this f hf)) (fun _ _ => rfl))) (kT := Or.inr ⟨by rw [va2 1003 (by decide)]; exact hV.T.1, fun t ht => by
            rw [va2 3003 (by decide)]
            exact ⟨(hV.T.2 t ht).1, b2 t ht⟩⟩) (kP := Or.inr p2)
      have hB1 : z_B (up (up Z 0 0 0) 7 (2 * i + c - 1) v) := z_B_congr rfl rfl hI.B
      have hP1 : z_P (up (up Z 0 0 0) 7 (2 * i + c - 1) v) := z_P_congr rfl rfl rfl hI.P
      refine ⟨g2.o 10 0 z1, g2.sg 1007 1 z1 (c_bellsOut g2 hV2.B hB1 ⟨_, g2.sgR 1008 8 z1, g2.o 8 0 z1, c_drop g2 hM1 hP1 hT1 hV2.R hV2.Y (hV2.T.sl rfl) hI.d (fun V3 V4 S4 g4 dp d3 d4 => ?_)⟩)⟩
      refine ⟨hM.1, m_isM1 hM hi hMz ⟨fun _ => w1_inR1 (lo := 1) (hi := 2) c1 c2 (by decide) ⟨fun x => absurd x (by decide), fun _ => ⟨hM.1, hM.ij 4 i rfl (by show i < 8; omega) ?_⟩⟩, fun x => absurd x (by decide)⟩⟩
      rw [hM.a 4]
      refine w1_isChange (by omega) (fun _ => ⟨fun _ => ⟨hM.1, ?_⟩, fun x => absurd x (by decide)⟩) (fun hc => absurd ⟨v, rfl, hv⟩ hc)
      rw [e27, z27]
      have ix : ((2 : Int32) * nI i + nI c) - 1 = nI (2 * i + c - 1) := by
        rw [show (2 : Int32) * nI i = nI (2 * i) from pk_mul 2 i, nI_add]
        exact pk_sub (b := 1) (by omega)
      refine ⟨fun _ => m_t0 hM (fun S5 g5 => g5.ij 7 (2 * i + c - 1) ix (by show _ < 16; omega) (g5.ij 7 (2 * i + c - 1) ix (by show _ < 16; omega) (g5.wA 7 (2 * i + c - 1) v rfl (fun S6 g6 => m_drops g6 hM1 hT1 hB1 hP1 hI.d (fun Z7 S7 g7 dr => ?_))))), fun x => absurd rfl x⟩
      have hV7 := hV2.dr hM1 hT1 hP1 hI.d dp d3 d4 dr
      rw [g5.a 7]
      refine fin0 g7 ?_ ?_ (RR.mk3 g7 g4 rfl hV7 (IZ.dr (Z := up (up Z 0 0 0) 7 (2 * i + c - 1) v) z27 hM1 hT1 hB1 hP1 (z_R4_cg hI.R4 rfl rfl rfl) hI.d hI.nd hI.w hI.n dr) (by rw [dr.1 3 (by decide)] <;> rfl) (by rw [dr.1 10 (by decide)] <;> rfl) (by rw [dr.1 27 (by decide)] <;> rfl))
      · rw [dr.1 0 (by decide)]
        rfl
      · unfold z_ch
        rw [if_pos ⟨rfl, by omega⟩]
        rfl
    · have z27 : Z 27 0 = 1 := hV.G.1.symm.trans e9
      refine ⟨hM.1, m_isM1 hM hi hMz ⟨fun _ => w1_inR1 (lo := 1) (hi := 2) c1 c2 (by decide) ⟨fun x => absurd x (by decide), fun _ => ⟨hM.1, hM.ij 4 i rfl (by show i < 8; omega) ?_⟩⟩, fun x => absurd x (by decide)⟩⟩
      rw [hM.a 4]
      refine w1_isChange (by omega) (fun _ => ⟨fun _ => ⟨hM.1, ?_⟩, fun x => absurd x (by decide)⟩) (fun hc' => absurd hc hc')
      rw [e27, z27]
      exact ⟨fun x => absurd x (by decide), fun _ => st (j := 3) (by omega) (fun S1 g1 => finK g1 3 rfl rfl (by omega) (RR.mk hC rfl hV hI g1 s0))⟩
    · refine ⟨hM.1, m_isM1 hM hi hMz ⟨fun _ => w1_inR1 (lo := 1) (hi := 2) c1 c2 (by decide) ⟨fun x => absurd x (by decide), fun _ => ⟨hM.1, hM.ij 4 i rfl (by show i < 8; omega) ?_⟩⟩, fun x => absurd x (by decide)⟩⟩
      rw [hM.a 4]
      refine w1_isChange (by omega) (fun hc' => absurd hc' hc) (fun _ => ⟨fun x => absurd rfl x, fun _ => st (j := 2) (by omega) (fun S1 g1 => finK g1 2 rfl rfl (by omega) (RR.mk hC rfl hV hI g1 s0))⟩)
  · subst e
    exact ⟨hM.1, m_isM1 hM hi hMz ⟨fun _ => w1_inR0 (lo := 1) (hi := 2) (by decide) (by decide) hn ⟨fun _ => st (j := 2) (by omega) (fun S1 g1 => finK g1 2 rfl rfl (by omega) (RR.mk hC rfl hV hI g1 s0)), fun x => absurd rfl x⟩, fun x => absurd x (by decide)⟩⟩
  · exact ⟨hM.1, m_isM0 hM hn hMz ⟨fun x => absurd rfl x, fun _ => st (j := 1) (by omega) (fun S1 g1 => finK g1 1 rfl rfl (by omega) (RR.mk hC rfl hV hI g1 s0))⟩⟩
end OPP
