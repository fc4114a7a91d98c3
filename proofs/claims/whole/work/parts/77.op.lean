/-! lead -/
section OPK
variable {E : zE} {ma : Nat → Nat} {Z : zZ} {m : Nat} {S : zS} {X : String → zS → Prop}
theorem m_st0 {v : Nat} (h : RM ma (up Z 0 0 v) m S) : gI S 1100 m = nI v := by
  have := h.i 0
  rw [up_s] at this
  exact this
theorem RM.iz (h : RM ma Z m S) (f i : Nat) {P : Prop} (hi : i < rm_n f) (k : P) : (i < gN S (ma f) ∧ gN S (ma f) < 2 ^ 31) ∧ P :=
  ⟨⟨by rw [(h.2.1 f (by omega)).2.2]; exact hi, by rw [(h.2.1 f (by omega)).2.2]; exact rm_n_lt f⟩, k⟩
theorem m_leadX {Q : Int32 → zS → Prop} {l1 l2 : Int32} {j : Nat} (h : RM ma Z m S) (hj : 1 ≤ j ∧ j ≤ 3) (k : ∀ S', RM ma (up Z 0 0 j) m S' → Q 0 S') : p_X11_lead_J79 E Q X m l1 l2 (nI j) m S := by
  refine ⟨h.1, h.wI 0 j rfl (fun S1 g1 => ⟨g1.1, ?_⟩)⟩
  rw [m_st0 g1]
  exact ⟨fun x => absurd x (nI_nle (by omega) (by omega)), fun _ => k S1 g1⟩
theorem m_leadN {Q : Int32 → zS → Prop} {l1 l2 : Int32} {j : Nat} (h : RM ma Z m S) (hj : 1 ≤ j ∧ j ≤ 3) (k : ∀ S', RM ma (up Z 0 0 j) m S' → Q 0 S') : p_X11_lead_J25 E Q X m l1 l2 (nI j) m S := by
  refine ⟨h.1, h.wI 0 j rfl (fun S1 g1 => ⟨g1.1, ?_⟩)⟩
  unfold p_X11_lead_J82
  rw [m_st0 g1]
  exact ⟨fun _ => ⟨g1.1, fun x => absurd x (nI_nle (by omega) (by omega)), fun _ => k S1 g1⟩, fun x => absurd x (nI_ne0 (by omega) (by omega))⟩
theorem m_lead {Q : Int32 → zS → Prop} {i c : Nat} (h : RM ma Z m S) (hM : z_M Z) (hi : i < Z 3 0) (hc : c < 3) (h8 : Z 8 0 ≤ 20) (h9 : 0 < Z 8 0 → Z 9 0 / 3 < Z 3 0)
    (k3 : ¬ (Z 8 0 < 20 ∧ (0 < Z 8 0 → Z 4 i = Z 4 (Z 9 0 / 3))) → ∀ Z' S', RM ma Z' m S' → z_scr Z Z' → Z' 0 0 = 3 → Q 0 S')
    (k0 : Z 8 0 < 20 → (0 < Z 8 0 → Z 4 i = Z 4 (Z 9 0 / 3)) → ∀ Z' S', RM ma (up (up Z' 9 (Z 8 0) (3 * i + c)) 8 0 (Z 8 0 + 1)) m S' → z_scr Z Z' → Z' 0 0 = 0 → Q (nI (Z 8 0 + 1)) S') : p_X11_lead E m (nI i) (nI c) S Q X := by
  have b := z_M_n hM hi
  refine ⟨h.1, m_isM1 h hi hM ⟨fun _ => w1_isCall1 hc ⟨fun _ => ⟨h.1, h.wI 0 0 rfl (fun S1 g1 => ⟨g1.1, ?_⟩)⟩, fun x => absurd x (by decide)⟩, fun x => absurd x (by decide)⟩⟩
  have e8 : gI S1 1108 m = nI (Z 8 0) := g1.i 8
  have bad : ¬ (Z 8 0 < 20 ∧ (0 < Z 8 0 → Z 4 i = Z 4 (Z 9 0 / 3))) → p_X11_lead_J74 E Q X m (nI i) (nI c) m S1 := fun no => m_leadX (j := 3) g1 (by omega) (fun S2 g2 => k3 no _ S2 g2 (s0.up (by decide)) (up_s _ _ _ _))
  have good : Z 8 0 < 20 → (0 < Z 8 0 → Z 4 i = Z 4 (Z 9 0 / 3)) → p_X11_lead_J78 E Q X m (nI i) (nI c) m S1 := by
    intro h1 h2
    refine ⟨g1.1, g1.wI 0 0 rfl (fun S2 g2 => ⟨g2.1, ?_⟩)⟩
    have f8 : gI S2 1108 m = nI (Z 8 0) := g2.i 8
    rw [m_st0 g2, f8]
    refine ⟨fun _ => g2.ij 9 (Z 8 0) rfl (by show Z 8 0 < 20; exact h1) (g2.wA 9 (Z 8 0) (3 * i + c) ?_ (fun S3 g3 => g3.wI 8 (Z 8 0 + 1) ?_ (fun S4 g4 => ?_))), fun x => absurd (by decide) x⟩
    · rw [show (3 : Int32) * nI i = nI (3 * i) from pk_mul 3 i, nI_add]
    · have f8 : gI S3 1108 m = nI (Z 8 0) := g3.i 8
      rw [f8]
      exact nI_1 _
    · have e4 : gI S4 1108 m = nI (Z 8 0 + 1) := (g4.i 8).trans (by rw [up_s])
      rw [e4]
      exact k0 h1 h2 _ S4 g4 (s0.up (by decide)) (up_s _ _ _ _)
  rw [m_st0 g1, e8]
  refine ⟨fun x => absurd rfl x, fun _ => ⟨fun x => bad (fun y => ?_), fun x => ?_⟩⟩
  · have : Z 8 0 = 20 := (nI_eq (b := 20) (by omega) (by decide)).mp x
    omega
  · have n20 : Z 8 0 ≠ 20 := fun e => x (by rw [e]; rfl)
    by_cases z8 : Z 8 0 = 0
    · rw [z8]
      refine ⟨fun _ => good (by omega) (fun y => by omega), fun x => absurd (by decide) x⟩
    · have h9' := h9 (by omega)
      have b9 := z_M_n hM h9'
      refine ⟨fun x => absurd x (nI_nle (by omega) (by omega)), fun _ => g1.ex 9 (g1.iz 9 0 (by decide) (g1.ij 4 (Z 9 0 / 3) ?_ (by show _ < 8; omega) (g1.ij 4 i rfl (by show i < 8; omega) ?_)))⟩
      · rw [g1.a 9]
        exact pk_div (d := 3) (by show Z 9 0 < 2 ^ 31; omega) (by decide) (by decide)
      · rw [g1.a 4, g1.a 4]
        have e : nI (up Z 0 0 0 4 (Z 9 0 / 3)) = nI (up Z 0 0 0 4 i) ↔ Z 4 (Z 9 0 / 3) = Z 4 i := nI_eq (by show Z 4 _ < _; omega) (by show Z 4 _ < _; omega)
        rw [e]
        exact ⟨fun x => good (by omega) (fun _ => x.symm), fun x => bad (fun y => x (y.2 (by omega)).symm)⟩
end OPK
section OPL
variable {E : zE} {x m : Nat}
theorem s_lead : sim_lead E x m (RR E x m) := by
  intro Sc Sm hRR l1 l2
  obtain ⟨ad, la, V, ma, Z, ⟨hC, rfl⟩, hM, hV, hI⟩ := hRR
  unfold pm_lead
  have vm := hV.M
  have hMz := hI.M
  obtain ⟨v1, v2, v3, v4⟩ := hV.L
  have h9 : 0 < Z 8 0 → Z 9 0 / 3 < Z 3 0 := fun h => (v3 0 h).2.2.1
  have vJ := hV.J
  have hd : V 1006 0 0 < Z 10 0 + 2 := vJ.2.2.2.1
  refine ⟨hC.o 10 0 z1, c_methodAt hC vm.1 (fun i hi => (vm.2 i hi).1) (fun i hi hm e => c_rqR (lo := 0) (hi := 2) (by decide) (by decide) (fun c _ hc e2 => ⟨hC.o 10 0 z1, _, (hC.vrR 1006 z1).2, _, rfl, hC.o 9 _ hd, hC.o 9 _ hd, hC.ex 906 _ hd (c_isEmpty hC 906 _ hd ?_)⟩) (fun hn => Or.inr (Or.inl ⟨rfl, ?_⟩))) (fun hn => Or.inl ⟨rfl, ?_⟩)⟩
  · subst e
    subst e2
    have b := z_M_n hMz hi
    have e5 : gI Sc 501 (ad 5 i) = nI (Z 4 i) := by rw [hC.gi 501 5 i hm, (vm.2 i hi).2.2.1]
    have bad : ¬ (Z 8 0 < 20 ∧ (0 < Z 8 0 → Z 4 i = Z 4 (Z 9 0 / 3))) → p_X11_lead E m (nI i) (nI c) Sm (fun b9 Sm1 => gI Sm1 1100 m = 3 ∧ ((3 : Int32) = 0 → 0 = b9) ∧ RR E (ad 10 0) m Sc Sm1) (fun _ _ => False) := fun no =>
      m_lead hM hMz hi (by omega) v2 h9 (fun _ Z' S' g s z0 => finK g 3 z0 rfl (by omega) (RR.mk hC rfl hV hI g s)) (fun a b => absurd ⟨a, b⟩ no)
    have good : Z 8 0 < 20 → (0 < Z 8 0 → Z 4 i = Z 4 (Z 9 0 / 3)) → p_X9_addLead E (ad 9 (V 1006 0 0)) (ad 5 i) (nI c) Sc (fun S15 => (ad 10 0 ∈ gL S15 ∧ gK S15 (ad 10 0) = 10) ∧ ∃ b18, (gR S15 1006 (ad 10 0)) = some b18 ∧ (b18 ∈ gL S15 ∧ gK S15 b18 = 9) ∧ p_X9_leadCount E b18 S15 (fun (r21 : Int32) (S20 : zS) => p_X11_lead E m (nI i) (nI c) Sm (fun b9 Sm1 => gI Sm1 1100 m = 0 ∧ ((0 : Int32) = 0 → r21 = b9) ∧ RR E (ad 10 0) m S20 Sm1) (fun _ _ => False)) (fun _ _ => False)) (fun _ _ => False) := by
      intro h20 hst
      refine ⟨hC.o 5 i hm, hC.o 9 _ hd, hC.uI 901 9 _ (Z 4 i) hd e5 (fun S1 g1 => g1.ex 906 _ hd (c_size g1 906 _ hd (g1.ij 907 _ (Z 8 0) hd ?_ (by show _ < 20; exact h20) (g1.uA 907 _ (Z 8 0) c hd rfl (fun S2 g2 => ⟨g2.o 9 _ hd, g2.ex 906 _ hd (c_add g2 906 _ i hd hm ?_ (fun la' cp S3 g3 => ?_))⟩)))))⟩
      · rw [u3_f (show 906 ≠ 901 by decide), v1]
      · rw [u3_f (show 906 ≠ 907 by decide), u3_f (show 906 ≠ 901 by decide), v1]
        omega
      · have f6 : ∀ k, k ≠ 906 → k ≠ 2906 → k ≠ 4906 → k ≠ 901 → k ≠ 907 → vadd (u3 (u3 V 901 (V 1006 0 0) 0 (Z 4 i)) 907 (V 1006 0 0) (Z 8 0) c) 906 (V 1006 0 0) cp i k = V k := fun k a1 a2 a3 a4 a5 => by
          unfold vadd
          rw [u3_f a1, u3_f a2, u3_f a3, u3_f a5, u3_f a4]
        have fi : ∀ k a, a ≠ V 1006 0 0 → vadd (u3 (u3 V 901 (V 1006 0 0) 0 (Z 4 i)) 907 (V 1006 0 0) (Z 8 0) c) 906 (V 1006 0 0) cp i k a = V k a := fun k a h => by
          unfold vadd
          rw [u3_i h, u3_i h, u3_i h, u3_i h, u3_i h]
        have n6 : vadd (u3 (u3 V 901 (V 1006 0 0) 0 (Z 4 i)) 907 (V 1006 0 0) (Z 8 0) c) 906 (V 1006 0 0) cp i 906 (V 1006 0 0) 0 = Z 8 0 + 1 := by
          unfold vadd
          rw [u3_s, u3_f (show 906 ≠ 907 by decide), u3_f (show 906 ≠ 901 by decide), v1]
        have n2 : ∀ k, vadd (u3 (u3 V 901 (V 1006 0 0) 0 (Z 4 i)) 907 (V 1006 0 0) (Z 8 0) c) 906 (V 1006 0 0) cp i 2906 (V 1006 0 0) k = if k = Z 8 0 then i else V 2906 (V 1006 0 0) k := fun k => by
          unfold vadd
          rw [u3_f (show 2906 ≠ 906 by decide), u3_f (show 906 ≠ 907 by decide), u3_f (show 906 ≠ 901 by decide), v1]
          by_cases e : k = Z 8 0
          · rw [if_pos e, e, u3_s]
          · rw [if_neg e, u3_j e, u3_f (show 2906 ≠ 906 + 4000 by decide), u3_f (show 2906 ≠ 907 by decide), u3_f (show 2906 ≠ 901 by decide)]
        have n7 : ∀ k, vadd (u3 (u3 V 901 (V 1006 0 0) 0 (Z 4 i)) 907 (V 1006 0 0) (Z 8 0) c) 906 (V 1006 0 0) cp i 907 (V 1006 0 0) k = if k = Z 8 0 then c else V 907 (V 1006 0 0) k := fun k => by
          unfold vadd
          rw [u3_f (show 907 ≠ 906 by decide), u3_f (show 907 ≠ 906 + 2000 by decide), u3_f (show 907 ≠ 906 + 4000 by decide)]
          by_cases e : k = Z 8 0
          · rw [if_pos e, e, u3_s]
          · rw [if_neg e, u3_j e, u3_f (show 907 ≠ 901 by decide)]
        have n1 : vadd (u3 (u3 V 901 (V 1006 0 0) 0 (Z 4 i)) 907 (V 1006 0 0) (Z 8 0) c) 906 (V 1006 0 0) cp i 901 (V 1006 0 0) 0 = Z 4 i := by
          unfold vadd
          rw [u3_f (show 901 ≠ 906 by decide), u3_f (show 901 ≠ 906 + 2000 by decide), u3_f (show 901 ≠ 906 + 4000 by decide), u3_f (show 901 ≠ 907 by decide), u3_s]
        have va : agV [901, 907, 4906, 2906, 906] V (vadd (u3 (u3 V 901 (V 1006 0 0) 0 (Z 4 i)) 907 (V 1006 0 0) (Z 8 0) c) 906 (V 1006 0 0) cp i) := (((((agV.refl _ _).u).u).u).u).u
        have e6 : vadd (u3 (u3 V 901 (V 1006 0 0) 0 (Z 4 i)) 907 (V 1006 0 0) (Z 8 0) c) 906 (V 1006 0 0) cp i 1006 = V 1006 := f6 1006 (by decide) (by decide) (by decide) (by decide) (by decide)
        generalize hV' : vadd (u3 (u3 V 901 (V 1006 0 0) 0 (Z 4 i)) 907 (V 1006 0 0) (Z 8 0) c) 906 (V 1006 0 0) cp i = V' at *
        refine ⟨g3.o 10 0 z1, g3.vr 1006 z1 (fun _ => ?_)⟩
        rw [e6]
        refine ⟨g3.o 9 _ hd, g3.ex 906 _ hd (c_size g3 906 _ hd ?_)⟩
        rw [n6]
        refine m_lead hM hMz hi (by omega) v2 h9 (fun no => absurd ⟨h20, hst⟩ no) (fun _ _ Z' S' g s z0 => ?_)
        have za : agZ [8, 9] Z' (up (up Z' 9 (Z 8 0) (3 * i + c)) 8 0 (Z 8 0 + 1)) := ((agZ.refl _ _).u).u
        have hV1 := hV.scr s
        have e4 : Z' 4 = Z 4 := s 4 (by decide)
        have e3 : Z' 3 = Z 3 := s 3 (by decide)
        have e9 : Z' 9 = Z 9 := s 9 (by decide)
        have z9 : ∀ k, up (up Z' 9 (Z 8 0) (3 * i + c)) 8 0 (Z 8 0 + 1) 9 k = if k = Z 8 0 then 3 * i + c else Z 9 k := fun k => by
          rw [up_f (by decide)]
          by_cases e : k = Z 8 0
          · rw [if_pos e, e, up_s]
          · rw [if_neg e, up_i e, e9]
        have d3 : (3 * i + c) / 3 = i := by omega
        have m3 : (3 * i + c) % 3 = c := by omega
        refine fin0 g z0 rfl (RR.mk3 g g3 rfl (hV1.ch (lv := [901, 907, 4906, 2906, 906]) (lz := [8, 9]) va za (kT := Or.inr ?_) (kL := Or.inr ?_)) ((hI.scr s).ch (lz := [8, 9]) za) (by show Z' 3 0 = Z 3 0; rw [e3]) (by show Z' 10 0 + 2 = _; rw [s 10 (by decide)]) (by show Z' 27 0 = _; rw [s 27 (by decide)]))
        · refine hV1.T.cg (fun f hf => ?_) (fun t ht f hf => ?_) (za.m (k := [3, 4, 5, 6, 7, 10, 11, 12]) rfl)
          · have : f = 1003 ∨ f = 3003 := by
              simp only [List.mem_cons, List.not_mem_nil, or_false] at hf
              exact hf
            exact f6 f (by omega) (by omega) (by omega) (by omega) (by omega)
          · rw [s 10 (by decide)] at ht
            exact fi f _ (vJ.2.1 t ht).1
        · unfold V_L
          have l0 : Z 4 ((if 0 = Z 8 0 then 3 * i + c else Z 9 0) / 3) = Z 4 i := by
            by_cases e : 0 = Z 8 0
            · rw [if_pos e, d3]
            · rw [if_neg e, hst (by omega)]
          rw [e6, n6, up_s, z9 0]
          refine ⟨rfl, h20, fun k hk => ?_, fun _ => ?_⟩
          · rw [n2, n7, z9 k]
            show _ ∧ _ ∧ _ < Z' 3 0 ∧ Z' 4 _ = Z' 4 _
            rw [e3, e4, l0]
            by_cases e : k = Z 8 0
            · rw [if_pos e, if_pos e, if_pos e, d3, m3]
              exact ⟨rfl, rfl, hi, rfl⟩
            · rw [if_neg e, if_neg e, if_neg e]
              have w := v3 k (by omega)
              refine ⟨w.1, w.2.1, w.2.2.1, ?_⟩
              rw [w.2.2.2, hst (by omega)]
          · rw [n1]
            show Z 4 i = Z' 4 _
            rw [e4, l0]
    rw [v1]
    by_cases z8 : Z 8 0 = 0
    · rw [if_pos z8]
      exact ⟨fun x => absurd x (by decide), fun _ => ⟨Or.inr rfl, fun _ => ⟨hC.o 10 0 z1, hC.vr 1006 z1 (fun _ => good (by omega) (fun y => by omega))⟩, fun x => absurd x (by decide)⟩⟩
    · rw [if_neg z8]
      refine ⟨fun _ => ⟨hC.o 9 _ hd, hC.ex 906 _ hd (c_size hC 906 _ hd ?_)⟩, fun x => absurd rfl x⟩
      rw [v1]
      have h9' := h9 (by omega)
      have b9 := z_M_n hMz h9'
      refine pk_le 20 (Z 8 0) (fun h20 => ⟨Or.inl rfl, fun x => absurd rfl x, fun _ => Or.inr (Or.inr ⟨rfl, bad (fun y => by omega)⟩)⟩) (fun h20 => ⟨hC.o 5 i hm, hC.o 9 _ hd, ?_⟩)
      have e : (nI (Z 4 i) = nI (Z 4 (Z 9 0 / 3))) ↔ Z 4 i = Z 4 (Z 9 0 / 3) := nI_eq (by omega) (by omega)
      rw [e5, hC.gi 901 9 _ hd, v4 (by omega), e]
      exact ⟨fun x => ⟨Or.inl rfl, fun x => absurd rfl x, fun _ => Or.inr (Or.inr ⟨rfl, bad (fun y => x (y.2 (by omega)))⟩)⟩, fun x => ⟨Or.inr rfl, fun _ => ⟨hC.o 10 0 z1, hC.vr 1006 z1 (fun _ => good (by omega) (fun _ => x))⟩, fun x => absurd x (by decide)⟩⟩
  · subst e
    exact ⟨hM.1, m_isM1 hM hi hMz ⟨fun _ => w1_isCall0 (fun j hj => hn j (Nat.zero_le _) (by omega)) ⟨fun x => absurd rfl x, fun _ => m_leadN (j := 2) hM (by omega) (fun S1 g1 => finK g1 2 rfl rfl (by omega) (RR.mk hC rfl hV hI g1 s0))⟩, fun x => absurd x (by decide)⟩⟩
  · exact ⟨hM.1, m_isM0 hM hn hMz ⟨fun x => absurd rfl x, fun _ => m_leadN (j := 1) hM (by omega) (fun S1 g1 => finK g1 1 rfl rfl (by omega) (RR.mk hC rfl hV hI g1 s0))⟩⟩
end OPL
