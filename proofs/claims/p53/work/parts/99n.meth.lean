/-! methods: all of them -/
section LM3
variable {E : zE} {aa : Nat → Nat} {x : Nat} {L Z : zZ} {S C : zS} {Q : Int32 → zS → zS → Prop} {X : String → zS → Prop}
theorem l_methods {a : Nat} {u v : Int32} (ha : a < 44) (ht : TT E aa x S C) (k : ∀ S' C', TT E aa x S' C' → Q 1 S' C') : p_L_methods E x (nI a) u v (aa 0) (aa 1) (aa 2) (aa 4) (aa 9) (aa 10) S C Q X := by
  obtain ⟨L, Z, h, hz, hc, hn⟩ := ht
  have hI := hc.I
  have hM := hI.M
  have b3 : Z 3 0 ≤ 3 := hz.M.2.1
  have b10 : Z 10 0 ≤ 4 := hz.T.2.1
  have g0 : L 10 0 = Z 3 0 := hz.M.1
  have g1 : L 10 1 = Z 10 0 := hz.T.1
  have same : TT E aa x S C := ⟨L, Z, h, hz, hc, hn⟩
  obtain ⟨c1, c2, c3, c4, c5, c6⟩ := hz.C
  have J86 : ∀ w, w < 64 → p_L_methods_J86 E Q X x (aa 10) (nI w) S C := fun w hw => lm_J86 h hz hc hn hw k
  refine l_low (n := 3) (by decide) (by decide) (fun st hst => pk_le 4 a (fun _ => pk_le 7 a (fun a7 => ⟨h.o 10, h.i0 10 0, ?_⟩) (fun _ => ⟨h.o 10, h.i0 10 22, ?_⟩)) (fun _ => ⟨fun _ => ?_, fun _ => ?_⟩))
  · rw [h.a 10 0, g0, nI_1]
    refine l_low (n := Z 3 0 + 1) (by omega) (by omega) (fun i hi => ⟨h.o 10, h.i0 10 0, ?_⟩)
    rw [h.a 10 0, g0, nI_eq (by omega) (by omega)]
    refine ⟨fun ne => ⟨h.o 0, h.ix 0 i rfl (by show _ < 3; omega) ?_⟩, fun e => ?_⟩
    · have hi' : i < Z 3 0 := by omega
      have mi := hz.M.2.2 i hi'
      have hN := (hM.2 i hi').1
      rw [h.j 0, show L 0 i = lz_m Z i from mi.2]
      refine l_stageOf hM hi' mi.1 ?_
      rw [show (nI a = 7 ↔ a = 7) from nI_eq (b := 7) (by omega) (by decide)]
      refine ⟨fun _ => pk_le 12 a (fun _ => pk_le 14 a (fun _ => ?_) (fun _ => ⟨h.o 10, h.i0 10 24, ?_⟩)) (fun _ => ?_), fun _ => ?_⟩
      · -- compositions
        refine l_low (n := 4) (by decide) (by decide) (fun q hq => ?_)
        refine j_compose_r hc hi' (ne_r (a := 0) (Or.inl (by decide)) (by decide) (by decide)) (py (j_compose_r hc hi' (ne_r (a := 7) (Or.inr (by decide)) (by decide) (by decide)) (py' ⟨h.o 10, h.i0 10 1, ?_⟩)))
        rw [h.a 10 1, g1, show (nI (Z 10 0) = 4 ↔ Z 10 0 = 4) from nI_eq (b := 4) (by omega) (by decide), show (1 : Int32) + nI q = nI (1 + q) from nI_add 1 q]
        refine ⟨fun n4 => ?_, fun e4 => ⟨hc.o, j_touches hc (pe (by rw [e4]; rfl) ⟨Or.inr rfl, k _ _ same⟩)⟩⟩
        have go : ∀ w : Int32, w = nI (3 ^ (1 + q)) → p_L_methods_J1210 E Q X x (aa 0) (aa 1) (aa 9) (aa 10) (nI i) (nI (1 + q)) w S C := fun w hw => lm_J1210 h hz hc hn hi' (by omega) (by omega) (by omega) hw k
        rw [show (nI (1 + q) = 1 ↔ 1 + q = 1) from nI_eq (b := 1) (by omega) (by decide), show (nI (1 + q) = 2 ↔ 1 + q = 2) from nI_eq (b := 2) (by omega) (by decide), show (nI (1 + q) = 3 ↔ 1 + q = 3) from nI_eq (b := 3) (by omega) (by decide)]
        refine ⟨fun n1 => ⟨fun n2 => ⟨fun n3 => go 81 (by rw [show 1 + q = 4 by omega]; rfl), fun e => go 27 (by rw [e]; rfl)⟩, fun e => go 9 (by rw [e]; rfl)⟩, fun e => go 3 (by rw [e]; rfl)⟩
      · -- touches
        rw [h.a 10 24, c4, show (nI (Z 8 0) = 0 ↔ Z 8 0 = 0) from nI_eq (b := 0) (by omega) (by decide)]
        refine ⟨fun n0 => ⟨h.i0 10 24, h.i0 10 24, h.i0 10 25, h.i0 10 24, ?_⟩, fun e0 => ?_⟩
        · refine h.wA 10 24 0 rfl (fun S1 h1 => ⟨h1.i0 10 25, ?_⟩)
          refine h1.wA 10 25 0 rfl (fun S2 h2 => ⟨h2.i0 10 1, ?_⟩)
          have z2 := hz.dropLe (a := 0) (b := 0) rfl rfl
          have g12 : up (up L 10 24 0) 10 25 0 10 1 = Z 10 0 := by rw [up_i (by decide), up_i (by decide), g1]
          rw [h2.a 10 1, g12, show (nI (Z 10 0) = 4 ↔ Z 10 0 = 4) from nI_eq (b := 4) (by omega) (by decide)]
          refine ⟨fun n4 => ⟨h2.i0 10 1, h2.o 1, h2.ix 1 (Z 10 0) rfl (by show _ < 4; omega) ?_⟩, fun e4 => ?_⟩
          · rw [h.a 10 25, c6, show (8 : Int32) * nI (pk_b 16 (fun k => Z 9 k / 3 + 4 * (Z 9 k % 3)) (Z 8 0)) = nI (8 * pk_b 16 (fun k => Z 9 k / 3 + 4 * (Z 9 k % 3)) (Z 8 0)) from pk_mul 8 _, nI_add]
            refine h2.wA 1 (Z 10 0) _ rfl (fun S3 h3 => ⟨h3.i0 10 1, h3.i0 10 1, ?_⟩)
            rw [h3.a 10 1, up_f (by decide), g12, nI_1]
            refine h3.wA 10 1 _ rfl (fun S4 h4 => ?_)
            refine j_touch hc (by omega) (by omega) (fun C1 r1 => ⟨h4.i0 10 1, pe ?_ ⟨Or.inr rfl, k _ _ ⟨_, _, h4, z2.ta (q := Z 8 0) (g := Z 9) (by show Z 10 0 < 4; omega) c5 rfl ?_, r1 _ ?_ ?_, (hn.l (nbu nb0)).ta hI.T (fun o => (hI.g.2 o).1)⟩⟩⟩)
            · rw [h4.a 10 1, up_s, show (nI (Z 10 0 + 1) - 1 : Int32) = nI (Z 10 0 + 1 - 1) from pk_sub (b := 1) (by omega), Nat.add_sub_cancel]
            · rw [g12]
            · have t := zTa_ta (Z := up Z 8 0 0) (q := Z 8 0) (g := Z 9)
              refine ⟨fun f hf => ?_, t.2.1, t.2.2.1, t.2.2.2.1, t.2.2.2.2.1, t.2.2.2.2.2⟩
              rw [t.1 f hf, up_f (fun e => hf (by rw [e]; decide))]
            · rfl
          · refine ⟨hc.o, j_dropLeads hc (fun C1 r1 => pe ?_ ⟨Or.inr rfl, k _ _ ⟨_, _, h2, z2, r1, hn.l (nbu nb0)⟩⟩)⟩
            rfl
        · exact j_touch_s hc e0 (py ⟨hc.o, j_dropLeads hc (fun C1 r1 => pe (by rw [e0]; rfl) ⟨Or.inr rfl, k _ _ ⟨_, _, h, by
            have e8 : up Z 8 0 0 = Z := by
              funext f j
              unfold up
              split
              · rename_i y
                rw [y.1, y.2, e0]
              · rfl
            rw [e8]
            exact hz, r1, hn.l (nbu nb0)⟩⟩)⟩)
      · -- leads
        refine l_low (n := 3) (by decide) (by decide) (fun c hcl => ?_)
        refine j_lead_r hc hi' (ne_r (a := 3) (Or.inr (by decide)) (by decide) (by decide)) (py (j_lead_r hc hi' (ne_rm (by decide) (by decide)) (py' ⟨h.o 10, h.i0 10 24, ?_⟩)))
        rw [h.a 10 24, c4, show (nI (Z 8 0) = 4 ↔ Z 8 0 = 4) from nI_eq (b := 4) (by omega) (by decide)]
        refine ⟨fun n4 => ⟨h.i0 10 24, pk_le (Z 8 0) 0 (fun e0 => ?_) (fun p0 => ⟨h.i0 10 25, h.o 0, ?_⟩)⟩, fun e4 => ?_⟩
        · exact lm_J931 h hz hc hn hi' hcl (by omega) (fun y => by omega) k
        · have z90 := hc.z9 0 p0
          have lt16 : ∀ k, k < Z 8 0 → Z 9 k / 3 + 4 * (Z 9 k % 3) < 16 := fun k hk => by
            have := (hc.z9 k hk).1
            have : Z 9 k % 3 < 3 := Nat.mod_lt _ (by decide)
            omega
          have hl := p16_lt (f := fun k => Z 9 k / 3 + 4 * (Z 9 k % 3)) c5 lt16
          have e3 : L 10 25 % 4 = Z 9 0 / 3 := by
            have := pk_b_at (B := 16) (f := fun k => Z 9 k / 3 + 4 * (Z 9 k % 3)) (by decide) lt16 0 p0
            rw [Nat.pow_zero, Nat.div_one] at this
            rw [c6]
            have t2 : (Z 9 0 / 3 + 4 * (Z 9 0 % 3)) % 4 = Z 9 0 / 3 := by omega
            omega
          refine h.ix 0 (Z 9 0 / 3) (by rw [h.a 10 25, (li_and (by rw [c6]; omega)).2.1, e3]) (by show _ < 3; omega) ?_
          have m0 := hz.M.2.2 (Z 9 0 / 3) z90.1
          have n0 := z_M_n hM z90.1
          have ni := z_M_n hM hi'
          rw [h.j 0, show L 0 (Z 9 0 / 3) = lz_m Z (Z 9 0 / 3) from m0.2]
          refine l_stageOf hM z90.1 m0.1 ?_
          rw [nI_eq (by omega) (by omega)]
          refine ⟨fun e => lm_J931 h hz hc hn hi' hcl (by omega) (fun _ => e.symm) k, fun ne => j_lead_s hc hi' hcl p0 (fun e => ne e.symm) (py ⟨Or.inr rfl, k _ _ same⟩)⟩
        · exact j_lead0 hc (ne_m (by decide) (by omega)) (py ⟨Or.inr rfl, k _ _ same⟩)
      · -- calls
        refine l_low (n := 64) (by decide) (by decide) (fun p hp => ⟨65, ?_⟩)
        obtain ⟨b, hb, eb⟩ := and1 v
        refine lm_L585 (n := Z 4 i) hN (fun w hw => ?_) 65 0 p hp (by decide) (by decide)
        exact lm_J625 h hz hc hn hi' (c := 1 + b) (by omega) (by omega) hw rfl (by rw [eb]; exact nI_add 1 b) k
    · -- no method yet
      refine j_setCall0 hc (ne_i (by omega) (by omega)) (py (j_lead0 hc (ne_i (by omega) (by omega)) (py (j_compose0 hc (ne_i (by omega) (by omega)) (py (j_chAt_i hc (ne_i (by omega) (by omega)) (py ⟨Or.inr rfl, k _ _ same⟩)))))))
  · rw [h.a 10 22, c1, show (4 : Int32) + nI st = nI (4 + st) from nI_add 4 st]
    have hN : ro_N (4 + st) := by
      unfold ro_N
      omega
    exact pk_le (Z 1 0) 0 (fun e => lm_J218 h hz hc hn hN (by rw [decide_eq_false (by omega)]; rfl) k) (fun e => lm_J218 h hz hc hn hN (by rw [decide_eq_true e]; rfl) k)
  · refine l_low (n := 5) (by decide) (by decide) (fun j1 _ => ⟨fun _ => ?_, fun _ => J86 0 (by decide)⟩)
    refine l_low (n := 5) (by decide) (by decide) (fun j2 _ => ⟨fun _ => ?_, fun _ => J86 9 (by decide)⟩)
    refine l_low (n := 5) (by decide) (by decide) (fun j3 _ => ⟨fun _ => ?_, fun _ => J86 33 (by decide)⟩)
    exact l_low (n := 5) (by decide) (by decide) (fun j4 _ => ⟨fun _ => J86 12 (by decide), fun _ => J86 1 (by decide)⟩)
  · exact l_low (n := 64) (by decide) (by decide) (fun j hj => J86 j hj)
end LM3
