/-! the law's calls on bells, bands and plans -/
section LOB
variable {L Z : zZ}
theorem LZ.pass {t5 t p2 d2 : Nat} (hz : LZ L Z) (et : t = z_tb (z_ba Z (Z 20 0)) (Z 25 0)) (e5 : t5 = 0) (ed : d2 = Z 20 0 + 1) : LZ (up (up (up (up L 10 4 t) 10 5 t5) 2 (Z 20 0) p2) 10 2 d2) (zPass Z) := by
  obtain ⟨b1, b2, b3, b4, b5, b6, b7, b8⟩ := hz.G
  refine ⟨hz.M, hz.T, fun d h1 h2 => ?_, hz.W, hz.B, hz.D, hz.E, hz.X, hz.Y, ⟨ed, b2, et, Or.inl ⟨e5, (by decide : nI 4294967295 = -1)⟩, b5, b6, b7, b8⟩, hz.R.cg (fun i hi => by rw [up_i (by omega), up_f (by decide), up_i (by omega), up_i (by omega)]), hz.C⟩
  have h1' : Z 20 0 + 1 ≤ d := h1
  have := hz.P d (by omega) h2
  show up L 2 (Z 20 0) p2 2 d = lpd (lz_day (up Z 21 (Z 20 0) 0 21) (Z 22) d)
  rw [up_i (by omega), this]
  unfold lz_day
  rw [up_i (by omega)]
theorem LZ.plan {d t v : Nat} (hz : LZ L Z) (hP : z_P Z) (hd : d ≤ 60) (h4 : Z 21 d < 4) (ev : v = lpd (z_day Z d ++ [t])) : LZ (up L 2 d v) (up (up Z 22 (4 * d + Z 21 d) t) 21 d (Z 21 d + 1)) := by
  refine ⟨hz.M, hz.T, fun i h1 h2 => ?_, hz.W, hz.B, hz.D, hz.E, hz.X, hz.Y, hz.G, hz.R, hz.C⟩
  have h2' := (hP i h2).1
  show up L 2 d v 2 i = lpd (lz_day (up Z 21 d (Z 21 d + 1) 21) (up Z 22 (4 * d + Z 21 d) t 22) i)
  by_cases e : i = d
  · subst e
    rw [up_s, ev]
    congr 1
    unfold lz_day z_day
    rw [up_s, List.range_succ, List.map_append]
    congr 1
    · refine List.map_congr_left (fun k hk => ?_)
      have := List.mem_range.mp hk
      rw [up_i (by omega)]
    · show [t] = [up Z 22 (4 * i + Z 21 i) t 22 (4 * i + Z 21 i)]
      rw [up_s]
  · have := hz.P i h1 h2
    rw [up_i e, this]
    congr 1
    unfold lz_day
    rw [up_i e]
    refine List.map_congr_left (fun k hk => ?_)
    have := List.mem_range.mp hk
    rw [up_i (by omega)]
theorem LZ.band {i v : Nat} (hz : LZ L Z) : LZ (up L 5 i v) (up Z 24 i v) := by
  refine ⟨hz.M, hz.T, hz.P, hz.W, hz.B, fun j hj => ?_, hz.E, hz.X, hz.Y, hz.G, hz.R, hz.C⟩
  show up L 5 i v 5 j = up Z 24 i v 24 j
  by_cases e : j = i
  · rw [e, up_s, up_s]
  · rw [up_i e, up_i e]
    exact hz.D j hj
theorem LZ.bell {b v x : Nat} (hz : LZ L Z) (e : v = x + 2 * Z 18 b + 4 * Z 18 (6 + b)) : LZ (up L 4 b v) (up Z 19 b x) := by
  refine ⟨hz.M, hz.T, hz.P, hz.W, fun i hi => ?_, hz.D, hz.E, hz.X, hz.Y, hz.G, hz.R, hz.C⟩
  show up L 4 b v 4 i = up Z 19 b x 19 i + 2 * Z 18 i + 4 * Z 18 (6 + i)
  by_cases a : i = b
  · rw [a, up_s, up_s, e]
  · rw [up_i a, up_i a]
    exact hz.B i hi
theorem LZ.mend {b p v : Nat} (hz : LZ L Z) (hb : b < 6) (hp : p < 2) (e : v = Z 19 b + 2 * (if p = 0 then 0 else Z 18 b) + 4 * (if p = 1 then 0 else Z 18 (6 + b))) : LZ (up (up L 3 (6 * p + b) 0) 4 b v) (up (up Z 17 (6 * p + b) 0) 18 (6 * p + b) 0) := by
  refine ⟨hz.M, hz.T, hz.P, fun i hi => ?_, fun i hi => ?_, hz.D, hz.E, hz.X, hz.Y, hz.G, hz.R, hz.C⟩
  · show up L 3 (6 * p + b) 0 3 i = up Z 17 (6 * p + b) 0 17 i
    by_cases a : i = 6 * p + b
    · rw [a, up_s, up_s]
    · rw [up_i a, up_i a]
      exact hz.W i hi
  · show up (up L 3 (6 * p + b) 0) 4 b v 4 i = Z 19 i + 2 * up Z 18 (6 * p + b) 0 18 i + 4 * up Z 18 (6 * p + b) 0 18 (6 + i)
    by_cases a : i = b
    · subst a
      rw [up_s, e]
      rcases (show p = 0 ∨ p = 1 by omega) with rfl | rfl
      · rw [if_pos rfl, if_neg (by decide), show 6 * 0 + i = i by omega, up_s, up_i (by omega)]
      · rw [if_neg (by decide), if_pos rfl, show 6 * 1 + i = 6 + i by omega, up_s, up_i (by omega)]
    · rw [up_i a, up_f (by decide), up_i (by omega), up_i (by omega)]
      exact hz.B i hi
end LOB
theorem clr_c : ∀ a, a < 2 → ∀ b, b < 2 → ∀ c, c < 2 → ∀ p, p < 2 → nI (a + 2 * b + 4 * c) &&& ((2 <<< (nI p &&& 31)) ^^^ (-1)) = nI (a + 2 * (if p = 0 then 0 else b) + 4 * (if p = 1 then 0 else c)) := by decide +kernel
theorem bits_c : ∀ a, a < 2 → ∀ b, b < 2 → ∀ c, c < 2 → nI (a + 2 * b + 4 * c) &&& 1 = nI a ∧ nI (a + 2 * b + 4 * c) &&& 6 = nI (0 + 2 * b + 4 * c) ∧ nI (a + 2 * b + 4 * c) ||| 1 = nI (1 + 2 * b + 4 * c) := by decide +kernel
section LBL
variable {E : zE} {aa : Nat → Nat} {x : Nat} {L Z : zZ} {S C : zS} {Q : Int32 → zS → zS → Prop} {X : String → zS → Prop}
theorem lb_J522 {D : Nat} {u : Int32} (h : RA aa L S) (hz : LZ L Z) (hc : RZ E x Z C) (hn0 : NB Z) (h1 : Z 20 0 ≤ D) (h2 : D ≤ 60) (k : ∀ S' C', TT E aa x S' C' → Q 1 S' C') : p_L_bells_J522 E Q X x u (aa 0) (aa 1) (aa 2) (aa 4) (aa 9) (aa 10) (nI D) S C := by
  have hI := hc.I
  have b10 : Z 10 0 ≤ 4 := hz.T.2.1
  have g1 : L 10 1 = Z 10 0 := hz.T.1
  have g2 : L 10 2 = Z 20 0 := hz.G.1
  have h20 := hI.d
  have same : TT E aa x S C := ⟨L, Z, h, hz, hc, hn0⟩
  refine ⟨h.o 10, h.i0 10 1, ?_⟩
  rw [h.a 10 1, g1, nI_1]
  refine l_low (n := Z 10 0 + 1) (by omega) (by omega) (fun t ht => ⟨h.o 10, h.i0 10 1, ?_⟩)
  rw [h.a 10 1, g1, nI_eq (by omega) (by omega)]
  refine ⟨fun ne => ?_, fun e => ?_⟩
  · have ht' : t < Z 10 0 := by omega
    have hx := hI.T.2 t ht'
    have hn := ro_N6 (z_T_N hI.M hx)
    refine j_plan_r hc ht' (ne_r (a := 61) (Or.inr (by decide)) (by decide) (by decide)) (py ⟨h.i0 10 2, ?_⟩)
    rw [h.a 10 2, g2]
    have nem : ∀ d, Z 20 0 ≤ d → d ≤ 60 → nI (Z 20 0) - 1 ≠ nI d := by
      by_cases e0 : Z 20 0 = 0
      · rw [e0]
        exact ne_rm (by decide) (by decide)
      · rw [show (nI (Z 20 0) - 1 : Int32) = nI (Z 20 0 - 1) from pk_sub (b := 1) (by omega)]
        exact ne_r (Or.inl (by omega)) (by omega) (by decide)
    have hp := hI.P D h2
    have hp' := hp
    rw [← z_day_len Z] at hp
    have h44 : ∀ t, t ∈ z_day Z D → t < 4 := fun t ht => by have := hp.2 t ht; omega
    have ep : L 2 D = lpd (z_day Z D) := hz.P D h1 h2
    have hl := lpd_lt h44 hp.1
    have len := z_day_len Z D
    have bad : ∀ S', TT E aa x S' C → (¬ (Z 21 D < 4 ∧ t ∉ z_day Z D ∧ z_fit Z t = true)) → p_L_plan E x (nI D) (nI t) C (fun (r88 : Int32) (C87 : zS) => ((¬ r88 = (-7300)) → ((0 : Int32) = 0 ∨ (0 : Int32) = 1) ∧ Q 0 S' C87) ∧ ((r88 = (-7300)) → ((1 : Int32) = 0 ∨ (1 : Int32) = 1) ∧ Q 1 S' C87)) :=
      fun S' tt no => j_plan_s hc ht' h1 h2 no (py ⟨Or.inr rfl, k _ _ tt⟩)
    refine j_plan_r hc ht' nem (py' ⟨h.o 2, h.ix 2 D rfl (by show _ < 61; omega) ?_⟩)
    rw [h.a 2, ep, (li_and (by omega)).1, (lpd8 hp.1).1, len, show (nI (Z 21 D) = 4 ↔ Z 21 D = 4) from nI_eq (b := 4) (by omega) (by decide)]
    refine ⟨fun e4 => bad S same (fun y => by omega), fun n4 => ?_⟩
    refine l_planAt h hz hI.P h1 h2 (by omega) (fun no => ⟨fun y => absurd y (by decide), fun _ => ⟨h.o 1, h.ix 1 t rfl (by show _ < 4; omega) ?_⟩⟩) (fun q hq => ?_)
    · refine l_soundT h hz hI.M hI.T ht' (h.a 1 t) (fun f S2 h2' => zb_c (fun es => bad S2 ⟨_, _, h2', hz.sr, hc, hn0⟩ (fun y => ?_)) (fun es => ?_))
      · have := y.2.2
        unfold z_fit at this
        rw [es, Bool.and_false] at this
        cases this
      · refine l_stageIn h2' hz.sr hI.M hI.T ht' (l_areIn h2' hz.sr hI.B hn.1 (zb_d (fun ea => ⟨h2'.o 2, h2'.ix 2 D rfl (by show _ < 61; omega) (h2'.ix 2 D rfl (by show _ < 61; omega) (h2'.ix 2 D rfl (by show _ < 61; omega) (h2'.ix 2 D rfl (by show _ < 61; omega) ?_)))⟩) (fun ea => bad S2 ⟨_, _, h2', hz.sr, hc, hn0⟩ (fun y => ?_))))
        · have ft : z_fit Z t = true := by unfold z_fit; rw [ea, es]; rfl
          have e2 : sr L f 2 D = lpd (z_day Z D) := ep
          have pl := lp_lt (z_day Z D) h44
          rw [len] at pl
          have p44 : 4 ^ Z 21 D ≤ 4 ^ 3 := Nat.pow_le_pow_right (by decide) (by omega)
          have e4 : 2 ^ (2 * Z 21 D) = 4 ^ Z 21 D := Nat.pow_mul 2 2 _
          have tm : t * 4 ^ Z 21 D ≤ 3 * 4 ^ 3 := Nat.mul_le_mul (by omega) p44
          have ev : (nI (Z 21 D) + 1) + 8 * ((nI (lpd (z_day Z D)) >>> ((3 : Int32) &&& 31)) ||| (nI t <<< ((2 * nI (Z 21 D)) &&& 31))) = nI (lpd (z_day Z D ++ [t])) := by
            rw [li_shr (by omega) (by decide) (show (3 : Int32) = nI 3 from rfl), show lpd (z_day Z D) / 2 ^ 3 = lp (z_day Z D) from (lpd8 hp.1).2, show (2 : Int32) * nI (Z 21 D) = nI (2 * Z 21 D) from pk_mul 2 _, pk_shlN _ (2 * Z 21 D) (ri_c _ (by omega)) (by rw [e4]; omega), ri_or, Nat.or_comm, Nat.mul_comm t, ← Nat.two_pow_add_eq_or_of_lt (by rw [e4]; exact pl), nI_1, show (8 : Int32) * nI (2 ^ (2 * Z 21 D) * t + lp (z_day Z D)) = nI (8 * (2 ^ (2 * Z 21 D) * t + lp (z_day Z D))) from pk_mul 8 _, nI_add]
            congr 1
            unfold lpd
            rw [lp_app, List.length_append, len, e4]
            show _ = Z 21 D + 1 + 8 * (lp (z_day Z D) + 4 ^ Z 21 D * t)
            rw [Nat.add_comm (4 ^ Z 21 D * t)]
          rw [h2'.a 2, e2, (li_and (by omega)).1, (lpd8 hp.1).1, len, ev]
          refine h2'.wA 2 D _ rfl (fun S3 h3 => ?_)
          refine j_plan hc ht' h1 h2 (by omega) no ft (fun C1 r1 => h3.ix 2 D rfl (by show _ < 61; omega) (pe ?_ ⟨Or.inr rfl, k _ _ ⟨_, _, h3, hz.sr.plan hI.P h2 (by omega) rfl, r1, hn0.l (nbu (nbu nb0))⟩⟩))
          have l5 : (z_day Z D ++ [t]).length = Z 21 D + 1 := by
            rw [List.length_append, len]
            rfl
          have m5 : ∀ u, u ∈ z_day Z D ++ [t] → u < 4 := fun u hu => by
            rcases List.mem_append.mp hu with y | y
            · exact h44 u y
            · rw [List.mem_singleton.mp y]
              omega
          have b5 := lpd_lt m5 (by omega)
          rw [h3.a 2, up_s, (li_and (by omega)).1, (lpd8 (by omega)).1, l5]
        · have := y.2.2
          unfold z_fit at this
          rw [ea, Bool.false_and] at this
          cases this
    · have q4 := (List.getElem?_eq_some_iff.mp hq).1
      refine ⟨fun _ => bad S same (fun y => y.2.1 (List.mem_of_getElem? hq)), fun y => absurd (nI_n0 (by omega)) y⟩
  · exact j_plan0 hc (ne_i (by omega) (by omega)) (py (j_plan0 hc (ne_m (by decide) (by omega)) (py ⟨Or.inr rfl, k _ _ same⟩)))
theorem lb_L122 {K : Nat → Nat → Int32 → zS → zS → Prop} (h : RA aa L S) (k : ∀ b, b < 6 → K x (aa 4) (nI b) S C) : ∀ (w j b : Nat), b < 6 → j ≤ 6 → 6 < j + w → p_L_bells_L122 E K Q X w x (aa 4) (nI b) (nI j) S C
  | 0, j, b, hb, h1, h2 => by omega
  | w + 1, j, b, hb, h1, h2 => by
    have e : (nI b + 1) - (nI b + 1) / 6 * 6 = nI ((b + 1) % 6) := by rw [nI_1]; exact pk_rem (d := 6) (by omega) (by decide) (by decide)
    refine pk_le 6 j (fun _ => k b hb) (fun h5 => ⟨h.o 4, h.ix 4 b rfl (by show _ < 6; omega) ⟨fun _ => k b hb, fun _ => ?_⟩⟩)
    rw [e, nI_1]
    exact lb_L122 h k w (j + 1) _ (Nat.mod_lt _ (by decide)) (by omega) (by omega)
theorem l_bells {l1 u v : Int32} (ht : TT E aa x S C) (k : ∀ S' C', TT E aa x S' C' → Q 1 S' C') : p_L_bells E x l1 u v (aa 0) (aa 1) (aa 2) (aa 3) (aa 4) (aa 5) (aa 9) (aa 10) S C Q X := by
  obtain ⟨L, Z, h, hz, hc, hn0⟩ := ht
  have hI := hc.I
  have h20 := hI.d
  have b27 := hI.g.1
  have g6 : L 10 6 = Z 27 0 := hz.R.1
  have g2 : L 10 2 = Z 20 0 := hz.G.1
  have g4 : L 10 4 = Z 25 0 := hz.G.2.2.1
  have same : TT E aa x S C := ⟨L, Z, h, hz, hc, hn0⟩
  refine l_low (n := 6) (by decide) (by decide) (fun b hb => ?_)
  have b19 := hI.B.1 b hb
  have b18 := hI.B.2 b (by omega)
  have b18' := hI.B.2 (6 + b) (by omega)
  refine ⟨fun _ => ⟨fun _ => ⟨fun _ => ⟨fun _ => ⟨fun _ => ⟨h.o 10, h.i0 10 6, ?_⟩, fun _ => ⟨h.o 10, h.i0 10 2, h.i0 10 2, ?_⟩⟩, fun _ => ?_⟩, fun _ => ?_⟩, fun _ => ⟨7, lb_L122 h (fun b hb => ?_) 7 0 b hb (by decide) (by decide)⟩⟩, fun _ => ?_⟩
  · -- a day passes
    rw [h.a 10 6, g6, ri_is1 b27]
    refine ⟨fun on => j_pass_s hc (Or.inl on) (py ⟨Or.inr rfl, k _ _ same⟩), fun off => ⟨h.i0 10 2, ?_⟩⟩
    rw [h.a 10 2, g2, show (nI (Z 20 0) = 60 ↔ Z 20 0 = 60) from nI_eq (b := 60) (by omega) (by decide)]
    refine ⟨fun n60 => ⟨h.i0 10 2, ?_⟩, fun e60 => j_pass_s hc (Or.inr e60) (py ⟨Or.inr rfl, k _ _ same⟩)⟩
    have J : ∀ t : Int32, t = nI (z_tb (z_ba Z (Z 20 0)) (Z 25 0)) → p_L_bells_J827 E Q X x (aa 2) (aa 10) t 4 (aa 10) S C := by
      intro t et
      subst et
      refine ⟨h.o 10, h.ix 10 4 rfl (by decide) ?_⟩
      refine h.wA 10 4 _ rfl (fun S1 h1 => ⟨h1.o 10, h1.i0 10 5, ?_⟩)
      refine h1.wA 10 5 0 rfl (fun S2 h2 => ⟨h2.i0 10 2, h2.o 2, h2.ix 2 (Z 20 0) ?_ (by show _ < 61; omega) ?_⟩)
      · rw [h2.a 10, up_i (by decide), up_i (by decide), g2]
      · refine h2.wA 2 (Z 20 0) 0 rfl (fun S3 h3 => ⟨h3.i0 10 2, h3.i0 10 2, ?_⟩)
        rw [h3.a 10 2, up_f (by decide), up_i (by decide), up_i (by decide), g2, nI_1]
        refine h3.wA 10 2 _ rfl (fun S4 h4 => ?_)
        refine j_pass hc (by omega) (by omega) (fun C1 r1 => ⟨h4.i0 10 2, pe ?_ ⟨Or.inr rfl, k _ _ ⟨_, _, h4, hz.pass rfl rfl rfl, r1, NB.off (by show Z 27 0 = 0; omega)⟩⟩⟩)
        rw [h4.a 10 2, up_s]
    refine l_band h hz hI.M hI.T hI.P hI.R4 (Nat.le_refl _) h20 ?_
    cases eb : z_ba Z (Z 20 0) with
    | none =>
      rw [eb] at J
      refine ⟨fun y => absurd y (by decide), fun _ => ⟨h.o 10, h.i0 10 4, J _ ?_⟩⟩
      rw [h.a 10 4, g4]
      rfl
    | some c =>
      rw [eb] at J
      have c4 := z_ba_lt hI.R4 eb
      refine ⟨fun _ => J _ ?_, fun y => absurd (nI_n0 (by omega)) y⟩
      show (nI c + 1) - (nI c + 1) / 4 * 4 = _
      rw [nI_1, ri_rem4 (by omega)]
      rfl
  · -- a plan
    have J : ∀ n j, j < n → n + Z 20 0 ≤ 61 → p_L_bells_J522 E Q X x u (aa 0) (aa 1) (aa 2) (aa 4) (aa 9) (aa 10) (nI (Z 20 0 + j)) S C := fun n j hj hn => lb_J522 h hz hc hn0 (by omega) (by omega) k
    have J2 : ∀ n : Nat, 0 < n → n + Z 20 0 ≤ 61 → p_L_bells_J499 E Q X x u v (aa 0) (aa 1) (aa 2) (aa 4) (aa 9) (aa 10) (nI n) v (nI (Z 20 0)) S C := by
      intro n hn hn2
      refine l_low (n := n) hn (by omega) (fun j hj => ⟨fun _ => ?_, fun _ => ⟨h.o 10, h.i0 10 2, ?_⟩⟩)
      · rw [nI_add]
        exact J n j hj hn2
      · rw [h.a 10 2, g2]
        exact J n 0 hn hn2
    rw [h.a 10 2, g2, show (61 - nI (Z 20 0) : Int32) = nI (61 - Z 20 0) from pk_sub (a := 61) (by omega)]
    exact pk_le 4 (61 - Z 20 0) (fun h4 => J2 4 (by decide) (by omega)) (fun h4 => ⟨h.i0 10 2, J2 (61 - Z 20 0) (by omega) (by omega)⟩)
  · -- a band
    refine l_low (n := 4) (by decide) (by decide) (fun i hi => l_low (n := 3) (by decide) (by decide) (fun q hq => ⟨h.o 5, h.ix 5 i rfl (by show _ < 4; omega) (h.ix 5 i rfl (by show _ < 4; omega) ?_)⟩))
    rw [show (4 : Int32) + nI q = nI (4 + q) from nI_add 4 q]
    refine h.wA 5 i _ rfl (fun S1 h1 => ?_)
    refine j_setBand0 hc (ne_i (a := 4) (by decide) (by decide)) (py (j_setBand_r hc hi (ne_r (a := 3) (Or.inl (by decide)) (by decide) (by decide)) (py (j_setBand_r hc hi (ne_r (a := 7) (Or.inr (by decide)) (by decide) (by decide)) (py (j_setBand hc hi (by omega) (by omega) (fun C1 r1 => pe ?_ ⟨Or.inr rfl, k _ _ ⟨_, _, h1, hz.band, r1, hn0.l (nbu nb0)⟩⟩)))))))
    rw [h.a 5, hz.D i hi]
  · -- mending
    obtain ⟨p, hp, ep⟩ := and1 v
    refine j_mend0 hc (ne_i (a := 6) (by decide) (by decide)) (py (j_mend_r hc hb (ne_r (a := 2) (Or.inr (by decide)) (by decide) (by decide)) (py (j_mend_r hc hb (ne_rm (by decide) (by decide)) (py' ⟨h.o 10, h.i0 10 6, ?_⟩)))))
    rw [h.a 10 6, g6, ri_is1 b27, ep]
    refine ⟨fun off => ⟨h.o 3, h.ix 3 (6 * p + b) (ri_6 p b) (by show _ < 12; omega) (h.ix 3 (6 * p + b) (ri_6 p b) (by show _ < 12; omega) ?_)⟩, fun on => j_mend_s hc hb (by omega) on (py ⟨Or.inr rfl, k _ _ same⟩)⟩
    refine h.wA 3 (6 * p + b) 0 rfl (fun S1 h1 => ⟨h1.o 4, h1.ix 4 b rfl (by show _ < 6; omega) (h1.ix 4 b rfl (by show _ < 6; omega) ?_)⟩)
    rw [h1.a 4, up_f (by decide), hz.B b hb, clr_c _ b19 _ b18 _ b18' p hp]
    refine h1.wA 4 b _ rfl (fun S2 h2 => ?_)
    refine j_mend hc hb (by omega) (by omega) (fun C1 r1 => pe ?_ ⟨Or.inr rfl, k _ _ ⟨_, _, h2, hz.mend hb hp rfl, r1, NB.off (by show Z 27 0 = 0; omega)⟩⟩)
    rw [h.a 3, hz.W _ (by omega)]
  · -- a bell is brought in
    have b19 := hI.B.1 b hb
    have b18 := hI.B.2 b (by omega)
    have b18' := hI.B.2 (6 + b) (by omega)
    have bc := bits_c _ b19 _ b18 _ b18'
    refine j_bringIn0 hc (ne_i (a := 6) (by decide) (by decide)) (py' ⟨h.o 4, h.ix 4 b rfl (by show _ < 6; omega) ?_⟩)
    rw [h.a 4, hz.B b hb, bc.1, ri_0 b19]
    refine ⟨fun n0 => h.ix 4 b rfl (by show _ < 6; omega) (h.ix 4 b rfl (by show _ < 6; omega) ?_), fun e0 => j_bringIn_s hc hb e0 (py ⟨Or.inr rfl, k _ _ same⟩)⟩
    rw [h.a 4, hz.B b hb, bc.2.1]
    refine h.wA 4 b _ rfl (fun S1 h1 => ?_)
    refine j_bringIn hc hb n0 (fun C1 r1 => h1.ix 4 b rfl (by show _ < 6; omega) ?_)
    have ez : z_in (up Z 19 b 0) b = true ↔ 0 + 2 * Z 18 b + 4 * Z 18 (6 + b) = 0 := by
      unfold z_in
      rw [up_s, up_f (by decide)]
      rcases (show Z 18 b = 0 ∨ Z 18 b = 1 by omega) with e1 | e1 <;> rcases (show Z 18 (6 + b) = 0 ∨ Z 18 (6 + b) = 1 by omega) with e2 | e2 <;> simp [e1, e2]
    have tt : TT E aa x S1 C1 := ⟨_, _, h1, hz.bell rfl, r1, hn0.l (nbu nb0)⟩
    rw [h1.a 4, up_s, show (nI (0 + 2 * Z 18 b + 4 * Z 18 (6 + b)) = 0 ↔ 0 + 2 * Z 18 b + 4 * Z 18 (6 + b) = 0) from nI_eq (b := 0) (by omega) (by decide)]
    refine ⟨fun y => ?_, fun y => ?_⟩
    · have : z_in (up Z 19 b 0) b = false := by
        cases z : z_in (up Z 19 b 0) b with
        | false => rfl
        | true => exact absurd (ez.mp z) y
      rw [this]
      exact pe rfl ⟨Or.inr rfl, k _ _ tt⟩
    · rw [ez.mpr y]
      exact pe rfl ⟨Or.inr rfl, k _ _ tt⟩
  · -- a bell is taken out
    have bc := bits_c _ b19 _ b18 _ b18'
    refine j_takeOut0 hc (ne_i (a := 6) (by decide) (by decide)) (py (j_takeOut0 hc (ne_m (by decide) (by decide)) (py' ⟨h.o 4, h.ix 4 b rfl (by show _ < 6; omega) ?_⟩)))
    rw [h.a 4, hz.B b hb, bc.1, ri_is1 b19]
    refine ⟨fun e1 => j_takeOut_s hc hb (Or.inl (by omega)) (py ⟨Or.inr rfl, k _ _ same⟩), fun n1 => ⟨h.o 10, h.i0 10 6, ?_⟩⟩
    rw [h.a 10 6, g6, ri_is1 b27]
    refine ⟨fun off => h.ix 4 b rfl (by show _ < 6; omega) (h.ix 4 b rfl (by show _ < 6; omega) ?_), fun on => j_takeOut_s hc hb (Or.inr on) (py ⟨Or.inr rfl, k _ _ same⟩)⟩
    rw [h.a 4, hz.B b hb, bc.2.2]
    refine h.wA 4 b _ rfl (fun S1 h1 => ?_)
    refine j_takeOut hc hb (by omega) (by omega) (fun C1 r1 => ?_)
    exact l_drop h1 (hz.bell (x := 1) rfl) hI.M hI.T (z_B_19 hI.B (by decide)) hI.P h20 (fun L2 S2 h2 z2 => pe rfl ⟨Or.inr rfl, k _ _ ⟨_, _, h2, z2, r1 _ (z_dr_D hI.P h20), NB.off (by show Z 27 0 = 0; omega)⟩⟩)
end LBL
