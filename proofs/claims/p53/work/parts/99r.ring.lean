/-! ringing: all of its calls -/
section LRI
variable {E : zE} {aa : Nat → Nat} {x : Nat} {L Z : zZ} {S C : zS} {Q : Int32 → zS → zS → Prop} {X : String → zS → Prop}
theorem lr_J736 {b : Nat} {v : Int32} (hc : RZ E x Z C) (hb : b < 6) (tt : TT E aa x S C) (no : ¬ (Z 27 0 = 1 ∧ z_pp Z b = true ∧ Z 34 b < z_L Z (Z 28 0))) (k : ∀ S' C', TT E aa x S' C' → Q 1 S' C') : p_L_rings_J736 E Q X x v (nI b) S C := by
  refine l_low (n := 1000) (by decide) (by decide) (fun j hj => ?_)
  have due : p_L_due E x (nI b) C (fun (r35 : Int32) (C34 : zS) => ((¬ r35 = (-7300)) → ((0 : Int32) = 0 ∨ (0 : Int32) = 1) ∧ Q 0 S C34) ∧ ((r35 = (-7300)) → ((1 : Int32) = 0 ∨ (1 : Int32) = 1) ∧ Q 1 S C34)) := j_due_s hc hb no (py ⟨Or.inr rfl, k _ _ tt⟩)
  exact j_pull hc hb (by omega) (fun _ => py due) (fun _ _ _ _ _ _ _ _ _ _ => py due) (fun p1 n1 a1 a2 a3 _ _ _ _ _ _ _ => absurd ⟨a1, a2, a3⟩ no)
theorem lr_J646 {b : Nat} {v l100 : Int32} (h : RA aa L S) (hz : LZ L Z) (hc : RZ E x Z C) (hn : NB Z) (hb : b < 6) (on1 : Z 27 0 = 1 → l100 = nI (z_L Z (Z 28 0)) ∧ z_L Z (Z 28 0) ≤ 16 ∧ lz_W (z_st Z (Z 28 0)) (L 9) (z_cs Z (Z 28 0))) (k : ∀ S' C', TT E aa x S' C' → Q 1 S' C') :
    p_L_rings_J646 E Q X x v (aa 0) (aa 1) (aa 2) (aa 3) (aa 4) (aa 6) (aa 7) (aa 8) (aa 9) (aa 10) (nI b) l100 S C := by
  have hI := hc.I
  have b27 := hI.g.1
  have g6 : L 10 6 = Z 27 0 := hz.R.1
  have same : TT E aa x S C := ⟨L, Z, h, hz, hc, hn⟩
  refine j_pull0 hc (ne_i (a := 6) (by decide) (by decide)) (py (j_pull_r hc hb (ne_rm (by decide) (by decide)) (py (j_pull_r hc hb (ne_r (a := 2000000001) (Or.inr (by decide)) (by decide) (by decide)) (py (j_due0 hc (ne_m (by decide) (by decide)) (py' ⟨h.o 10, h.i0 10 6, ?_⟩)))))))
  rw [h.a 10 6, g6, ri_0 b27]
  refine ⟨fun off => lr_J736 hc hb same (fun y => by omega) k, fun n0 => ⟨h.i0 10 8, ?_⟩⟩
  have on : Z 27 0 = 1 := by omega
  obtain ⟨el, h16, hW⟩ := on1 on
  subst el
  have R := hz.R.2.2 on
  have g8 : L 10 8 = Z 29 0 := R.2.1
  have g7 : L 10 7 = Z 28 0 := R.1
  have g9 : L 10 9 = Z 30 0 := R.2.2.1
  have g11 : L 10 11 = Z 32 0 := R.2.2.2.1
  have g16 : L 10 (16 + b) = Z 34 b := R.2.2.2.2 b hb
  have gq := hI.g.2 on
  have ht := hI.T.2 _ gq.1
  have hN := z_T_N hI.M ht
  have hn6 := ro_N6 hN
  have p6 := z_pow6 hN
  have b2 : Z 29 0 / 2 ^ b % 2 < 2 := Nat.mod_lt _ (by decide)
  have b10 : Z 10 0 ≤ 4 := hz.T.2.1
  rw [h.a 10 8, g8, ri_bit (by have := gq.2.2.1; omega) (by omega), ri_0 b2]
  refine ⟨fun e0 => lr_J736 hc hb same (fun y => ?_) k, fun ne0 => h.ix 10 (16 + b) (nI_add 16 b) (by show _ < 26; omega) ?_⟩
  · have := y.2.1
    unfold z_pp at this
    rw [e0] at this
    cases this
  · have hpp : z_pp Z b = true := by
      unfold z_pp
      rw [show Z 29 0 / 2 ^ b % 2 = 1 by omega]
      rfl
    have nb := hn on b hb
    rw [h.a 10 (16 + b), g16, nI_eq (by omega) (by omega)]
    refine ⟨fun ne => h.ix 10 (16 + b) (nI_add 16 b) (by show _ < 26; omega) ⟨h.i0 10 9, h.i0 10 7, ?_⟩, fun e => lr_J736 hc hb same (fun y => by omega) k⟩
    have lt : Z 34 b < z_L Z (Z 28 0) := by omega
    rw [h.a 10 7, g7]
    refine l_stageIn h hz hI.M hI.T gq.1 ⟨h.o 9, h.ix 9 (Z 34 b) (by rw [h.a 10, g16]) (by show _ < 16; omega) ?_⟩
    have hV := z_f_V hI.M ht lt
    have hb2 : b < z_st Z (Z 28 0) := by
      rcases Nat.lt_or_ge b (z_st Z (Z 28 0)) with y | y
      · exact y
      · rw [z_pp_hi gq.2.2.1 y] at hpp
        exact absurd hpp (by decide)
    obtain ⟨p0, h0, h4, h5⟩ := ro_place hN hV hb2
    have hp : PU Z b p0 := ⟨on, hb, hpp, lt, h16, h0, h4⟩
    have hdu := hp.du hI
    have ef : L 9 (Z 34 b) = iv (z_st Z (Z 28 0)) (z_f Z (Z 28 0) (Z 34 b)) := lz_W_f hW lt
    have l2 := iv_lt2 hN hV
    have epl : (gA S (aa 9) (Z 34 b) >>> ((3 * nI b) &&& 31)) &&& 7 = nI p0 := by
      rw [h.a 9, ef, ri_bell (by omega) (by omega)]
      congr 1
      have := iv_bl hN hV h0
      rw [h4] at this
      exact this
    unfold p_L_place
    rw [epl]
    refine ⟨h.o 10, h.i0 10 11, fun y hy => ?_⟩
    have ed : ((gA S (aa 10) 9) * (((nI (z_st Z (Z 28 0)) * (gA S (aa 10) (16 + b))) + nI p0) + ((gA S (aa 10) (16 + b)) / 2))) + (gA S (aa 10) 11) = nI (z_du Z (Z 34 b) p0) := by
      rw [h.a 10, h.a 10, h.a 10, g9, g16, g11]
      unfold z_du
      rw [pk_mul (z_st Z (Z 28 0)), nI_add, show nI (Z 34 b) / 2 = nI (Z 34 b / 2) from pk_div (d := 2) (by omega) (by decide) (by decide), nI_add, pk_mul (Z 30 0), nI_add]
    rw [ed] at hy
    subst hy
    refine j_due hc hb on hpp lt h0 h4 h5 (py' ?_)
    rw [h.a 10 (16 + b), g16]
    exact ⟨fun _ => l_low (n := 400) (by decide) (by decide) (fun j hj => lr_J879 h hz hc hn hp k), fun _ => l_low (n := 2000000001) (by decide) (by decide) (fun j hj => lr_J879 h hz hc hn hp k)⟩
theorem lr_J618 {b : Nat} {v : Int32} (h : RA aa L S) (hz : LZ L Z) (hc : RZ E x Z C) (hn : NB Z) (hb : b < 6) (k : ∀ S' C', TT E aa x S' C' → Q 1 S' C') :
    p_L_rings_J618 E Q X x v (aa 0) (aa 1) (aa 2) (aa 3) (aa 4) (aa 6) (aa 7) (aa 8) (aa 9) (aa 10) (nI b) S C := by
  have hI := hc.I
  have b27 := hI.g.1
  have g6 : L 10 6 = Z 27 0 := hz.R.1
  refine ⟨h.o 10, h.i0 10 6, ?_⟩
  rw [h.a 10 6, g6, ri_is1 b27]
  refine ⟨fun off => lr_J646 h hz hc hn hb (fun on => absurd on off) k, fun on => ⟨h.i0 10 7, h.o 1, ?_⟩⟩
  have g7 : L 10 7 = Z 28 0 := (hz.R.2.2 on).1
  have q1 := (hI.g.2 on).1
  have b10 : Z 10 0 ≤ 4 := hz.T.2.1
  refine h.ix 1 (Z 28 0) (by rw [h.a 10, g7]) (by show _ < 4; omega) ?_
  exact l_layT h hz hI.M hI.T q1 (h.a 1 _) (fun f S2 h2 hW h16 => lr_J646 h2 hz.sr hc hn hb (fun _ => ⟨rfl, h16, hW⟩) k)
theorem lr_L567 {K : Nat → Int32 → Nat → Nat → Nat → Nat → Nat → Nat → Nat → Nat → Nat → Nat → Int32 → zS → zS → Prop} {v : Int32} (h : RA aa L S) (k : ∀ b, b < 6 → K x v (aa 0) (aa 1) (aa 2) (aa 3) (aa 4) (aa 6) (aa 7) (aa 8) (aa 9) (aa 10) (nI b) S C) : ∀ (w j b : Nat), b < 6 → j ≤ 6 → 6 < j + w → p_L_rings_L567 E K Q X w x v (aa 0) (aa 1) (aa 2) (aa 3) (aa 4) (aa 6) (aa 7) (aa 8) (aa 9) (aa 10) (nI b) (nI j) S C
  | 0, j, b, hb, h1, h2 => by omega
  | w + 1, j, b, hb, h1, h2 => by
    have e : (nI b + 1) - (nI b + 1) / 6 * 6 = nI ((b + 1) % 6) := by rw [nI_1]; exact pk_rem (d := 6) (by omega) (by decide) (by decide)
    unfold p_L_rings_L567
    refine pk_le 6 j (fun _ => k b hb) (fun h5 => ?_)
    refine ⟨fun _ => k b hb, fun _ => ⟨h.o 10, h.i0 10 6, fun _ => k b hb, fun _ => ⟨h.i0 10 8, fun _ => k b hb, fun _ => ?_⟩⟩⟩
    rw [e, nI_1]
    exact lr_L567 h k w (j + 1) _ (Nat.mod_lt _ (by decide)) (by omega) (by omega)
theorem lr_J556 {u v : Int32} (h : RA aa L S) (hz : LZ L Z) (hc : RZ E x Z C) (hn : NB Z) (k : ∀ S' C', TT E aa x S' C' → Q 1 S' C') :
    p_L_rings_J556 E Q X x u v (aa 0) (aa 1) (aa 2) (aa 3) (aa 4) (aa 6) (aa 7) (aa 8) (aa 9) (aa 10) S C :=
  l_low (n := 6) (by decide) (by decide) (fun b hb => ⟨7, lr_L567 h (fun b hb => lr_J618 h hz hc hn hb k) 7 0 b hb (by decide) (by decide)⟩)
theorem lr_J430 {n : Nat} {v l15 l100 : Int32} (h : RA aa L S) (hz : LZ L Z) (hc : RZ E x Z C) (hn : NB Z) (e15 : l15 = nI (Z 33 0)) (e100 : l100 = nI n) (n0 : 0 < n) (n1 : n ≤ 1001) (k : ∀ S' C', TT E aa x S' C' → Q 1 S' C') : p_L_rings_J430 E Q X x (aa 10) l15 l100 v 12 (aa 10) S C := by
  subst e15
  subst e100
  refine l_low (n := n) n0 (by omega) (fun j hj => ⟨h.o 10, h.ix 10 12 rfl (by decide) ?_⟩)
  refine h.wA 10 12 j rfl (fun S1 h1 => ?_)
  refine j_setPatience_r hc (ne_rm (by decide) (by decide)) (py (j_setPatience_r hc (ne_r (a := 1001) (Or.inr (by decide)) (by decide) (by decide)) (py ⟨h1.o 10, h1.i0 10 12, ?_⟩)))
  rw [h1.a 10 12, up_s]
  exact j_setPatience hc (by omega) (fun C1 r1 => pe rfl ⟨Or.inr rfl, k _ _ ⟨_, _, h1, hz.pat, r1, hn.l (nbu nb0)⟩⟩)
theorem lr_J398 {l1 u v : Int32} (h : RA aa L S) (hz : LZ L Z) (hc : RZ E x Z C) (hn : NB Z) (k : ∀ S' C', TT E aa x S' C' → Q 1 S' C') :
    p_L_rings_J398 E Q X x l1 u v (aa 0) (aa 1) (aa 2) (aa 3) (aa 4) (aa 6) (aa 7) (aa 8) (aa 9) (aa 10) S C := by
  have hI := hc.I
  have b27 := hI.g.1
  have g6 : L 10 6 = Z 27 0 := hz.R.1
  have g12 : L 10 12 = Z 33 0 := hz.G.2.2.2.2.1
  have pull := lr_J556 (u := u) (v := v) (X := X) h hz hc hn k
  have same : TT E aa x S C := ⟨L, Z, h, hz, hc, hn⟩
  refine ⟨fun _ => ⟨fun _ => pull, fun _ => ⟨fun _ => pull, fun _ => ⟨h.o 10, h.i0 10 6, ?_⟩⟩⟩, fun _ => ⟨h.o 10, h.i0 10 12, ?_⟩⟩
  · rw [h.a 10 6, g6, ri_0 b27]
    refine ⟨fun n0 => ⟨h.i0 10 6, ?_⟩, fun e0 => j_stand_s hc e0 (py ⟨Or.inr rfl, k _ _ same⟩)⟩
    refine h.wA 10 6 0 rfl (fun S1 h1 => ?_)
    have z1 := hz.off (v6 := 0) rfl
    have c : z_C Z (up Z 27 0 0) := fun f hf => up_f (fun e => by rw [e] at hf; exact absurd hf (by decide))
    have hF : I_fit (up Z 27 0 0) := fun d h1 h2 t ht => by
      rw [z_fit_congr c (up_f (by decide)) (up_f (by decide))]
      exact hI.fit d h1 h2 t ht
    refine l_look h1 z1 (z_C_M c hI.M) (z_C_TT c hI.T) hI.B hI.P hI.d hF (fun L2 Z2 S2 h2 lo z2 => ?_)
    refine j_stand hc (by omega) (fun C1 r1 => ⟨h2.o 10, h2.i0 10 10, pe ?_ ⟨Or.inr rfl, k _ _ ⟨L2, Z2, h2, z2, r1 _ lo, NB.off ?_⟩⟩⟩)
    · rw [h2.a 10, z2.R.2.1, z_lo_f lo 31 (by decide)]
      rfl
    · rw [z_lo_f lo 27 (by decide)]
      exact up_s _ _ _ _
  · rw [h.a 10 12, g12]
    exact ⟨fun _ => lr_J430 (n := 100) h hz hc hn rfl rfl (by decide) (by decide) k, fun _ => lr_J430 (n := 1001) h hz hc hn rfl rfl (by decide) (by decide) k⟩
theorem lr_L338 {K : Nat → Nat → Nat → Nat → Nat → Nat → Nat → Nat → Nat → Int32 → Int32 → Int32 → zS → zS → Prop} {l15 l17 l18 : Int32} (k : ∀ S', RA aa (zgk L 6) S' → K x (aa 0) (aa 1) (aa 2) (aa 3) (aa 4) (aa 8) (aa 9) (aa 10) l15 l17 l18 S' C) : ∀ (w j : Nat) (S : zS), RA aa (zgk L j) S → j ≤ 6 → 6 < j + w → p_L_rings_L338 E K Q X w x (aa 0) (aa 1) (aa 2) (aa 3) (aa 4) (aa 8) (aa 9) (aa 10) l15 l17 l18 (nI j) S C
  | 0, j, S, h, h1, h2 => by omega
  | w + 1, j, S, h, h1, h2 => by
    refine pk_le 6 j (fun h5 => ?_) (fun h5 => ⟨h.o 10, h.ix 10 (16 + j) (nI_add 16 j) (by show _ < 26; omega) ?_⟩)
    · have : j = 6 := by omega
      subst this
      exact k S h
    · refine h.wA 10 (16 + j) 0 rfl (fun S1 h1' => ?_)
      rw [zgk_s] at h1'
      rw [nI_1]
      exact lr_L338 k w (j + 1) S1 h1' (by omega) (by omega)
theorem lr_J138 {t p g : Nat} {l16 l17 l100 : Int32} (h : RA aa L S) (hz : LZ L Z) (hc : RZ E x Z C) (hn : NB Z) (off : Z 27 0 = 0) (ht : t < Z 10 0) (hp : p < 2 ^ z_st Z t) (g1 : 100 ≤ g) (g2 : g ≤ 1000) (e16 : l16 = nI (z_st Z t)) (e17 : l17 = nI p) (e100 : l100 = nI g) (k : ∀ S' C', TT E aa x S' C' → Q 1 S' C') :
    p_L_rings_J138 E Q X x (aa 0) (aa 1) (aa 2) (aa 3) (aa 4) (aa 5) (aa 8) (aa 9) (aa 10) (nI t) l16 l17 l100 S C := by
  subst e16
  subst e17
  subst e100
  have hI := hc.I
  have hx := hI.T.2 t ht
  have hN := z_T_N hI.M hx
  have hn6 := ro_N6 hN
  have p6 := z_pow6 hN
  have p0 : 0 < 2 ^ z_st Z t := Nat.pow_pos (by decide)
  have b10 : Z 10 0 ≤ 4 := hz.T.2.1
  have gg2 : L 10 2 = Z 20 0 := hz.G.1
  have h20 := hI.d
  have same : ∀ S', RA aa L S' → TT E aa x S' C := fun S' h' => ⟨L, Z, h', hz, hc, hn⟩
  have bad : (¬ (Z 27 0 = 0 ∧ nI t ≠ nI (Z 41 0) ∧ ∃ b, z_ba Z (Z 20 0) = some b ∧ z_st Z t ≤ Z 24 b ∧ t ∈ z_day Z (Z 20 0))) → p_L_ring E x (nI t) (nI p) (nI g) C (fun (r285 : Int32) (C284 : zS) => ((¬ r285 = (-7300)) → ((0 : Int32) = 0 ∨ (0 : Int32) = 1) ∧ Q 0 S C284) ∧ ((r285 = (-7300)) → ((1 : Int32) = 0 ∨ (1 : Int32) = 1) ∧ Q 1 S C284)) :=
    fun no => j_ring_s hc ht hp g1 g2 no (py ⟨Or.inr rfl, k _ _ (same S h)⟩)
  unfold p_L_rings_J138
  rw [ri_2n hn6.1]
  refine j_ring_p hc ht (ne_r (Or.inr (by omega)) (by omega) (by omega)) (py (j_ring_p hc ht (ne_rm (by decide) (by omega)) (py (j_ring_g (p := 0) hc ht p0 (ne_r (a := 99) (Or.inl (by decide)) (by decide) (by decide)) (py (j_ring_g (p := 0) hc ht p0 (ne_r (a := 1001) (Or.inr (by decide)) (by decide) (by decide)) (py' ⟨h.o 10, h.i0 10 2, ?_⟩)))))))
  rw [h.a 10 2, gg2]
  refine l_band h hz hI.M hI.T hI.P hI.R4 (Nat.le_refl _) h20 ⟨h.o 10, h.i0 10 2, ?_⟩
  rw [h.a 10 2, gg2]
  refine l_planAt h hz hI.P (Nat.le_refl _) h20 (by omega) (fun no => ⟨fun _ => bad (fun y => by obtain ⟨_, _, _, _, _, m⟩ := y; exact no m), fun y => absurd (by decide) y⟩) (fun q hq => ?_)
  have hm := List.mem_of_getElem? hq
  have q4 : q < 4 := by
    have a := (List.getElem?_eq_some_iff.mp hq).1
    have b := (hI.P (Z 20 0) h20).1
    rw [z_day_len] at a
    omega
  refine ⟨fun y => ?_, fun _ => ⟨h.o 10, h.i0 10 15, ?_⟩⟩
  · have := nI_n0 (n := q) (by omega)
    rw [Int32.lt_iff_toInt_lt] at y
    rw [Int32.le_iff_toInt_le] at this
    omega
  · have g15 := hz.G.2.2.2.2.2.2.2
    have e15 : (nI (L 10 15) = nI t + 1) ↔ nI t = nI (Z 41 0) := by
      rw [nI_1]
      rcases g15 with ⟨e, e41⟩ | ⟨e, e41⟩
      · rw [e, e41, nI_eq (by decide) (by omega)]
        exact ⟨fun y => by omega, fun y => absurd y (z_oi_n (by omega))⟩
      · rw [e, nI_eq (by omega) (by omega), nI_eq (by omega) (by omega)]
        omega
    rw [h.a 10 15, e15]
    refine ⟨fun y => bad (fun z => z.2.1 y), fun n41 => ?_⟩
    cases eb : z_ba Z (Z 20 0) with
    | none =>
      exact ⟨fun _ => bad (fun y => by obtain ⟨_, _, b, e, _⟩ := y; rw [eb] at e; cases e), fun y => absurd (by decide) y⟩
    | some c =>
      have c4 := z_ba_lt hI.R4 eb
      refine ⟨fun y => ?_, fun _ => ⟨h.o 5, h.ix 5 c rfl (by show _ < 4; omega) ?_⟩⟩
      · have y : nI c < 0 := y
        have := nI_n0 (n := c) (by omega)
        rw [Int32.lt_iff_toInt_lt] at y
        rw [Int32.le_iff_toInt_le] at this
        omega
      · have r4 := hI.R4.1 c c4
        rw [h.a 5, hz.D c c4]
        refine pk_le (z_st Z t) (Z 24 c) (fun ge => ⟨h.i0 10 5, ?_⟩) (fun lt => bad (fun y => by
          obtain ⟨_, _, b, e, s, _⟩ := y
          rw [eb] at e
          have := Option.some.inj e
          subst this
          omega))
        show ∀ S307, S307 = sA S (aa 10) 5 (nI c + 1) → _
        rw [nI_1]
        refine h.wA 10 5 (c + 1) rfl (fun S1 h1 => ⟨h1.i0 10 6, ?_⟩)
        refine h1.wA 10 6 1 rfl (fun S2 h2 => ⟨h2.i0 10 7, ?_⟩)
        refine h2.wA 10 7 t rfl (fun S3 h3 => ⟨h3.i0 10 8, ?_⟩)
        refine h3.wA 10 8 p rfl (fun S4 h4 => ⟨h4.i0 10 9, ?_⟩)
        refine h4.wA 10 9 g rfl (fun S5 h5 => ⟨h5.i0 10 10, ?_⟩)
        refine h5.wA 10 10 0 rfl (fun S6 h6 => ⟨h6.i0 10 11, ?_⟩)
        refine h6.wA 10 11 0 rfl (fun S7 h7 => ⟨7, ?_⟩)
        refine lr_L338 (L := up (up (up (up (up (up (up L 10 5 (c + 1)) 10 6 1) 10 7 t) 10 8 p) 10 9 g) 10 10 0) 10 11 0) (fun S8 h8 => ?_) 7 0 S7 (by rw [zgk_0]; exact h7) (by decide) (by decide)
        have z8 := hz.ring (t := t) (p := p) (g := g) c4 eb
        have za := zRing_ag (Z := Z) (t := t) (p := p) (g := g)
        have cz := za.m (k := [3, 4, 5, 6, 7, 10, 11, 12]) rfl
        have zr : ∀ f, f ≠ 34 → zRing Z t p g f = up (up (up (up (up (up (up Z 26 0 (z_on (z_ba Z (Z 20 0)))) 27 0 1) 28 0 t) 29 0 p) 30 0 g) 31 0 0) 32 0 0 f := fun f hf => zRing_f hf
        have zz26 : zRing Z t p g 26 0 = c := by rw [zr 26 (by decide), eb]; rfl
        have zz27 : zRing Z t p g 27 0 = 1 := by rw [zr 27 (by decide)]; rfl
        have zz28 : zRing Z t p g 28 0 = t := by rw [zr 28 (by decide)]; rfl
        have zz29 : zRing Z t p g 29 0 = p := by rw [zr 29 (by decide)]; rfl
        have zz30 : zRing Z t p g 30 0 = g := by rw [zr 30 (by decide)]; rfl
        have zz31 : zRing Z t p g 31 0 = 0 := by rw [zr 31 (by decide)]; rfl
        have zz32 : zRing Z t p g 32 0 = 0 := by rw [zr 32 (by decide)]; rfl
        have hL := z_L_bd hI.M hx
        have hIr : IZ (zRing Z t p g) := hI.ch2 (lz := [26, 27, 28, 29, 30, 31, 32, 34]) za
          (kR := Or.inr ⟨by rw [za 24 (by decide)]; exact hI.R4.1, by rw [za 25 (by decide)]; exact hI.R4.2.1, Or.inr (by rw [zz26]; exact c4)⟩)
          (kw := Or.inr (fun e => by rw [zz27] at e; cases e))
          (kg := Or.inr ⟨by rw [zz27]; decide, fun _ => by
            rw [zz28, zz29, zz30, zz31, zz32, za 10 (by decide), z_day_congr (za 21 (by decide)) (za 22 (by decide)), za 20 (by decide), z_C_st cz, z_C_L cz, z_nw_congr (za 17 (by decide)) (za 18 (by decide))]
            exact ⟨ht, hm, hp, ⟨g1, g2⟩, by omega, by omega, fun b _ hb => ⟨hI.w off b (by omega), hI.w off (6 + b) (by omega)⟩⟩⟩)
          (kN := Or.inr ⟨by rw [za 35 (by decide)]; exact hI.n.1, by rw [za 33 (by decide)]; exact hI.n.2.1, fun b hb => by rw [zRing_34, if_pos hb]; decide, trivial⟩)
        have hnr : NB (zRing Z t p g) := fun _ b hb => by
          rw [zRing_34, if_pos hb]
          exact Nat.zero_le _
        refine j_ring hc ht hp g1 g2 off n41 ⟨c, eb, ge, hm⟩ (fun r C1 r1 => ?_)
        exact l_goOn h8 z8 hIr zz27 (fun N L' Z' S' h' go z' i' => pe (r1 N Z' go).2 ⟨Or.inr rfl, k _ _ ⟨L', Z', h', z', (r1 N Z' go).1, NB.go N hnr go⟩⟩)
theorem l_rings {a : Nat} {u v : Int32} (tt : TT E aa x S C) (k : ∀ S' C', TT E aa x S' C' → Q 1 S' C') :
    p_L_rings E x (nI a) u v (aa 0) (aa 1) (aa 2) (aa 3) (aa 4) (aa 5) (aa 6) (aa 7) (aa 8) (aa 9) (aa 10) S C Q X := by
  obtain ⟨L, Z, h, hz, hc, hn⟩ := tt
  have hI := hc.I
  have b27 := hI.g.1
  have g6 : L 10 6 = Z 27 0 := hz.R.1
  have g1 : L 10 1 = Z 10 0 := hz.T.1
  have b10 : Z 10 0 ≤ 4 := hz.T.2.1
  refine ⟨fun _ => lr_J398 h hz hc hn k, fun _ => ⟨h.o 10, h.i0 10 6, fun _ => lr_J398 h hz hc hn k, fun e6 => ⟨h.i0 10 1, ?_⟩⟩⟩
  rw [h.a 10 6, g6, ri_0 b27] at e6
  rw [h.a 10 1, g1, nI_1]
  refine l_low (n := Z 10 0 + 1) (by omega) (by omega) (fun t ht => ⟨h.o 10, h.i0 10 1, ?_⟩)
  rw [h.a 10 1, g1, nI_eq (by omega) (by omega)]
  refine ⟨fun ne => ?_, fun e => ?_⟩
  · have ht' : t < Z 10 0 := by omega
    have hx := hI.T.2 t ht'
    have hN := z_T_N hI.M hx
    have hn6 := ro_N6 hN
    have p4 : 2 ^ 4 ≤ 2 ^ z_st Z t := Nat.pow_le_pow_right (by decide) hn6.2
    refine l_stageIn h hz hI.M hI.T ht' ?_
    have J110 : ∀ p, p < 2 ^ z_st Z t → ∀ l : Int32, l = nI p → p_L_rings_J110 E Q X x u (aa 0) (aa 1) (aa 2) (aa 3) (aa 4) (aa 5) (aa 8) (aa 9) (aa 10) (nI t) (nI (z_st Z t)) l S C := by
      intro p hp l el
      refine ⟨fun _ => lr_J138 (g := 200) h hz hc hn e6 ht' hp (by decide) (by decide) rfl el rfl k, fun _ => l_low (n := 901) (by decide) (by decide) (fun j hj => ?_)⟩
      exact lr_J138 (g := 100 + j) h hz hc hn e6 ht' hp (by omega) (by omega) rfl el (nI_add 100 j) k
    refine ⟨fun _ => ⟨fun _ => J110 3 (by omega) 3 rfl, fun _ => l_low (n := z_st Z t) (by omega) (by omega) (fun j hj => J110 (2 ^ j) (Nat.pow_lt_pow_right (by decide) hj) _ (ri_2n (by omega)))⟩, fun _ => J110 0 (Nat.pow_pos (by decide)) 0 rfl⟩
  · exact j_ring0 hc (ne_i (by omega) (by omega)) (py (j_stand_s hc e6 (py ⟨Or.inr rfl, k _ _ ⟨L, Z, h, hz, hc, hn⟩⟩)))
end LRI
