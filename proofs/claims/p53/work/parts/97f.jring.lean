/-! the ringing's rows, told by Z alone -/
def z_on2 (Z : zZ) : Prop := Z 27 0 = 1 ∧ z_rd Z (z_L Z (Z 28 0)) = true
def z_go : Nat → zZ → zZ → Prop
  | 0, Z, Z' => ¬ z_on2 Z ∧ z_eq Z Z'
  | N + 1, Z, Z' => (¬ z_on2 Z ∧ z_eq Z Z') ∨ (z_on2 Z ∧ ∃ W, z_rowR Z (z_f Z (Z 28 0) (Z 31 0)) (z_st Z (Z 28 0)) (z_L Z (Z 28 0)) W ∧ z_go N W Z')
theorem z_on2_eq {Z Z' : zZ} (h : z_eq Z Z') : z_on2 Z' ↔ z_on2 Z := by
  unfold z_on2
  rw [z_eq_rd h, z_C_L h.C, h.1 28 (by decide), h.2.2.2.1.1]
theorem z_go_eq : ∀ (N : Nat) {W W' Z' : zZ}, IZ W → z_eq W W' → z_go N W' Z' → z_go N W Z'
  | 0, W, W', Z', hI, he, h => ⟨fun y => h.1 ((z_on2_eq he).mpr y), he.trans h.2⟩
  | N + 1, W, W', Z', hI, he, h => by
    rcases h with h | ⟨h1, W1', h2, h3⟩
    · exact Or.inl ⟨fun y => h.1 ((z_on2_eq he).mpr y), he.trans h.2⟩
    · have on := (z_on2_eq he).mp h1
      refine Or.inr ⟨on, ?_⟩
      obtain ⟨W1, hW1⟩ := z_row_ex (row := z_f W (W 28 0) (W 31 0)) hI on.1 rfl rfl
      rw [z_C_f he.C, z_C_st he.C, z_C_L he.C, he.1 28 (by decide), he.1 31 (by decide)] at h2
      have g := hI.g.2 on.1
      have n6 := (ro_N6 (z_T_N hI.M (hI.T.2 _ g.1))).1
      have e1 := z_eq_row hI.M hI.T hI.P hI.d hI.nd n6 he hW1 h2
      exact ⟨W1, hW1, z_go_eq N (z_row_I hI on.1 rfl rfl hW1) e1 h3⟩
def zGo (V' : vV) (Z : zZ) : Prop := ∀ N Z', z_go N Z Z' → RV V' Z' ∧ IZ Z' ∧ V' 701 0 0 = Z' 31 0
theorem zGo_stop {V : vV} {Z : zZ} (hV : RV V Z) (hI : IZ Z) (e1 : V 701 0 0 = Z 31 0) (e2 : Z 31 0 ≤ 240) (hr : Z 27 0 = 1 → z_rd Z (z_L Z (Z 28 0)) = false) : zGo V Z := by
  have no : ¬ z_on2 Z := fun y => by
    have := hr y.1
    rw [y.2] at this
    cases this
  have fin : ∀ Z', z_eq Z Z' → RV V Z' ∧ IZ Z' ∧ V 701 0 0 = Z' 31 0 := fun Z' he => ⟨hV.eq he, hI.eq he, by rw [he.1 31 (by decide)]; exact e1⟩
  intro N Z' h
  match N, h with
  | 0, h => exact fin Z' h.2
  | N + 1, h =>
    rcases h with h | h
    · exact fin Z' h.2
    · exact absurd h.1 no
theorem zGo_step {V' : vV} {Z W : zZ} (hI : IZ Z) (on : Z 27 0 = 1) (hr : z_rd Z (z_L Z (Z 28 0)) = true) (hW : z_rowR Z (z_f Z (Z 28 0) (Z 31 0)) (z_st Z (Z 28 0)) (z_L Z (Z 28 0)) W) (k : zGo V' W) : zGo V' Z := by
  intro N Z' h
  match N, h with
  | 0, h => exact absurd ⟨on, hr⟩ h.1
  | N + 1, h =>
    rcases h with h | ⟨_, W1, h2, h3⟩
    · exact absurd ⟨on, hr⟩ h.1
    · have g := hI.g.2 on
      have n6 := (ro_N6 (z_T_N hI.M (hI.T.2 _ g.1))).1
      exact k N Z' (z_go_eq N (z_row_I hI on rfl rfl hW) (z_eq_row hI.M hI.T hI.P hI.d hI.nd n6 (z_eq.refl Z) hW h2) h3)
theorem RZ.mk7 {E : zE} {x : Nat} {ad la : Nat → Nat → Nat} {V' : vV} {Z' : zZ} {S : zS} {M T : Nat} (hC : RC E ad la (sd M T 1) V' S) (hx : ad 10 0 = x) (hV : RV V' Z') (hI : IZ Z') (e3 : Z' 3 0 = M) (e10 : Z' 10 0 + 2 = T) : RZ E x Z' S := by
  rcases z_27 hI.g.1 with e | e
  · exact RZ.mk (hC.drop7 (hV.G.1.trans e)) hx hV hI e3 e10 e
  · exact RZ.mk hC hx hV hI e3 e10 e
theorem z_go_310 : ∀ (N : Nat) {Z Z' : zZ}, z_go N Z Z' → Z' 3 = Z 3 ∧ Z' 10 = Z 10
  | 0, Z, Z', h => ⟨h.2.1 3 (by decide), h.2.1 10 (by decide)⟩
  | N + 1, Z, Z', h => by
    rcases h with h | ⟨_, W, h2, h3⟩
    · exact ⟨h.2.1 3 (by decide), h.2.1 10 (by decide)⟩
    · have e := z_go_310 N h3
      have w : ∀ f, f ∈ [3, 10] → W f = Z f := fun f hf => by
        obtain ⟨Z3, lo, r⟩ := h2
        have k3 : Z3 f = Z f := (z_lo_f lo f (fun e => by
          simp only [List.mem_cons, List.not_mem_nil, or_false] at hf e
          omega)).trans (z_2_f (fun e => by
          simp only [List.mem_cons, List.not_mem_nil, or_false] at hf e
          omega))
        rcases r with ⟨_, a, _⟩ | ⟨_, _, a, _⟩ | ⟨_, _, a⟩
        · rw [a f (fun e => by
            simp only [List.mem_cons, List.not_mem_nil, or_false] at hf e
            omega)]
          exact k3
        · rw [a f (fun e => by
            simp only [List.mem_cons, List.not_mem_nil, or_false] at hf e
            omega)]
          exact k3
        · rw [a f (fun e => by
            simp only [List.mem_cons, List.not_mem_nil, or_false] at hf
            omega) (fun e => by
            simp only [List.mem_cons, List.not_mem_nil, or_false] at hf
            omega)]
          exact k3
      exact ⟨e.1.trans (w 3 (by decide)), e.2.trans (w 10 (by decide))⟩
section LP2
variable {E : zE} {ad la : Nat → Nat → Nat} {M T R : Nat} {V : vV} {Z : zZ} {S : zS} {X : String → zS → Prop}
theorem c_loop2 {C : zS → Prop} {Q : zS → Prop} :
    ∀ (w j : Nat) (V : vV) (Z : zZ) (S : zS), RC E ad la (sd M T 1) V S → Z 10 0 + 2 = T → RV V Z → IZ Z → V 701 0 0 = Z 31 0 → Z 31 0 ≤ 240 → j ≤ Z 31 0 → 240 < j + w → (∀ V' S', RC E ad la (sd M T 1) V' S' → zGo V' Z → C S') → p_X10_doReadyRows_L2 E C C Q X w (ad 10 0) (nI j) S
  | 0, j, V, Z, S, h, eT, hV, hI, e7, e31, h1, h2, k => by omega
  | w + 1, j, V, Z, S, h, eT, hV, hI, e7, e31, h1, h2, k => by
    have hI0 := hI
    obtain ⟨⟨hM, hT, hB, hP, hR4, h20⟩, f1, f2, f3, f4, f5⟩ := hI
    have m10 := hV.2.2.2.2.2.2.2.2.2.1
    have noton : ¬ Z 27 0 = 1 → C S := fun hn => k V S h (zGo_stop hV hI0 e7 e31 (fun x => absurd x hn))
    refine pk_le 240 j (fun h3 => noton (fun on => ?_)) (fun h3 => ⟨h.o 10 0 Nat.zero_lt_one, ?_⟩)
    · obtain ⟨g1, g2, g3, g4, g5, g6, g7⟩ := f4.2 on
      have hL := z_L_bd hM (hT.2 _ g1)
      omega
    · refine h.r9 Nat.zero_lt_one (fun e => noton (by rw [← m10.1, e]; decide)) (fun e hR => ⟨h.o 7 0 hR, ?_⟩)
      have on : Z 27 0 = 1 := by rw [← m10.1]; exact e
      obtain ⟨g1, g2, g3, g4, g5, g6, g7⟩ := f4.2 on
      have hTt := hT.2 _ g1
      have hL := z_L_bd hM hTt
      have sl : v_SL T V Z := hV.2.2.1.sl eT
      have vB := hV.2.2.2.2.2.2.1
      have G : G_on V Z (Z 28 0) (z_st Z (Z 28 0)) := ⟨m10, on, rfl, g1, rfl, g3⟩
      refine c_ready h hR G hM hT sl vB f5.2.2.1 (by omega) (zb_d (fun hr => ⟨h.o 7 0 hR, ?_⟩) (fun hr => k V S h (zGo_stop hV hI0 e7 e31 (fun _ => hr))))
      obtain ⟨W, hW⟩ := z_row_ex (row := z_f Z (Z 28 0) (Z 31 0)) hI0 on rfl rfl
      have hIW := z_row_I hI0 on rfl rfl hW
      have w31 := z_row_31 hW
      have w10 : W 10 = Z 10 := by
        obtain ⟨Z3, lo, r⟩ := hW
        have k3 : Z3 10 = Z 10 := (z_lo_f lo 10 (by decide)).trans (z_2_f (by decide))
        rcases r with ⟨_, a, _⟩ | ⟨_, _, a, _⟩ | ⟨_, _, a⟩
        · rw [a 10 (by decide)]
          exact k3
        · rw [a 10 (by decide)]
          exact k3
        · rw [a 10 (by decide) (by decide)]
          exact k3
      have next : ∀ V1 S1, RC E ad la (sd M T 1) V1 S1 → RV V1 (z_2 Z (z_f Z (Z 28 0) (Z 31 0)) (z_st Z (Z 28 0))) → p_X10_doReadyRows_J43 E (fun (a0 : Nat) (l1 : Int32) (S : zS) => p_X10_doReadyRows_L2 E C C Q X w a0 l1 S) Q X (ad 10 0) (nI j) (ad 7 0) S1 := by
        intro V1 S1 k1 hV1
        refine c_J43 k1 hR eT hV1 hI0 on rfl rfl rfl (fun V2 S2 k2 e72 hV2 => ?_)
        rw [nI_1]
        exact c_loop2 w (j + 1) V2 W S2 k2 (by rw [w10]; exact eT) (hV2 W hW) hIW (by rw [w31]; exact e72) (by omega) (by omega) (by omega) (fun V' S' k' hF => k V' S' k' (zGo_step hI0 on hr hW hF))
      refine c_row h G hR hM hT sl vB g5 rfl (z_at_lt hM hT f4 f5 on rfl rfl) (fun V1 S1 k1 a1 a7 a5 => ?_)
      have e11 : nI (V 1011 0 0) = nI (Z 39 0) := hV.2.2.2.2.2.2.2.2.2.2.2.1
      have v11 : V1 1011 = V 1011 := a1 1011 (by decide) (by decide)
      refine zb_c (fun ew => next V1 S1 k1 (hV.r2 (t := Z 28 0) on (fun f h1 h2 _ => a1 f h1 h2) a7 a5 ?_)) (fun ew => ⟨k1.o 10 0 Nat.zero_lt_one, k1.uI 1011 10 0 (V 1011 0 0 + 1) Nat.zero_lt_one ?_ (fun S2 k2 => next _ S2 k2 (hV.r2 (t := Z 28 0) on (fun f h1 h2 h3 => by rw [u3_f h3]; exact a1 f h1 h2) ?_ ?_ ?_))⟩)
      · rw [v11, ew, if_neg (by decide)]
        exact e11
      · rw [k1.gi 1011 10 0 Nat.zero_lt_one, v11, nI_1]
      · rw [u3_f (by decide)]
        exact a7
      · rw [u3_f (by decide)]
        exact a5
      · rw [u3_s, ew, if_pos rfl, ← nI_1, ← nI_1, e11]
end LP2
section JR
variable {E : zE} {x : Nat} {Z : zZ} {S : zS} {Q : Int32 → zS → Prop}
theorem j_ring0 {l l2 l3 : Int32} (h : RZ E x Z S) (hn : ∀ t, t < Z 10 0 → l ≠ nI t) (k : Q (-7100) S) : p_L_ring E x l l2 l3 S Q := by
  obtain ⟨ad, la, V, ⟨hC, rfl⟩, hV, hI⟩ := h
  exact ⟨hC.o 10 0 z1, hC.o 10 0 z1, c_tou0 hC hV hn (Or.inl ⟨rfl, k⟩)⟩
theorem j_ring_p {t : Nat} {l l3 : Int32} (h : RZ E x Z S) (ht : t < Z 10 0) (hn : ∀ j, 0 ≤ j → j ≤ 2 ^ z_st Z t - 1 → l ≠ nI j) (k : Q (-7200) S) : p_L_ring E x (nI t) l l3 S Q := by
  obtain ⟨ad, la, V, ⟨hC, rfl⟩, hV, hI⟩ := h
  have w := hV.T.2 t ht
  have hN := z_T_N hI.M (hI.T.2 t ht)
  have hn6 := ro_N6 hN
  have p6 := z_pow6 hN
  have p0 : 0 < 2 ^ z_st Z t := Nat.pow_pos (by decide)
  refine ⟨hC.o 10 0 z1, hC.o 10 0 z1, c_tou1 hC hV hI ht ⟨_, rfl, hC.o 9 _ w.1, ?_⟩⟩
  rw [hC.gi 901 9 _ w.1, w.2.2.1, ri_2n hn6.1, show (nI (2 ^ z_st Z t) - 1 : Int32) = nI (2 ^ z_st Z t - 1) from pk_sub (b := 1) (by omega)]
  exact c_rqR0 (lo := 0) (by omega) (by decide) hn (Or.inr (Or.inl ⟨rfl, k⟩))
theorem j_ring_g {t p : Nat} {l : Int32} (h : RZ E x Z S) (ht : t < Z 10 0) (hp : p < 2 ^ z_st Z t) (hn : ∀ j, 100 ≤ j → j ≤ 1000 → l ≠ nI j) (k : Q (-7200) S) : p_L_ring E x (nI t) (nI p) l S Q := by
  obtain ⟨ad, la, V, ⟨hC, rfl⟩, hV, hI⟩ := h
  have w := hV.T.2 t ht
  have hN := z_T_N hI.M (hI.T.2 t ht)
  have hn6 := ro_N6 hN
  have p6 := z_pow6 hN
  refine ⟨hC.o 10 0 z1, hC.o 10 0 z1, c_tou1 hC hV hI ht ⟨_, rfl, hC.o 9 _ w.1, ?_⟩⟩
  rw [hC.gi 901 9 _ w.1, w.2.2.1, ri_2n hn6.1, show (nI (2 ^ z_st Z t) - 1 : Int32) = nI (2 ^ z_st Z t - 1) from pk_sub (b := 1) (by omega)]
  exact c_rqR1 (lo := 0) (by omega) (Nat.zero_le _) (by omega) (c_rqR0 (lo := 100) (hi := 1000) (by decide) (by decide) hn (Or.inr (Or.inl ⟨rfl, k⟩)))
theorem j_ring_s {t p g : Nat} (h : RZ E x Z S) (ht : t < Z 10 0) (hp : p < 2 ^ z_st Z t) (hg1 : 100 ≤ g) (hg2 : g ≤ 1000) (no : ¬ (Z 27 0 = 0 ∧ nI t ≠ nI (Z 41 0) ∧ ∃ b, z_ba Z (Z 20 0) = some b ∧ z_st Z t ≤ Z 24 b ∧ t ∈ z_day Z (Z 20 0))) (k : Q (-7300) S) : p_L_ring E x (nI t) (nI p) (nI g) S Q := by
  obtain ⟨ad, la, V, ⟨hC, rfl⟩, hV, hI⟩ := h
  have hd := hI.d
  have w := hV.T.2 t ht
  have hN := z_T_N hI.M (hI.T.2 t ht)
  have hn6 := ro_N6 hN
  have p6 := z_pow6 hN
  refine ⟨hC.o 10 0 z1, hC.o 10 0 z1, c_tou1 hC hV hI ht ⟨_, rfl, hC.o 9 _ w.1, ?_⟩⟩
  rw [hC.gi 901 9 _ w.1, w.2.2.1, ri_2n hn6.1, show (nI (2 ^ z_st Z t) - 1 : Int32) = nI (2 ^ z_st Z t - 1) from pk_sub (b := 1) (by omega)]
  refine c_rqR1 (lo := 0) (by omega) (Nat.zero_le _) (by omega) (c_rqR1 (lo := 100) (hi := 1000) (by decide) hg1 hg2 ⟨hC.o 10 0 z1, c_sil hC (fun ev => ⟨hC.o 10 0 z1, ?_⟩) (fun ev => Or.inr (Or.inr ⟨rfl, k⟩))⟩)
  have z27 : Z 27 0 = 0 := hV.G.1.symm.trans ev
  rw [hC.gi 1013 10 0 z1, hV.S.2.2.2]
  refine ⟨fun c => Or.inr (Or.inr ⟨rfl, k⟩), fun c41 => hC.sg 1008 8 z1 ?_⟩
  exact c_canRing hC hI.M hI.P hI.T hI.R4 hV.R hV.Y (hV.T.sl rfl) hV.J.1 hd ht (fun b eb st td => absurd ⟨z27, c41, b, eb, st, td⟩ no) (fun _ => ⟨fun x => absurd rfl x, fun _ => Or.inr (Or.inr ⟨rfl, k⟩)⟩)
theorem j_ring {t p g : Nat} (h : RZ E x Z S) (ht : t < Z 10 0) (hp' : p < 2 ^ z_st Z t) (hg1 : 100 ≤ g) (hg2 : g ≤ 1000) (z27 : Z 27 0 = 0) (h41 : nI t ≠ nI (Z 41 0)) (ok : ∃ b, z_ba Z (Z 20 0) = some b ∧ z_st Z t ≤ Z 24 b ∧ t ∈ z_day Z (Z 20 0))
    (k : ∀ r S', (∀ N Z', z_go N (zRing Z t p g) Z' → RZ E x Z' S' ∧ r = nI (Z' 31 0)) → Q r S') : p_L_ring E x (nI t) (nI p) (nI g) S Q := by
  obtain ⟨ad, la, V, ⟨hC, rfl⟩, hV, hI⟩ := h
  have hd := hI.d
  have w := hV.T.2 t ht
  have zt := hI.T.2 t ht
  have hN := z_T_N hI.M zt
  have hn6 := ro_N6 hN
  have p6 := z_pow6 hN
  have hL := z_L_bd hI.M zt
  have hG := hV.G.1
  refine ⟨hC.o 10 0 z1, hC.o 10 0 z1, c_tou1 hC hV hI ht ⟨_, rfl, hC.o 9 _ w.1, ?_⟩⟩
  rw [hC.gi 901 9 _ w.1, w.2.2.1, ri_2n hn6.1, show (nI (2 ^ z_st Z t) - 1 : Int32) = nI (2 ^ z_st Z t - 1) from pk_sub (b := 1) (by omega)]
  refine c_rqR1 (lo := 0) (by omega) (Nat.zero_le _) (by omega) (c_rqR1 (lo := 100) (hi := 1000) (by decide) hg1 hg2 ⟨hC.o 10 0 z1, c_sil hC (fun ev => ⟨hC.o 10 0 z1, ?_⟩) (fun ev => by omega)⟩)
  rw [hC.gi 1013 10 0 z1, hV.S.2.2.2]
  refine ⟨fun c => absurd c h41, fun c41 => hC.sg 1008 8 z1 ?_⟩
  refine c_canRing hC hI.M hI.P hI.T hI.R4 hV.R hV.Y (hV.T.sl rfl) hV.J.1 hd ht (fun b eb st td => ⟨fun _ => ⟨hC.o 10 0 z1, hC.sg 1008 8 z1 ?_⟩, fun x => absurd x (by decide)⟩) (fun no => absurd ok no)
  refine c_keepBand hC hI.M hI.P hI.T hI.R4 hV.R hV.Y (hV.T.sl rfl) hd (fun S1 g1 => ⟨g1.o 10 0 z1, g1.sg 1007 1 z1 (c_forget g1 (fun V2 S2 g2 a2 b2 => ?_))⟩)
  rw [z27] at g2
  refine c_newRing (P := fun q27 S40 => p_X10_doReadyRows E (ad 10 0) S40 (fun (S42 : zS) => (q27 ∈ gL S42 ∧ gK S42 q27 = 7) ∧ Q (gI S42 701 q27) S42) (fun _ _ => False)) g2 w.1 rfl rfl (fun ad' q S3 g3 eq ea => ?_)
  -- what the class holds now
  have hb := z_ba_lt hI.R4 eb
  have ea10 : ad' 10 0 = ad 10 0 := ea
  have vf : ∀ f, f ≠ 700 → f ≠ 701 → f ≠ 702 → f ≠ 704 → f ≠ 705 → f ≠ 1009 → u3 (u3 (u3 (u3 (vz V2 7 0) 700 0 0 (V 3003 0 t)) 704 0 0 p) 705 0 0 g) 1009 0 0 1 f = V2 f := fun f q0 q1 q2 q3 q4 q5 => by
    rw [u3_f q5, u3_f q4, u3_f q3, u3_f q0]
    by_cases e : f ∈ cI
    · have : ∀ f, f ∈ cI → f ≠ 701 → f ≠ 702 → f ≠ 704 → f ≠ 705 → f / 100 ≠ 7 := by decide +kernel
      exact vz_c (this f e q1 q2 q3 q4)
    · exact vz_no e
  have v7 : u3 (u3 (u3 (u3 (vz V2 7 0) 700 0 0 (V 3003 0 t)) 704 0 0 p) 705 0 0 g) 1009 0 0 1 700 0 0 = V 3003 0 t ∧ u3 (u3 (u3 (u3 (vz V2 7 0) 700 0 0 (V 3003 0 t)) 704 0 0 p) 705 0 0 g) 1009 0 0 1 701 0 0 = 0 ∧ u3 (u3 (u3 (u3 (vz V2 7 0) 700 0 0 (V 3003 0 t)) 704 0 0 p) 705 0 0 g) 1009 0 0 1 702 0 0 = 0 ∧ u3 (u3 (u3 (u3 (vz V2 7 0) 700 0 0 (V 3003 0 t)) 704 0 0 p) 705 0 0 g) 1009 0 0 1 704 0 0 = p ∧ u3 (u3 (u3 (u3 (vz V2 7 0) 700 0 0 (V 3003 0 t)) 704 0 0 p) 705 0 0 g) 1009 0 0 1 705 0 0 = g ∧ u3 (u3 (u3 (u3 (vz V2 7 0) 700 0 0 (V 3003 0 t)) 704 0 0 p) 705 0 0 g) 1009 0 0 1 1009 0 0 = 1 := by
    refine ⟨?_, ?_, ?_, ?_, ?_, u3_s _ _ _ _ _⟩
    · rw [u3_f (by decide), u3_f (by decide), u3_f (by decide), u3_s]
    · rw [u3_f (by decide), u3_f (by decide), u3_f (by decide), u3_f (by decide)]
      exact if_pos ⟨rfl, rfl, rfl, by decide⟩
    · rw [u3_f (by decide), u3_f (by decide), u3_f (by decide), u3_f (by decide)]
      exact if_pos ⟨rfl, rfl, rfl, by decide⟩
    · rw [u3_f (by decide), u3_f (by decide), u3_s]
    · rw [u3_f (by decide), u3_s]
  generalize u3 (u3 (u3 (u3 (vz V2 7 0) 700 0 0 (V 3003 0 t)) 704 0 0 p) 705 0 0 g) 1009 0 0 1 = V3 at *
  obtain ⟨w0, w1, w2, w4, w5, w9⟩ := v7
  have va : agV [805, 204, 700, 701, 702, 704, 705, 1009] V V3 := fun f hf => by
    have mm : f ≠ 805 ∧ f ≠ 204 ∧ f ≠ 700 ∧ f ≠ 701 ∧ f ≠ 702 ∧ f ≠ 704 ∧ f ≠ 705 ∧ f ≠ 1009 := by
      simp only [List.mem_cons, List.not_mem_nil, or_false] at hf
      omega
    rw [vf f mm.2.2.1 mm.2.2.2.1 mm.2.2.2.2.1 mm.2.2.2.2.2.1 mm.2.2.2.2.2.2.1 mm.2.2.2.2.2.2.2, a2 f mm.2.1, u3_f mm.1]
  have v805 : V3 805 0 0 = z_on (z_ba Z (Z 20 0)) := by
    rw [vf 805 (by decide) (by decide) (by decide) (by decide) (by decide) (by decide), a2 805 (by decide), u3_s]
  have v204 : ∀ b, b < 6 → V3 204 b 0 = 0 := fun b hb => by
    rw [vf 204 (by decide) (by decide) (by decide) (by decide) (by decide) (by decide)]
    exact b2 b hb
  have za := zRing_ag (Z := Z) (t := t) (p := p) (g := g)
  have zr := fun f (h : f ≠ 34) => zRing_f (Z := Z) (t := t) (p := p) (g := g) h
  have z26 : zRing Z t p g 26 0 = z_on (z_ba Z (Z 20 0)) := by rw [zr 26 (by decide)]; rfl
  have zz27 : zRing Z t p g 27 0 = 1 := by rw [zr 27 (by decide)]; rfl
  have zz28 : zRing Z t p g 28 0 = t := by rw [zr 28 (by decide)]; rfl
  have zz29 : zRing Z t p g 29 0 = p := by rw [zr 29 (by decide)]; rfl
  have zz30 : zRing Z t p g 30 0 = g := by rw [zr 30 (by decide)]; rfl
  have zz31 : zRing Z t p g 31 0 = 0 := by rw [zr 31 (by decide)]; rfl
  have zz32 : zRing Z t p g 32 0 = 0 := by rw [zr 32 (by decide)]; rfl
  have c := za.m (k := [3, 4, 5, 6, 7, 10, 11, 12]) rfl
  have hR := hV.R
  have hVr : RV V3 (zRing Z t p g) := hV.ch (lv := [805, 204, 700, 701, 702, 704, 705, 1009]) (lz := [26, 27, 28, 29, 30, 31, 32, 34]) va za
    (kB := Or.inr (fun b hb => by
      have w := hV.B b hb
      rw [va 200 (by decide), va 201 (by decide), va 202 (by decide), va 203 (by decide), va 205 (by decide), va 206 (by decide), va 207 (by decide), za 17 (by decide), za 18 (by decide), za 19 (by decide), za 35 (by decide), za 36 (by decide), za 37 (by decide), za 38 (by decide), v204 b hb, zRing_34, if_pos hb]
      exact ⟨w.1, w.2.1, w.2.2.1, w.2.2.2.1, rfl, w.2.2.2.2.2⟩))
    (kR := Or.inr ⟨by rw [va 800 (by decide), za 24 (by decide)]; exact hR.1, by rw [va 802 (by decide), za 20 (by decide)]; exact hR.2.1, by rw [va 803 (by decide), za 23 (by decide)]; exact hR.2.2.1, by rw [va 804 (by decide), za 25 (by decide)]; exact hR.2.2.2.1, by rw [v805, z26]⟩)
    (kG := Or.inr ⟨by rw [w9, zz27], fun _ => ⟨by rw [w0, va 3003 (by decide), zz28], by rw [w1, zz31], by rw [w2, zz32], by rw [w4, zz29], by rw [w5, zz30]⟩⟩)
  have hIr : IZ (zRing Z t p g) := hI.ch2 (lz := [26, 27, 28, 29, 30, 31, 32, 34]) za
    (kR := Or.inr ⟨by rw [za 24 (by decide)]; exact hI.R4.1, by rw [za 25 (by decide)]; exact hI.R4.2.1, Or.inr (by rw [z26, eb]; exact hb)⟩)
    (kw := Or.inr (fun e => by rw [zz27] at e; cases e))
    (kg := Or.inr ⟨by rw [zz27]; decide, fun _ => by
      rw [zz28, zz29, zz30, zz31, zz32, za 10 (by decide), z_day_congr (za 21 (by decide)) (za 22 (by decide)), za 20 (by decide), z_C_st c, z_C_L c, z_nw_congr (za 17 (by decide)) (za 18 (by decide))]
      exact ⟨ht, td, hp', ⟨hg1, hg2⟩, by omega, by omega, fun b _ hb => ⟨hI.w z27 b (by omega), hI.w z27 (6 + b) (by omega)⟩⟩⟩)
    (kN := Or.inr ⟨by rw [za 35 (by decide)]; exact hI.n.1, by rw [za 33 (by decide)]; exact hI.n.2.1, fun b hb => by rw [zRing_34, if_pos hb]; decide, trivial⟩)
  rw [← ea]
  refine ⟨242, c_loop2 242 0 V3 (zRing Z t p g) S3 g3 (by rw [za 10 (by decide)]) hVr hIr (by rw [w1, zz31]) (by rw [zz31]; decide) (by omega) (by omega) (fun V4 S4 g4 hz => ?_)⟩
  rw [← eq]
  refine ⟨g4.o 7 0 z1, ?_⟩
  rw [g4.gi 701 7 0 z1]
  refine k _ _ (fun N Z' hg => ?_)
  obtain ⟨hV', hI', e7⟩ := hz N Z' hg
  have e310 := z_go_310 N hg
  exact ⟨RZ.mk7 g4 ea10 hV' hI' (by rw [e310.1, za 3 (by decide)]) (by rw [e310.2, za 10 (by decide)]), by rw [e7]⟩
end JR
