/-! pull -/
theorem nI_w0 (v : Int32) : ∃ n, n < 2 ^ 32 ∧ v = nI n := ⟨v.toBitVec.toNat, v.toBitVec.isLt, by
  apply Int32.toBitVec_inj.mp
  unfold nI
  simp⟩
section JP
variable {E : zE} {x : Nat} {Z : zZ} {S : zS} {Q : Int32 → zS → Prop}
theorem j_pull0 {l l2 : Int32} (h : RZ E x Z S) (hn : ∀ b, b < 6 → l ≠ nI b) (k : Q (-7100) S) : p_L_pull E x l l2 S Q := by
  obtain ⟨ad, la, V, ⟨hC, rfl⟩, hV, hI⟩ := h
  exact ⟨hC.o 10 0 z1, hC.o 10 0 z1, c_bel0 hC hn (Or.inl ⟨rfl, k⟩)⟩
theorem j_pull_r {b : Nat} {l : Int32} (h : RZ E x Z S) (hb : b < 6) (hn : ∀ j, 0 ≤ j → j ≤ 2000000000 → l ≠ nI j) (k : Q (-7200) S) : p_L_pull E x (nI b) l S Q := by
  obtain ⟨ad, la, V, ⟨hC, rfl⟩, hV, hI⟩ := h
  exact ⟨hC.o 10 0 z1, hC.o 10 0 z1, c_bel1 hC hb (c_rqR0 (lo := 0) (hi := 2000000000) (by decide) (by decide) hn (Or.inr (Or.inl ⟨rfl, k⟩)))⟩
theorem j_pull {b t : Nat} (h : RZ E x Z S) (hb : b < 6) (ht : t ≤ 2000000000)
    (kN : ¬ (Z 27 0 = 1 ∧ z_pp Z b = true ∧ Z 34 b < z_L Z (Z 28 0)) → Q (-7300) S)
    (kB : ∀ p0 ne : Nat, Z 27 0 = 1 → z_pp Z b = true → Z 34 b < z_L Z (Z 28 0) → p0 < z_st Z (Z 28 0) → ro_bl (z_f Z (Z 28 0) (Z 34 b)) p0 = b → (∀ q, q < p0 → ¬ ro_bl (z_f Z (Z 28 0) (Z 34 b)) q = b) → nI t - nI (z_du Z (Z 34 b) p0) = nI ne → ¬ (lg_cmp ((nI (Z 38 b)).toInt64 + (nI ne).toInt64) ((nI (Z 38 b)).toInt64 + (nI ne).toInt64).toInt32.toInt64 = 0 ∧ (t ≤ z_du Z (Z 34 b) p0 + Z 33 0 ∨ Z 32 0 + t ≤ 2000000000 + z_du Z (Z 34 b) p0 + Z 33 0)) → Q (-7300) S)
    (kY : ∀ p0 ne : Nat, Z 27 0 = 1 → z_pp Z b = true → Z 34 b < z_L Z (Z 28 0) → p0 < z_st Z (Z 28 0) → ro_bl (z_f Z (Z 28 0) (Z 34 b)) p0 = b → (∀ q, q < p0 → ¬ ro_bl (z_f Z (Z 28 0) (Z 34 b)) q = b) → nI t - nI (z_du Z (Z 34 b) p0) = nI ne → ne < 2 ^ 32 → lg_cmp ((nI (Z 38 b)).toInt64 + (nI ne).toInt64) ((nI (Z 38 b)).toInt64 + (nI ne).toInt64).toInt32.toInt64 = 0 → (t ≤ z_du Z (Z 34 b) p0 + Z 33 0 ∨ Z 32 0 + t ≤ 2000000000 + z_du Z (Z 34 b) p0 + Z 33 0) →
      ∀ S', (∀ N Z', z_go N (zPull Z b t ne (if t ≤ z_du Z (Z 34 b) p0 + Z 33 0 then Z 32 0 else Z 32 0 + (t - z_du Z (Z 34 b) p0 - Z 33 0)) (if nI ne ≤ nI (Z 30 0) / 4 then 0 else 1) (if -(nI (Z 30 0) / 4) ≤ nI ne then 0 else 1)) Z' → RZ E x Z' S') → Q (nI ne) S') : p_L_pull E x (nI b) (nI t) S Q := by
  obtain ⟨ad, la, V, ⟨hC, rfl⟩, hV, hI⟩ := h
  refine ⟨hC.o 10 0 z1, hC.o 10 0 z1, c_bel1 hC hb (c_rqR1 (lo := 0) (hi := 2000000000) (by decide) (Nat.zero_le _) ht ⟨hC.o 10 0 z1, ?_⟩)⟩
  refine ⟨hC.o 10 0 z1, c_r9 hC (fun ev => Or.inr (Or.inr ⟨rfl, kN (fun x => by have := hV.G.1; omega)⟩)) (fun ev h7 e9 => ⟨hC.o 7 0 h7, ?_⟩)⟩
  have on : Z 27 0 = 1 := hV.G.1.symm.trans ev
  have g := hI.g.2 on
  have zt := hI.T.2 _ g.1
  have hN := z_T_N hI.M zt
  have n6 := (ro_N6 hN).1
  have hL := z_L_bd hI.M zt
  have on' := hI.on on hV.G
  refine c_awaits hC h7 on' hI.M hI.T (hV.T.sl rfl) hV.B (hI.n.2.2.1 b hb) hb (zb_d (fun a => ?_) (fun a => Or.inr (Or.inr ⟨rfl, kN (fun x => ?_)⟩)))
  · rw [Bool.and_eq_true, decide_eq_true_eq] at a
    have hb2 : b < z_st Z (Z 28 0) := by
      rcases Nat.lt_or_ge b (z_st Z (Z 28 0)) with y | y
      · exact y
      · rw [z_pp_hi g.2.2.1 y] at a
        exact absurd a.1 (by decide)
    obtain ⟨p0, h0, h4, h5⟩ := ro_place hN (z_f_V hI.M zt a.2) hb2
    have r240 : Z 34 b < 240 := by omega
    have du : z_du Z (Z 34 b) p0 < 2 ^ 31 := by
      unfold z_du
      have a1 : z_st Z (Z 28 0) * Z 34 b ≤ 6 * 239 := Nat.mul_le_mul n6 (by omega)
      have a2 : Z 30 0 * (z_st Z (Z 28 0) * Z 34 b + p0 + Z 34 b / 2) ≤ 1000 * 1600 := Nat.mul_le_mul g.2.2.2.1.2 (by omega)
      have := g.2.2.2.2.2.1
      omega
    refine ⟨_, rfl, hC.o 7 0 h7, c_nextDue hC h7 on' hI.M hI.T (hV.T.sl rfl) hV.B a.2 hb h0 h4 h5 ⟨_, rfl, hC.o 2 b hb, hC.o 2 b hb, ?_⟩⟩
    generalize hd : z_du Z (Z 34 b) p0 = d at du ⊢
    obtain ⟨ne, ne32, en⟩ := nI_w0 (nI t - nI d)
    have w := hV.B b hb
    have n33 := hI.n.2.1
    have n32 := g.2.2.2.2.2.1
    have i30 := g.2.2.2.1
    rw [en, hC.gi 203 2 b hb, w.2.2.2.1]
    have bad : ¬ (lg_cmp ((nI (Z 38 b)).toInt64 + (nI ne).toInt64) ((nI (Z 38 b)).toInt64 + (nI ne).toInt64).toInt32.toInt64 = 0 ∧ (t ≤ d + Z 33 0 ∨ Z 32 0 + t ≤ 2000000000 + d + Z 33 0)) → Q (-7300) S := fun hh => by
      subst hd
      exact kB p0 ne on a.1 a.2 h0 h4 h5 en hh
    have le : nI ne ≤ nI (Z 33 0) ↔ t ≤ d + Z 33 0 := by
      rw [← en]
      exact pu_le (by omega) du (by omega)
    refine ⟨fun c => ⟨Or.inl rfl, fun _ => Or.inr (Or.inr ⟨rfl, bad (fun x => c x.1)⟩), fun x => absurd rfl x⟩, fun c => ⟨Or.inr rfl, fun x => absurd x (by decide), fun _ => ⟨hC.o 10 0 z1, hC.o 7 0 h7, ?_⟩⟩⟩
    rw [hC.gi 1010 10 0 z1, hV.S.1]
    -- it can be waited for
    have good : (t ≤ d + Z 33 0 ∨ Z 32 0 + t ≤ 2000000000 + d + Z 33 0) → p_X1_hearPull E (ad 2 b) (nI t) S (fun (S18 : zS) => (ad 7 0 ∈ gL S18 ∧ gK S18 (ad 7 0) = 7) ∧ p_X6_quarterGap E (ad 7 0) S18 (fun (r21 : Int32) (S20 : zS) => (ad 2 b ∈ gL S20 ∧ gK S20 (ad 2 b) = 2) ∧ p_X1_noteError E (ad 2 b) (nI ne) r21 S20 (fun (S22 : zS) => (ad 10 0 ∈ gL S22 ∧ gK S22 (ad 10 0) = 10) ∧ (ad 7 0 ∈ gL S22 ∧ gK S22 (ad 7 0) = 7) ∧ p_X6_waitFor E (ad 7 0) (nI ne) (gI S22 1010 (ad 10 0)) S22 (fun (S25 : zS) => (ad 10 0 ∈ gL S25 ∧ gK S25 (ad 10 0) = 10) ∧ p_X10_doReadyRows E (ad 10 0) S25 (fun (S27 : zS) => Q (nI ne) S27) (fun _ _ => False)) (fun _ _ => False)) (fun _ _ => False)) (fun _ _ => False)) (fun _ _ => False) := by
      intro y
      have v204 : V 204 b 0 = Z 34 b := w.2.2.2.2.1
      refine c_hearPull hC hb (by rw [v204]; exact r240) (fun S1 g1 => ⟨g1.o 7 0 h7, g1.o 7 0 h7, ?_⟩)
      rw [v204] at g1
      have e705 : gI S1 705 (ad 7 0) = nI (Z 30 0) := by
        rw [g1.gi 705 7 0 h7, u3_f (by decide), u3_f (by decide), u3_f (by decide), u3_f (by decide), (hV.G.2 on).2.2.2.2]
      rw [e705]
      refine ⟨g1.o 2 b hb, g1.o 2 b hb, g1.uI 203 2 b (V 203 b 0 + ne) hb ?_ (fun S2 g2 => ?_)⟩
      · rw [g1.gi 203 2 b hb, u3_f (by decide), u3_f (by decide), u3_f (by decide), u3_f (by decide), nI_add]
      -- the counts
      have cnt : ∀ (lt er : Nat) (S3 : zS), RC E ad la (sd (Z 3 0) (Z 10 0 + 2) (Z 27 0)) (u3 (u3 (u3 (u3 (u3 (u3 (u3 V 207 b (Z 34 b) t) 205 b 0 (V 205 b 0 + (1 + Z 34 b % 2))) 205 b 1 (V 205 b 1 + 1)) 204 b 0 (Z 34 b + 1)) 203 b 0 (V 203 b 0 + ne)) 201 b 0 (V 201 b 0 + lt)) 202 b 0 (V 202 b 0 + er)) S3 → lt = (if nI ne ≤ nI (Z 30 0) / 4 then 0 else 1) → er = (if -(nI (Z 30 0) / 4) ≤ nI ne then 0 else 1) → (ad 10 0 ∈ gL S3 ∧ gK S3 (ad 10 0) = 10) ∧ (ad 7 0 ∈ gL S3 ∧ gK S3 (ad 7 0) = 7) ∧ p_X6_waitFor E (ad 7 0) (nI ne) (gI S3 1010 (ad 10 0)) S3 (fun (S25 : zS) => (ad 10 0 ∈ gL S25 ∧ gK S25 (ad 10 0) = 10) ∧ p_X10_doReadyRows E (ad 10 0) S25 (fun (S27 : zS) => Q (nI ne) S27) (fun _ _ => False)) (fun _ _ => False) := by
        intro lt er S3 g3 elt eer
        have e1010 : gI S3 1010 (ad 10 0) = nI (Z 33 0) := by
          rw [g3.gi 1010 10 0 z1, u3_f (by decide), u3_f (by decide), u3_f (by decide), u3_f (by decide), u3_f (by decide), u3_f (by decide), u3_f (by decide), hV.S.1]
        have e702 : gI S3 702 (ad 7 0) = nI (Z 32 0) := by
          rw [g3.gi 702 7 0 h7, u3_f (by decide), u3_f (by decide), u3_f (by decide), u3_f (by decide), u3_f (by decide), u3_f (by decide), u3_f (by decide), (hV.G.2 on).2.2.1]
        rw [e1010]
        have fin : ∀ (dl : Nat) (S4 : zS), RC E ad la (sd (Z 3 0) (Z 10 0 + 2) (Z 27 0)) (vPull V b (Z 34 b) t ne dl lt er) S4 → dl = (if t ≤ d + Z 33 0 then Z 32 0 else Z 32 0 + (t - d - Z 33 0)) → dl ≤ 2000000000 → (ad 10 0 ∈ gL S4 ∧ gK S4 (ad 10 0) = 10) ∧ p_X10_doReadyRows E (ad 10 0) S4 (fun (S27 : zS) => Q (nI ne) S27) (fun _ _ => False) := by
          intro dl S4 g4 edl hdl
          rw [on] at g4
          have za := zPull_ag (Z := Z) (b := b) (t := t) (ne := ne) (dl := dl) (lt := lt) (er := er)
          have hVp : RV (vPull V b (Z 34 b) t ne dl lt er) (zPull Z b t ne dl lt er) := hV.pull hI hb rfl r240 on
          have hIp : IZ (zPull Z b t ne dl lt er) := hI.pull hb2 hb r240 on ht hdl
          have z31 : zPull Z b t ne dl lt er 31 0 = Z 31 0 := by rw [za 31 (by decide)]
          refine ⟨g4.o 10 0 z1, 242, c_loop2 242 0 _ (zPull Z b t ne dl lt er) S4 g4 (by rw [za 10 (by decide)]) hVp hIp ((hVp.G.2 (by rw [za 27 (by decide)]; exact on)).2.1) (by rw [z31]; have := g.2.2.2.2.1; omega) (by omega) (by omega) (fun V5 S5 g5 hz => ?_)⟩
          subst edl elt eer
          subst hd
          refine kY p0 ne on a.1 a.2 h0 h4 h5 en ne32 c y _ (fun N Z' hg => ?_)
          obtain ⟨hV', hI', e7⟩ := hz N Z' hg
          have e310 := z_go_310 N hg
          exact RZ.mk7 g5 rfl hV' hI' (by rw [e310.1, za 3 (by decide)]) (by rw [e310.2, za 10 (by decide)])
        refine ⟨g3.o 10 0 z1, g3.o 7 0 h7, fun c1 => ?_, fun c1 => ⟨g3.o 7 0 h7, ?_⟩⟩
        · have l := le.mp c1
          refine fin (Z 32 0) S3 ?_ (by rw [if_pos l]) n32
          unfold vPull
          rw [u3_id' (V := u3 (u3 (u3 (u3 (u3 (u3 (u3 V 207 b (Z 34 b) t) 205 b 0 (V 205 b 0 + (1 + Z 34 b % 2))) 205 b 1 (V 205 b 1 + 1)) 204 b 0 (Z 34 b + 1)) 203 b 0 (V 203 b 0 + ne)) 201 b 0 (V 201 b 0 + lt)) 202 b 0 (V 202 b 0 + er)) (by rw [u3_f (by decide), u3_f (by decide), u3_f (by decide), u3_f (by decide), u3_f (by decide), u3_f (by decide), u3_f (by decide), (hV.G.2 on).2.2.1])]
          exact g3
        · have nl : ¬ t ≤ d + Z 33 0 := fun x => c1 (le.mpr x)
          refine g3.uI 702 7 0 (Z 32 0 + (t - d - Z 33 0)) h7 ?_ (fun S4 g4 => fin _ S4 g4 (by rw [if_neg nl]) (by omega))
          rw [e702, ← en, pu_nd (by omega), nI_add]
      have q4 : (nI (Z 30 0) / 4 : Int32) = nI (Z 30 0 / 4) := pk_div (d := 4) (by omega) (by decide) (by decide)
      have v1 : ∀ (lt er : Nat), lt = 0 → u3 (u3 (u3 (u3 (u3 (u3 V 207 b (Z 34 b) t) 205 b 0 (V 205 b 0 + (1 + Z 34 b % 2))) 205 b 1 (V 205 b 1 + 1)) 204 b 0 (Z 34 b + 1)) 203 b 0 (V 203 b 0 + ne)) 201 b 0 (V 201 b 0 + lt) = u3 (u3 (u3 (u3 (u3 V 207 b (Z 34 b) t) 205 b 0 (V 205 b 0 + (1 + Z 34 b % 2))) 205 b 1 (V 205 b 1 + 1)) 204 b 0 (Z 34 b + 1)) 203 b 0 (V 203 b 0 + ne) := fun lt er e => by
        refine u3_id' ?_
        rw [u3_f (by decide), u3_f (by decide), u3_f (by decide), u3_f (by decide), u3_f (by decide), e]
        rfl
      refine ⟨fun c1 => ⟨fun c2 => ?_, fun c2 => ?_⟩, fun c1 => ?_⟩
      · refine cnt 0 0 S2 ?_ (by rw [if_pos c1]) (by rw [if_pos c2])
        rw [v1 0 0 rfl, u3_id' (by rw [u3_f (by decide), u3_f (by decide), u3_f (by decide), u3_f (by decide), u3_f (by decide)]; rfl)]
        exact g2
      · refine g2.uI 202 2 b (V 202 b 0 + 1) hb ?_ (fun S3 g3 => cnt 0 1 S3 ?_ (by rw [if_pos c1]) (by rw [if_neg c2]))
        · rw [g2.gi 202 2 b hb, u3_f (by decide), u3_f (by decide), u3_f (by decide), u3_f (by decide), u3_f (by decide), nI_1]
        · rw [v1 0 0 rfl]
          exact g3
      · have c2 : -(nI (Z 30 0) / 4) ≤ nI ne := by
          rw [q4] at c1 ⊢
          rw [Int32.le_iff_toInt_le, nI_toInt (n := Z 30 0 / 4) (by omega)] at c1
          rw [Int32.le_iff_toInt_le, Int32.toInt_neg, nI_toInt (n := Z 30 0 / 4) (by omega), Int.bmod_eq_of_le (by omega) (by omega)]
          omega
        refine g2.uI 201 2 b (V 201 b 0 + 1) hb ?_ (fun S3 g3 => cnt 1 0 S3 ?_ (by rw [if_neg c1]) (by rw [if_pos c2]))
        · rw [g2.gi 201 2 b hb, u3_f (by decide), u3_f (by decide), u3_f (by decide), u3_f (by decide), u3_f (by decide), nI_1]
        · rw [u3_id' (by rw [u3_f (by decide), u3_f (by decide), u3_f (by decide), u3_f (by decide), u3_f (by decide), u3_f (by decide)]; rfl)]
          exact g3
    refine ⟨fun c1 => ⟨Or.inr rfl, fun _ => ⟨hC.o 2 b hb, good (Or.inl (le.mp c1))⟩, fun x => absurd x (by decide)⟩, fun c1 => ⟨hC.o 7 0 h7, ?_⟩⟩
    have nl : ¬ t ≤ d + Z 33 0 := fun x => c1 (le.mpr x)
    have dl := pu_dl (t := t) (d := d) (p := Z 33 0) (l := Z 32 0) (by omega) n32 ht du (by omega)
    rw [en] at dl
    rw [hC.gi 702 7 0 h7, (hV.G.2 on).2.2.1, lg_gt0, dl, show (2000000000 : Int64).toInt = 2000000000 from by decide]
    exact ⟨fun c2 => ⟨Or.inl rfl, fun x => absurd rfl x, fun _ => Or.inr (Or.inr ⟨rfl, bad (fun x => by omega)⟩)⟩, fun c2 => ⟨Or.inr rfl, fun _ => ⟨hC.o 2 b hb, good (Or.inr (by omega))⟩, fun x => absurd x (by decide)⟩⟩
  · rw [x.2.1, decide_eq_true x.2.2] at a
    exact absurd a (by decide)
end JP
