/-! pull, the class -/
theorem u3_id (V : vV) (f i j : Nat) : u3 V f i j (V f i j) = V := by
  funext g a b
  unfold u3
  split
  · rename_i h
    rw [h.1, h.2.1, h.2.2]
  · rfl
theorem u3_id' {V : vV} {f i j v : Nat} (e : V f i j = v) : u3 V f i j v = V := by
  rw [← e]
  exact u3_id V f i j
section OPS
variable {E : zE} {x m : Nat}
/-- what the class holds after a pull -/
def vPull (V : vV) (b r t ne dl lt er : Nat) : vV := u3 (u3 (u3 (u3 (u3 (u3 (u3 (u3 V 207 b r t) 205 b 0 (V 205 b 0 + (1 + r % 2))) 205 b 1 (V 205 b 1 + 1)) 204 b 0 (r + 1)) 203 b 0 (V 203 b 0 + ne)) 201 b 0 (V 201 b 0 + lt)) 202 b 0 (V 202 b 0 + er)) 702 0 0 dl
theorem RV.pull {V : vV} {Z : zZ} {b r t ne dl lt er : Nat} (hV : RV V Z) (hI : IZ Z) (hb : b < 6) (hr : Z 34 b = r) (r240 : r < 240) (on : Z 27 0 = 1) : RV (vPull V b r t ne dl lt er) (zPull Z b t ne dl lt er) := by
  subst hr
  have va : agV [207, 205, 204, 203, 201, 202, 702] V (vPull V b (Z 34 b) t ne dl lt er) := ((((((((agV.refl _ _).u).u).u).u).u).u).u).u
  have za := zPull_ag (Z := Z) (b := b) (t := t) (ne := ne) (dl := dl) (lt := lt) (er := er)
  have G := hV.G.2 on
  refine hV.ch (lv := [207, 205, 204, 203, 201, 202, 702]) (lz := [38, 36, 37, 32, 35, 17, 34]) va za (kB := Or.inr (fun c hc => ?_)) (kG := Or.inr ⟨by rw [va 1009 (by decide), za 27 (by decide)]; exact hV.G.1, fun _ => ⟨by rw [va 700 (by decide), va 3003 (by decide), za 28 (by decide)]; exact G.1, by rw [va 701 (by decide), za 31 (by decide)]; exact G.2.1, ?_, by rw [va 704 (by decide), za 29 (by decide)]; exact G.2.2.2.1, by rw [va 705 (by decide), za 30 (by decide)]; exact G.2.2.2.2⟩⟩)
  · have w := hV.B c hc
    have wb := hV.B b hb
    rw [va 200 (by decide), va 206 (by decide), za 18 (by decide), za 19 (by decide)]
    have z36 : zPull Z b t ne dl lt er 36 c = if c = b then Z 36 b + lt else Z 36 c := by
      unfold zPull
      rw [up_f (by decide), up_f (by decide), up_f (by decide), up_f (by decide), up_f (by decide), up_f (by decide)]
      by_cases e : c = b
      · rw [if_pos e, e, up_s]
      · rw [if_neg e, up_i e, up_f (by decide)]
    have z37 : zPull Z b t ne dl lt er 37 c = if c = b then Z 37 b + er else Z 37 c := by
      unfold zPull
      rw [up_f (by decide), up_f (by decide), up_f (by decide), up_f (by decide), up_f (by decide)]
      by_cases e : c = b
      · rw [if_pos e, e, up_s]
      · rw [if_neg e, up_i e, up_f (by decide), up_f (by decide)]
    have z38 : zPull Z b t ne dl lt er 38 c = if c = b then Z 38 b + ne else Z 38 c := by
      unfold zPull
      rw [up_f (by decide), up_f (by decide), up_f (by decide), up_f (by decide), up_f (by decide), up_f (by decide), up_f (by decide)]
      by_cases e : c = b
      · rw [if_pos e, e, up_s]
      · rw [if_neg e, up_i e]
    have z34 : zPull Z b t ne dl lt er 34 c = if c = b then Z 34 b + 1 else Z 34 c := by
      unfold zPull
      by_cases e : c = b
      · rw [if_pos e, e, up_s]
      · rw [if_neg e, up_i e, up_f (by decide), up_f (by decide), up_f (by decide), up_f (by decide), up_f (by decide), up_f (by decide), up_f (by decide)]
    have z35 : ∀ r, r < 240 → zPull Z b t ne dl lt er 35 (240 * c + r) = if c = b ∧ r = Z 34 b then t else Z 35 (240 * c + r) := fun r hr => by
      unfold zPull
      rw [up_f (by decide), up_f (by decide), up_f (by decide)]
      by_cases e : c = b ∧ r = Z 34 b
      · rw [if_pos e, e.1, e.2, up_s]
      · rw [if_neg e, up_i (by omega), up_f (by decide), up_f (by decide), up_f (by decide), up_f (by decide)]
    have z17 : zPull Z b t ne dl lt er 17 c = if c = b then Z 17 b + (1 + Z 34 b % 2) else Z 17 c := by
      unfold zPull
      rw [up_f (by decide), up_i (show c ≠ 6 + b by omega)]
      by_cases e : c = b
      · rw [if_pos e, e, up_s]
      · rw [if_neg e, up_i e, up_f (by decide), up_f (by decide), up_f (by decide), up_f (by decide), up_f (by decide)]
    have z17' : zPull Z b t ne dl lt er 17 (6 + c) = if c = b then Z 17 (6 + b) + 1 else Z 17 (6 + c) := by
      unfold zPull
      rw [up_f (by decide)]
      by_cases e : c = b
      · rw [if_pos e, e, up_s]
      · rw [if_neg e, up_i (show 6 + c ≠ 6 + b by omega), up_i (show 6 + c ≠ b by omega), up_f (by decide), up_f (by decide), up_f (by decide), up_f (by decide), up_f (by decide)]
    rw [z36, z37, z38, z34, z17, z17']
    by_cases e : c = b
    · subst e
      rw [if_pos rfl, if_pos rfl, if_pos rfl, if_pos rfl, if_pos rfl, if_pos rfl]
      unfold vPull
      refine ⟨w.1, ?_, ?_, ?_, ?_, ?_, ?_, w.2.2.2.2.2.2.2.1, w.2.2.2.2.2.2.2.2.1, fun r hr => ?_⟩
      · rw [u3_f (by decide), u3_f (by decide), u3_s, w.2.1]
      · rw [u3_f (by decide), u3_s, w.2.2.1]
      · rw [u3_f (by decide), u3_f (by decide), u3_f (by decide), u3_s, ← nI_add, ← nI_add, w.2.2.2.1]
      · rw [u3_f (by decide), u3_f (by decide), u3_f (by decide), u3_f (by decide), u3_s]
      · rw [u3_f (by decide), u3_f (by decide), u3_f (by decide), u3_f (by decide), u3_f (by decide), u3_j (by decide), u3_s, w.2.2.2.2.2.1]
      · rw [u3_f (by decide), u3_f (by decide), u3_f (by decide), u3_f (by decide), u3_f (by decide), u3_s, w.2.2.2.2.2.2.1]
      · rw [u3_f (by decide), u3_f (by decide), u3_f (by decide), u3_f (by decide), u3_f (by decide), u3_f (by decide), u3_f (by decide), z35 r hr]
        by_cases e : r = Z 34 c
        · rw [if_pos ⟨rfl, e⟩, e, u3_s]
        · rw [if_neg (fun x => e x.2), u3_j e]
          exact w.2.2.2.2.2.2.2.2.2 r hr
    · rw [if_neg e, if_neg e, if_neg e, if_neg e, if_neg e, if_neg e]
      have vi : ∀ f, f ≠ 702 → vPull V b (Z 34 b) t ne dl lt er f c = V f c := fun f hf => by
        unfold vPull
        rw [u3_f hf, u3_i e, u3_i e, u3_i e, u3_i e, u3_i e, u3_i e, u3_i e]
      rw [vi 201 (by decide), vi 202 (by decide), vi 203 (by decide), vi 204 (by decide), vi 205 (by decide), vi 207 (by decide)]
      refine ⟨w.1, w.2.1, w.2.2.1, w.2.2.2.1, w.2.2.2.2.1, w.2.2.2.2.2.1, w.2.2.2.2.2.2.1, w.2.2.2.2.2.2.2.1, w.2.2.2.2.2.2.2.2.1, fun r hr => ?_⟩
      rw [z35 r hr, if_neg (fun x => e x.1)]
      exact w.2.2.2.2.2.2.2.2.2 r hr
  · unfold vPull zPull
    rw [u3_s, up_f (by decide), up_f (by decide), up_f (by decide), up_f (by decide), up_s]
theorem IZ.pull {Z : zZ} {b t ne dl lt er : Nat} (hI : IZ Z) (hb : b < z_st Z (Z 28 0)) (b6 : b < 6) (r240 : Z 34 b < 240) (on : Z 27 0 = 1) (ht : t ≤ 2000000000) (hdl : dl ≤ 2000000000) : IZ (zPull Z b t ne dl lt er) := by
  have za := zPull_ag (Z := Z) (b := b) (t := t) (ne := ne) (dl := dl) (lt := lt) (er := er)
  have c := za.m (k := [3, 4, 5, 6, 7, 10, 11, 12]) rfl
  have z27 : zPull Z b t ne dl lt er 27 0 = Z 27 0 := by rw [za 27 (by decide)]
  refine hI.ch2 (lz := [38, 36, 37, 32, 35, 17, 34]) za (kw := Or.inr (fun e => by rw [z27, on] at e; cases e)) (kg := Or.inr ⟨by rw [z27]; exact hI.g.1, fun _ => ?_⟩) (kN := Or.inr ⟨fun i => ?_, by rw [za 33 (by decide)]; exact hI.n.2.1, fun c hc => ?_, trivial⟩)
  · have g := hI.g.2 on
    rw [za 28 (by decide), za 10 (by decide), z_day_congr (za 21 (by decide)) (za 22 (by decide)), za 20 (by decide), za 29 (by decide), z_C_st c, za 30 (by decide), za 31 (by decide), z_C_L c]
    refine ⟨g.1, g.2.1, g.2.2.1, g.2.2.2.1, g.2.2.2.2.1, ?_, fun b' h1 h2 => ?_⟩
    · unfold zPull
      rw [up_f (by decide), up_f (by decide), up_f (by decide), up_f (by decide), up_s]
      exact hdl
    · have w := g.2.2.2.2.2.2 b' h1 h2
      have e17 : zPull Z b t ne dl lt er 17 b' = Z 17 b' := by
        unfold zPull
        rw [up_f (by decide), up_i (show b' ≠ 6 + b by omega), up_i (show b' ≠ b by omega), up_f (by decide), up_f (by decide), up_f (by decide), up_f (by decide), up_f (by decide)]
      have e17' : zPull Z b t ne dl lt er 17 (6 + b') = Z 17 (6 + b') := by
        unfold zPull
        rw [up_f (by decide), up_i (show 6 + b' ≠ 6 + b by omega), up_i (show 6 + b' ≠ b by omega), up_f (by decide), up_f (by decide), up_f (by decide), up_f (by decide), up_f (by decide)]
      unfold z_nw at w ⊢
      rw [e17, e17', za 18 (by decide)]
      exact w
  · unfold zPull
    rw [up_f (by decide), up_f (by decide), up_f (by decide)]
    by_cases e : i = 240 * b + Z 34 b
    · rw [e, up_s]
      exact ht
    · rw [up_i e, up_f (by decide), up_f (by decide), up_f (by decide), up_f (by decide)]
      exact hI.n.1 i
  · unfold zPull
    by_cases e : c = b
    · rw [e, up_s]
      omega
    · rw [up_i e, up_f (by decide), up_f (by decide), up_f (by decide), up_f (by decide), up_f (by decide), up_f (by decide), up_f (by decide)]
      exact hI.n.2.2.1 c hc
theorem s_pull : sim_pull E x m (RR E x m) := by
  intro Sc Sm hRR l1 l2
  obtain ⟨ad, la, V, ma, Z, ⟨hC, rfl⟩, hM, hV, hI⟩ := hRR
  unfold pm_pull p_X11_pull
  refine ⟨hC.o 10 0 z1, c_bell hC (fun b hb e => c_rqR (lo := 0) (hi := 2000000000) (by decide) (by decide) (fun t _ ht e2 => ⟨hC.o 10 0 z1, ?_⟩) (fun hn => Or.inr (Or.inl ⟨rfl, ?_⟩))) (fun hn => Or.inl ⟨rfl, ?_⟩)⟩
  · subst e
    subst e2
    have no : ¬ (Z 27 0 = 1 ∧ z_pp Z b = true ∧ Z 34 b < z_L Z (Z 28 0)) → p_X11_pull E m (nI b) (nI t) Sm (fun b9 Sm1 => gI Sm1 1100 m = 3 ∧ ((3 : Int32) = 0 → 0 = b9) ∧ RR E (ad 10 0) m Sc Sm1) (fun _ _ => False) := fun h =>
      m_pullN hM hI hb ht h (fun Z' S' g s z0 => finK g 3 z0 rfl (by omega) (RR.mk hC rfl hV hI g s))
    refine ⟨hC.o 10 0 z1, c_r9 hC (fun ev => Or.inr (Or.inr ⟨rfl, no (fun x => by have := hV.G.1; omega)⟩)) (fun ev h7 e9 => ⟨hC.o 7 0 h7, ?_⟩)⟩
    have on : Z 27 0 = 1 := hV.G.1.symm.trans ev
    have g := hI.g.2 on
    have zt := hI.T.2 _ g.1
    have hN := z_T_N hI.M zt
    have n6 := (ro_N6 hN).1
    have hL := z_L_bd hI.M zt
    have on' := hI.on on hV.G
    refine c_awaits hC h7 on' hI.M hI.T (hV.T.sl rfl) hV.B (hI.n.2.2.1 b hb) hb (zb_d (fun a => ?_) (fun a => Or.inr (Or.inr ⟨rfl, no (fun x => ?_)⟩)))
    · rw [Bool.and_eq_true, decide_eq_true_eq] at a
      have hb2 : b < z_st Z (Z 28 0) := by
        rcases Nat.lt_or_ge b (z_st Z (Z 28 0)) with y | y
        · exact y
        · rw [z_pp_hi g.2.2.1 y] at a
          exact absurd a.1 (by decide)
      obtain ⟨p0, h0, h4, h5⟩ := ro_place hN (z_f_V hI.M zt a.2) hb2
      have r240 : Z 34 b < 240 := by omega
      have du : z_du Z (Z 34 b) p0 < 2 ^ 31 := by
        unfold z_du
        have a1 : z_st Z (Z 28 0) * Z 34 b ≤ 6 * 239 := Nat.mul_le_mul n6 (by omega)
        have a2 : Z 30 0 * (z_st Z (Z 28 0) * Z 34 b + p0 + Z 34 b / 2) ≤ 1000 * 1600 := Nat.mul_le_mul g.2.2.2.1.2 (by omega)
        have := g.2.2.2.2.2.1
        omega
      refine ⟨_, rfl, hC.o 7 0 h7, c_nextDue hC h7 on' hI.M hI.T (hV.T.sl rfl) hV.B a.2 hb h0 h4 h5 ⟨_, rfl, hC.o 2 b hb, hC.o 2 b hb, ?_⟩⟩
      generalize hd : z_du Z (Z 34 b) p0 = d at du ⊢
      obtain ⟨ne, en⟩ := nI_ex (nI t - nI d)
      have w := hV.B b hb
      have n33 := hI.n.2.1
      have n32 := g.2.2.2.2.2.1
      have i30 := g.2.2.2.1
      rw [en, hC.gi 203 2 b hb, w.2.2.2.1]
      have bad : ¬ (lg_cmp ((nI (Z 38 b)).toInt64 + (nI ne).toInt64) ((nI (Z 38 b)).toInt64 + (nI ne).toInt64).toInt32.toInt64 = 0 ∧ (t ≤ d + Z 33 0 ∨ Z 32 0 + t ≤ 2000000000 + d + Z 33 0)) → p_X11_pull E m (nI b) (nI t) Sm (fun b9 Sm1 => gI Sm1 1100 m = 3 ∧ ((3 : Int32) = 0 → 0 = b9) ∧ RR E (ad 10 0) m Sc Sm1) (fun _ _ => False) := fun h =>
        m_pullY hM hI hb ht on a.1 a.2 (by omega) h4 h5 hd du en (fun _ Z' S' g s z0 => finK g 3 z0 rfl (by omega) (RR.mk hC rfl hV hI g s)) (fun y1 y2 => absurd ⟨y1, y2⟩ h)
      have le : nI ne ≤ nI (Z 33 0) ↔ t ≤ d + Z 33 0 := by
        rw [← en]
        exact pu_le (by omega) du (by omega)
      refine ⟨fun c => ⟨Or.inl rfl, fun _ => Or.inr (Or.inr ⟨rfl, bad (fun x => c x.1)⟩), fun x => absurd rfl x⟩, fun c => ⟨Or.inr rfl, fun x => absurd x (by decide), fun _ => ⟨hC.o 10 0 z1, hC.o 7 0 h7, ?_⟩⟩⟩
      rw [hC.gi 1010 10 0 z1, hV.S.1]
      -- it can be waited for
      have good : (t ≤ d + Z 33 0 ∨ Z 32 0 + t ≤ 2000000000 + d + Z 33 0) → p_X1_hearPull E (ad 2 b) (nI t) Sc (fun (S18 : zS) => (ad 7 0 ∈ gL S18 ∧ gK S18 (ad 7 0) = 7) ∧ p_X6_quarterGap E (ad 7 0) S18 (fun (r21 : Int32) (S20 : zS) => (ad 2 b ∈ gL S20 ∧ gK S20 (ad 2 b) = 2) ∧ p_X1_noteError E (ad 2 b) (nI ne) r21 S20 (fun (S22 : zS) => (ad 10 0 ∈ gL S22 ∧ gK S22 (ad 10 0) = 10) ∧ (ad 7 0 ∈ gL S22 ∧ gK S22 (ad 7 0) = 7) ∧ p_X6_waitFor E (ad 7 0) (nI ne) (gI S22 1010 (ad 10 0)) S22 (fun (S25 : zS) => (ad 10 0 ∈ gL S25 ∧ gK S25 (ad 10 0) = 10) ∧ p_X10_doReadyRows E (ad 10 0) S25 (fun (S27 : zS) => p_X11_pull E m (nI b) (nI t) Sm (fun b9 Sm1 => gI Sm1 1100 m = 0 ∧ ((0 : Int32) = 0 → nI ne = b9) ∧ RR E (ad 10 0) m S27 Sm1) (fun _ _ => False)) (fun _ _ => False)) (fun _ _ => False)) (fun _ _ => False)) (fun _ _ => False)) (fun _ _ => False) := by
        intro y
        have v204 : V 204 b 0 = Z 34 b := w.2.2.2.2.1
        refine c_hearPull hC hb (by rw [v204]; exact r240) (fun S1 g1 => ⟨g1.o 7 0 h7, g1.o 7 0 h7, ?_⟩)
        rw [v204] at g1
        have e705 : gI S1 705 (ad 7 0) = nI (Z 30 0) := by
          rw [g1.gi 705 7 0 h7, u3_f (by decide), u3_f (by decide), u3_f (by decide), u3_f (by decide), (hV.G.2 on).2.2.2.2]
        rw [e705]
        refine ⟨g1.o 2 b hb, g1.o 2 b hb, g1.uI 203 2 b (V 203 b 0 + ne) hb ?_ (fun S2 g2 => ?_)⟩
        · rw [g1.gi 203 2 b hb, u3_f (by decide), u3_f (by decide), u3_f (by decide), u3_f (by decide), nI_add]
        -- the counts
        have cnt : ∀ (lt er : Nat) (S3 : zS), RC E ad la (sd (Z 3 0) (Z 10 0 + 2) (Z 27 0)) (u3 (u3 (u3 (u3 (u3 (u3 (u3 V 207 b (Z 34 b) t) 205 b 0 (V 205 b 0 + (1 + Z 34 b % 2))) 205 b 1 (V 205 b 1 + 1)) 204 b 0 (Z 34 b + 1)) 203 b 0 (V 203 b 0 + ne)) 201 b 0 (V 201 b 0 + lt)) 202 b 0 (V 202 b 0 + er)) S3 → lt = (if nI ne ≤ nI (Z 30 0) / 4 then 0 else 1) → er = (if -(nI (Z 30 0) / 4) ≤ nI ne then 0 else 1) → (ad 10 0 ∈ gL S3 ∧ gK S3 (ad 10 0) = 10) ∧ (ad 7 0 ∈ gL S3 ∧ gK S3 (ad 7 0) = 7) ∧ p_X6_waitFor E (ad 7 0) (nI ne) (gI S3 1010 (ad 10 0)) S3 (fun (S25 : zS) => (ad 10 0 ∈ gL S25 ∧ gK S25 (ad 10 0) = 10) ∧ p_X10_doReadyRows E (ad 10 0) S25 (fun (S27 : zS) => p_X11_pull E m (nI b) (nI t) Sm (fun b9 Sm1 => gI Sm1 1100 m = 0 ∧ ((0 : Int32) = 0 → nI ne = b9) ∧ RR E (ad 10 0) m S27 Sm1) (fun _ _ => False)) (fun _ _ => False)) (fun _ _ => False) := by
          intro lt er S3 g3 elt eer
          have e1010 : gI S3 1010 (ad 10 0) = nI (Z 33 0) := by
            rw [g3.gi 1010 10 0 z1, u3_f (by decide), u3_f (by decide), u3_f (by decide), u3_f (by decide), u3_f (by decide), u3_f (by decide), u3_f (by decide), hV.S.1]
          have e702 : gI S3 702 (ad 7 0) = nI (Z 32 0) := by
            rw [g3.gi 702 7 0 h7, u3_f (by decide), u3_f (by decide), u3_f (by decide), u3_f (by decide), u3_f (by decide), u3_f (by decide), u3_f (by decide), (hV.G.2 on).2.2.1]
          rw [e1010]
          have fin : ∀ (dl : Nat) (S4 : zS), RC E ad la (sd (Z 3 0) (Z 10 0 + 2) (Z 27 0)) (vPull V b (Z 34 b) t ne dl lt er) S4 → dl = (if t ≤ d + Z 33 0 then Z 32 0 else Z 32 0 + (t - d - Z 33 0)) → dl ≤ 2000000000 → (ad 10 0 ∈ gL S4 ∧ gK S4 (ad 10 0) = 10) ∧ p_X10_doReadyRows E (ad 10 0) S4 (fun (S27 : zS) => p_X11_pull E m (nI b) (nI t) Sm (fun b9 Sm1 => gI Sm1 1100 m = 0 ∧ ((0 : Int32) = 0 → nI ne = b9) ∧ RR E (ad 10 0) m S27 Sm1) (fun _ _ => False)) (fun _ _ => False) := by
            intro dl S4 g4 edl hdl
            rw [on] at g4
            have za := zPull_ag (Z := Z) (b := b) (t := t) (ne := ne) (dl := dl) (lt := lt) (er := er)
            have hVp : RV (vPull V b (Z 34 b) t ne dl lt er) (zPull Z b t ne dl lt er) := hV.pull hI hb rfl r240 on
            have hIp : IZ (zPull Z b t ne dl lt er) := hI.pull hb2 hb r240 on ht hdl
            have z31 : zPull Z b t ne dl lt er 31 0 = Z 31 0 := by rw [za 31 (by decide)]
            refine ⟨g4.o 10 0 z1, 242, c_loop (m := m) 242 0 _ (zPull Z b t ne dl lt er) S4 g4 (by rw [za 10 (by decide)]) hVp hIp ((hVp.G.2 (by rw [za 27 (by decide)]; exact on)).2.1) (by rw [z31]; have := g.2.2.2.2.1; omega) (by omega) (by omega) (fun V5 S5 g5 hz => ?_)⟩
            refine m_pullY hM hI hb ht on a.1 a.2 (by omega) h4 h5 hd du en (fun h => absurd ⟨c, y⟩ h) (fun _ _ Z6 S6 g6 s6 z06 => ?_)
            rw [← elt, ← eer, ← edl] at g6
            have eqs := zPull_eq (b := b) (t := t) (ne := ne) (dl := dl) (lt := lt) (er := er) s6
            have es : z_eq (zPull Z b t ne dl lt er) (zPull Z6 b t ne dl lt er) := z_scr.eq eqs
            have e0 : zPull Z6 b t ne dl lt er 0 0 = 0 := by
              rw [zPull_ag 0 (by decide)]
              exact z06
            refine m_goesOn g6 hz es (hIp.eq es) (by rw [eqs 27 (by decide), za 27 (by decide)]; exact on) (fun Z' S' g' hV' hI' e7 l31 ez => ?_)
            refine ⟨fun _ => fin0 g' (by rw [ez 0 (by decide)]; exact e0) rfl (RR.mk7 g' g5 rfl hV' hI' (by rw [ez 3 (by decide), eqs 3 (by decide), za 3 (by decide)]) (by rw [ez 10 (by decide), eqs 10 (by decide), za 10 (by decide)])), fun x => absurd (nI_n0 (by omega)) x⟩
          refine ⟨g3.o 10 0 z1, g3.o 7 0 h7, fun c1 => ?_, fun c1 => ⟨g3.o 7 0 h7, ?_⟩⟩
          · have l := le.mp c1
            refine fin (Z 32 0) S3 ?_ (by rw [if_pos l]) n32
            unfold vPull
            rw [u3_id' (V := u3 (u3 (u3 (u3 (u3 (u3 (u3 V 207 b (Z 34 b) t) 205 b 0 (V 205 b 0 + (1 + Z 34 b % 2))) 205 b 1 (V 205 b 1 + 1)) 204 b 0 (Z 34 b + 1)) 203 b 0 (V 203 b 0 + ne)) 201 b 0 (V 201 b 0 + lt)) 202 b 0 (V 202 b 0 + er)) (by rw [u3_f (by decide), u3_f (by decide), u3_f (by decide), u3_f (by decide), u3_f (by decide), u3_f (by decide), u3_f (by decide), (hV.G.2 on).2.2.1])]
            exact g3
          · have nl : ¬ t ≤ d + Z 33 0 := fun x => c1 (le.mpr x)
            refine g3.uI 702 7 0 (Z 32 0 + (t - d - Z 33 0)) h7 ?_ (fun S4 g4 => fin _ S4 g4 (by rw [if_neg nl]) (by omega))
            rw [e702, ← en, pu_nd (by omega), nI_add]
        have q4 : (nI (Z 30 0) / 4 : Int32) = nI (Z 30 0 / 4) := pk_div (d := 4) (by omega) (by decide) (by decide)
        have v1 : ∀ (lt er : Nat), lt = 0 → u3 (u3 (u3 (u3 (u3 (u3 V 207 b (Z 34 b) t) 205 b 0 (V 205 b 0 + (1 + Z 34 b % 2))) 205 b 1 (V 205 b 1 + 1)) 204 b 0 (Z 34 b + 1)) 203 b 0 (V 203 b 0 + ne)) 201 b 0 (V 201 b 0 + lt) = u3 (u3 (u3 (u3 (u3 V 207 b (Z 34 b) t) 205 b 0 (V 205 b 0 + (1 + Z 34 b % 2))) 205 b 1 (V 205 b 1 + 1)) 204 b 0 (Z 34 b + 1)) 203 b 0 (V 203 b 0 + ne) := fun lt er e => by
          refine u3_id' ?_
          rw [u3_f (by decide), u3_f (by decide), u3_f (by decide), u3_f (by decide), u3_f (by decide), e]
          rfl
        refine ⟨fun c1 => ⟨fun c2 => ?_, fun c2 => ?_⟩, fun c1 => ?_⟩
        · refine cnt 0 0 S2 ?_ (by rw [if_pos c1]) (by rw [if_pos c2])
          rw [v1 0 0 rfl, u3_id' (by rw [u3_f (by decide), u3_f (by decide), u3_f (by decide), u3_f (by decide), u3_f (by decide)]; rfl)]
          exact g2
        · refine g2.uI 202 2 b (V 202 b 0 + 1) hb ?_ (fun S3 g3 => cnt 0 1 S3 ?_ (by rw [if_pos c1]) (by rw [if_neg c2]))
          · rw [g2.gi 202 2 b hb, u3_f (by decide), u3_f (by decide), u3_f (by decide), u3_f (by decide), u3_f (by decide), nI_1]
          · rw [v1 0 0 rfl]
            exact g3
        · have c2 : -(nI (Z 30 0) / 4) ≤ nI ne := by
            rw [q4] at c1 ⊢
            rw [Int32.le_iff_toInt_le, nI_toInt (n := Z 30 0 / 4) (by omega)] at c1
            rw [Int32.le_iff_toInt_le, Int32.toInt_neg, nI_toInt (n := Z 30 0 / 4) (by omega), Int.bmod_eq_of_le (by omega) (by omega)]
            omega
          refine g2.uI 201 2 b (V 201 b 0 + 1) hb ?_ (fun S3 g3 => cnt 1 0 S3 ?_ (by rw [if_neg c1]) (by rw [if_pos c2]))
          · rw [g2.gi 201 2 b hb, u3_f (by decide), u3_f (by decide), u3_f (by decide), u3_f (by decide), u3_f (by decide), nI_1]
          · rw [u3_id' (by rw [u3_f (by decide), u3_f (by decide), u3_f (by decide), u3_f (by decide), u3_f (by decide), u3_f (by decide)]; rfl)]
            exact g3
      refine ⟨fun c1 => ⟨Or.inr rfl, fun _ => ⟨hC.o 2 b hb, good (Or.inl (le.mp c1))⟩, fun x => absurd x (by decide)⟩, fun c1 => ⟨hC.o 7 0 h7, ?_⟩⟩
      have nl : ¬ t ≤ d + Z 33 0 := fun x => c1 (le.mpr x)
      have dl := pu_dl (t := t) (d := d) (p := Z 33 0) (l := Z 32 0) (by omega) n32 ht du (by omega)
      rw [en] at dl
      rw [hC.gi 702 7 0 h7, (hV.G.2 on).2.2.1, lg_gt0, dl, show (2000000000 : Int64).toInt = 2000000000 from by decide]
      exact ⟨fun c2 => ⟨Or.inl rfl, fun x => absurd rfl x, fun _ => Or.inr (Or.inr ⟨rfl, bad (fun x => by omega)⟩)⟩, fun c2 => ⟨Or.inr rfl, fun _ => ⟨hC.o 2 b hb, good (Or.inr (by omega))⟩, fun x => absurd x (by decide)⟩⟩
    · rw [x.2.1, decide_eq_true x.2.2] at a
      exact absurd a (by decide)
  · subst e
    exact w1_isBell1 hb ⟨fun _ => w1_inR0 (lo := 0) (hi := 2000000000) (by decide) (by decide) hn ⟨fun x => absurd rfl x, fun _ => m_pull40 (j := 2) hM (by omega) (fun S1 g1 => finK g1 2 rfl rfl (by omega) (RR.mk hC rfl hV hI g1 s0))⟩, fun x => absurd x (by decide)⟩
  · exact w1_isBell0 hn ⟨fun x => absurd rfl x, fun _ => m_pull40 (j := 1) hM (by omega) (fun S1 g1 => finK g1 1 rfl rfl (by omega) (RR.mk hC rfl hV hI g1 s0))⟩
end OPS
