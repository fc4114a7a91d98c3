/-! calls that ask for bells, days, the ringing; small changes -/
section JB
variable {E : zE} {x : Nat} {Z : zZ} {S : zS} {Q : Int32 → zS → Prop}
theorem j_late {b : Nat} (h : RZ E x Z S) (hb : b < 6) (k : Q (nI (Z 36 b)) S) : p_L_late E x (nI b) S Q := by
  obtain ⟨ad, la, V, ⟨hC, rfl⟩, hV, hI⟩ := h
  refine ⟨hC.o 10 0 z1, hC.o 10 0 z1, c_bel1 hC hb ⟨_, rfl, hC.o 2 b hb, ?_⟩⟩
  rw [hC.gi 201 2 b hb, (hV.B b hb).2.1]
  exact k
theorem j_late0 {l : Int32} (h : RZ E x Z S) (hn : ∀ b, b < 6 → l ≠ nI b) (k : Q (-7100) S) : p_L_late E x l S Q := by
  obtain ⟨ad, la, V, ⟨hC, rfl⟩, hV, hI⟩ := h
  exact ⟨hC.o 10 0 z1, hC.o 10 0 z1, c_bel0 hC hn ⟨rfl, k⟩⟩
theorem j_early {b : Nat} (h : RZ E x Z S) (hb : b < 6) (k : Q (nI (Z 37 b)) S) : p_L_early E x (nI b) S Q := by
  obtain ⟨ad, la, V, ⟨hC, rfl⟩, hV, hI⟩ := h
  refine ⟨hC.o 10 0 z1, hC.o 10 0 z1, c_bel1 hC hb ⟨_, rfl, hC.o 2 b hb, ?_⟩⟩
  rw [hC.gi 202 2 b hb, (hV.B b hb).2.2.1]
  exact k
theorem j_errors {b : Nat} (h : RZ E x Z S) (hb : b < 6) (k : Q (nI (Z 38 b)) S) : p_L_errors E x (nI b) S Q := by
  obtain ⟨ad, la, V, ⟨hC, rfl⟩, hV, hI⟩ := h
  refine ⟨hC.o 10 0 z1, hC.o 10 0 z1, c_bel1 hC hb ⟨_, rfl, hC.o 2 b hb, ?_⟩⟩
  rw [hC.gi 203 2 b hb, (hV.B b hb).2.2.2.1]
  exact k
theorem j_errors0 {l : Int32} (h : RZ E x Z S) (hn : ∀ b, b < 6 → l ≠ nI b) (k : Q (-7100) S) : p_L_errors E x l S Q := by
  obtain ⟨ad, la, V, ⟨hC, rfl⟩, hV, hI⟩ := h
  exact ⟨hC.o 10 0 z1, hC.o 10 0 z1, c_bel0 hC hn ⟨rfl, k⟩⟩
theorem j_wrong {X : String → zS → Prop} (h : RZ E x Z S) (k : Q (nI (Z 39 0)) S) : p_X10_wrong E x S Q X := by
  obtain ⟨ad, la, V, ⟨hC, rfl⟩, hV, hI⟩ := h
  refine ⟨hC.o 10 0 z1, ?_⟩
  rw [hC.gi 1011 10 0 z1, hV.S.2.1]
  exact k
theorem j_rung {X : String → zS → Prop} (h : RZ E x Z S) (k : Q (nI (Z 40 0)) S) : p_X10_rung E x S Q X := by
  obtain ⟨ad, la, V, ⟨hC, rfl⟩, hV, hI⟩ := h
  refine ⟨hC.o 10 0 z1, ?_⟩
  rw [hC.gi 1012 10 0 z1, hV.S.2.2.1]
  exact k
theorem j_latest {X : String → zS → Prop} (h : RZ E x Z S) (k : Q (nI (Z 41 0)) S) : p_X10_latest E x S Q X := by
  obtain ⟨ad, la, V, ⟨hC, rfl⟩, hV, hI⟩ := h
  refine ⟨hC.o 10 0 z1, ?_⟩
  rw [hC.gi 1013 10 0 z1, hV.S.2.2.2]
  exact k
theorem j_today {X : String → zS → Prop} (h : RZ E x Z S) (k : Q (nI (Z 20 0)) S) : p_X10_today E x S Q X := by
  obtain ⟨ad, la, V, ⟨hC, rfl⟩, hV, hI⟩ := h
  refine ⟨hC.o 10 0 z1, hC.sg 1008 8 z1 ?_⟩
  rw [hC.gi 802 8 0 z1, hV.R.2.1]
  exact k
theorem j_dropped {X : String → zS → Prop} (h : RZ E x Z S) (k : Q (nI (Z 23 0)) S) : p_X10_dropped E x S Q X := by
  obtain ⟨ad, la, V, ⟨hC, rfl⟩, hV, hI⟩ := h
  refine ⟨hC.o 10 0 z1, hC.sg 1008 8 z1 ?_⟩
  rw [hC.gi 803 8 0 z1, hV.R.2.2.1]
  exact k
theorem j_isRinging {X : String → zS → Prop} (h : RZ E x Z S) (k : Q (nI (Z 27 0)) S) : p_X10_isRinging E x S Q X := by
  obtain ⟨ad, la, V, ⟨hC, rfl⟩, hV, hI⟩ := h
  refine ⟨hC.o 10 0 z1, hC.r9 z1 (fun e => ⟨Or.inl rfl, ?_⟩) (fun e _ => ⟨Or.inr rfl, ?_⟩)⟩
  · rw [← hV.G.1, e] at k
    exact k
  · rw [← hV.G.1, e] at k
    exact k
theorem j_done {X : String → zS → Prop} (h : RZ E x Z S) (k0 : Z 27 0 = 0 → Q (-1) S) (k1 : Z 27 0 = 1 → Q (nI (Z 31 0)) S) : p_X10_done E x S Q X := by
  obtain ⟨ad, la, V, ⟨hC, rfl⟩, hV, hI⟩ := h
  refine ⟨hC.o 10 0 z1, c_r9 hC (fun e => k0 (hV.G.1.symm.trans e)) (fun e h7 e9 => ⟨_, e9, hC.o 7 0 h7, ?_⟩)⟩
  have h1 : Z 27 0 = 1 := hV.G.1.symm.trans e
  rw [hC.gi 701 7 0 h7, (hV.G.2 h1).2.1]
  exact k1 h1
theorem j_delay {X : String → zS → Prop} (h : RZ E x Z S) (k0 : Z 27 0 = 0 → Q 0 S) (k1 : Z 27 0 = 1 → Q (nI (Z 32 0)) S) : p_X10_delay E x S Q X := by
  obtain ⟨ad, la, V, ⟨hC, rfl⟩, hV, hI⟩ := h
  refine ⟨hC.o 10 0 z1, c_r9 hC (fun e => k0 (hV.G.1.symm.trans e)) (fun e h7 e9 => ⟨_, e9, hC.o 7 0 h7, ?_⟩)⟩
  have h1 : Z 27 0 = 1 := hV.G.1.symm.trans e
  rw [hC.gi 702 7 0 h7, (hV.G.2 h1).2.2.1]
  exact k1 h1
theorem j_wear {b p : Nat} (h : RZ E x Z S) (hb : b < 6) (hp : p ≤ 1) (k : Q (nI (Z 17 (6 * p + b))) S) : p_L_wear E x (nI b) (nI p) S Q := by
  obtain ⟨ad, la, V, ⟨hC, rfl⟩, hV, hI⟩ := h
  refine ⟨hC.o 10 0 z1, hC.o 10 0 z1, c_bel1 hC hb (c_rqR1 (lo := 0) (hi := 1) (by decide) (Nat.zero_le _) hp ⟨_, rfl, hC.o 2 b hb, hC.ij 205 b p hb rfl (by show p < 2; omega) ?_⟩)⟩
  have v : V 205 b p = Z 17 (6 * p + b) := by
    have v := hV.B b hb
    rcases (show p = 0 ∨ p = 1 by omega) with rfl | rfl
    · rw [v.2.2.2.2.2.1, show 6 * 0 + b = b by omega]
    · rw [v.2.2.2.2.2.2.1]
  rw [hC.ga 205 b p hb, v]
  exact k
theorem j_wear_r {b : Nat} {l : Int32} (h : RZ E x Z S) (hb : b < 6) (hn : ∀ j, 0 ≤ j → j ≤ 1 → l ≠ nI j) (k : Q (-7200) S) : p_L_wear E x (nI b) l S Q := by
  obtain ⟨ad, la, V, ⟨hC, rfl⟩, hV, hI⟩ := h
  exact ⟨hC.o 10 0 z1, hC.o 10 0 z1, c_bel1 hC hb (c_rqR0 (lo := 0) (hi := 1) (by decide) (by decide) hn (Or.inr ⟨rfl, k⟩))⟩
theorem j_wear0 {l l2 : Int32} (h : RZ E x Z S) (hn : ∀ b, b < 6 → l ≠ nI b) (k : Q (-7100) S) : p_L_wear E x l l2 S Q := by
  obtain ⟨ad, la, V, ⟨hC, rfl⟩, hV, hI⟩ := h
  exact ⟨hC.o 10 0 z1, hC.o 10 0 z1, c_bel0 hC hn (Or.inl ⟨rfl, k⟩)⟩
theorem j_isIn {b : Nat} (h : RZ E x Z S) (hb : b < 6) (k : Q (zb (z_in Z b)) S) : p_L_isIn E x (nI b) S Q := by
  obtain ⟨ad, la, V, ⟨hC, rfl⟩, hV, hI⟩ := h
  refine ⟨hC.o 10 0 z1, hC.o 10 0 z1, c_bel1 hC hb ⟨_, rfl, hC.o 2 b hb, c_isUsable hC hV.B hI.B hb ⟨zb_01 _, ?_⟩⟩⟩
  refine zb_c (fun e => ?_) (fun e => ?_)
  · rw [e] at k
    exact k
  · rw [e] at k
    exact k
theorem j_isIn0 {l : Int32} (h : RZ E x Z S) (hn : ∀ b, b < 6 → l ≠ nI b) (k : Q (-7100) S) : p_L_isIn E x l S Q := by
  obtain ⟨ad, la, V, ⟨hC, rfl⟩, hV, hI⟩ := h
  exact ⟨hC.o 10 0 z1, hC.o 10 0 z1, c_bel0 hC hn ⟨rfl, k⟩⟩
theorem j_planned {d : Nat} (h : RZ E x Z S) (h1 : Z 20 0 ≤ d) (h2 : d ≤ 60) (k : Q (nI (Z 21 d)) S) : p_L_planned E x (nI d) S Q := by
  obtain ⟨ad, la, V, ⟨hC, rfl⟩, hV, hI⟩ := h
  refine ⟨hC.o 10 0 z1, hC.o 10 0 z1, c_day1 hC hV hI h1 h2 ⟨_, rfl, hC.o 4 d (show d < 61 by omega), hC.ex 400 d (show d < 61 by omega) (c_size hC 400 d (show d < 61 by omega) ?_)⟩⟩
  rw [(hV.Y.get h2).1]
  exact k
theorem j_planned0 {l : Int32} (h : RZ E x Z S) (hn : ∀ d, Z 20 0 ≤ d → d ≤ 60 → l ≠ nI d) (k : Q (-7200) S) : p_L_planned E x l S Q := by
  obtain ⟨ad, la, V, ⟨hC, rfl⟩, hV, hI⟩ := h
  exact ⟨hC.o 10 0 z1, hC.o 10 0 z1, c_day0 hC hV hI hn ⟨rfl, k⟩⟩
theorem j_plannedAt {d q : Nat} (h : RZ E x Z S) (h1 : Z 20 0 ≤ d) (h2 : d ≤ 60) (hq : q < Z 21 d) (k : Q (nI (Z 22 (4 * d + q))) S) : p_L_plannedAt E x (nI d) (nI q) S Q := by
  obtain ⟨ad, la, V, ⟨hC, rfl⟩, hV, hI⟩ := h
  have y := hV.Y.get h2
  have p4 := (hI.P d h2).1
  have tk : Z 22 (4 * d + q) < Z 10 0 := (hI.P d h2).2 _ (List.mem_map.mpr ⟨q, List.mem_range.mpr hq, rfl⟩)
  have w := hV.T.2 _ tk
  refine ⟨hC.o 10 0 z1, hC.o 10 0 z1, c_day1 hC hV hI h1 h2 ⟨_, rfl, hC.o 4 d (show d < 61 by omega), hC.ex 400 d (show d < 61 by omega) (c_size hC 400 d (show d < 61 by omega) ?_)⟩⟩
  rw [y.1]
  refine c_rqI1 (by omega) hq ⟨hC.o 4 d (show d < 61 by omega), hC.ex 400 d (show d < 61 by omega) (c_get (g := 2400) (t := 9) hC 400 d q (show d < 61 by omega) (by rw [y.1]; exact hq) (fun hm => ⟨_, rfl, hC.o 9 _ hm, ?_⟩))⟩
  rw [hC.gi 900 9 _ hm, y.2 q hq, w.2.1]
  exact k
theorem j_plannedAt_n {d : Nat} {l : Int32} (h : RZ E x Z S) (h1 : Z 20 0 ≤ d) (h2 : d ≤ 60) (hn : ∀ q, q < Z 21 d → l ≠ nI q) (k : Q (-7100) S) : p_L_plannedAt E x (nI d) l S Q := by
  obtain ⟨ad, la, V, ⟨hC, rfl⟩, hV, hI⟩ := h
  have p4 := (hI.P d h2).1
  refine ⟨hC.o 10 0 z1, hC.o 10 0 z1, c_day1 hC hV hI h1 h2 ⟨_, rfl, hC.o 4 d (show d < 61 by omega), hC.ex 400 d (show d < 61 by omega) (c_size hC 400 d (show d < 61 by omega) ?_)⟩⟩
  rw [(hV.Y.get h2).1]
  exact c_rqI0 (by omega) hn (Or.inr ⟨rfl, k⟩)
theorem j_plannedAt0 {l l2 : Int32} (h : RZ E x Z S) (hn : ∀ d, Z 20 0 ≤ d → d ≤ 60 → l ≠ nI d) (k : Q (-7200) S) : p_L_plannedAt E x l l2 S Q := by
  obtain ⟨ad, la, V, ⟨hC, rfl⟩, hV, hI⟩ := h
  exact ⟨hC.o 10 0 z1, hC.o 10 0 z1, c_day0 hC hV hI hn (Or.inl ⟨rfl, k⟩)⟩
theorem j_rota {d : Nat} (h : RZ E x Z S) (h1 : Z 20 0 ≤ d) (h2 : d ≤ 60) (k : Q (z_oi (z_ba Z d)) S) : p_L_rota E x (nI d) S Q := by
  obtain ⟨ad, la, V, ⟨hC, rfl⟩, hV, hI⟩ := h
  refine ⟨hC.o 10 0 z1, hC.o 10 0 z1, hC.sg 1008 8 z1 ?_⟩
  rw [hC.gi 802 8 0 z1, hV.R.2.1]
  exact c_rqR1 (hi := 60) (by decide) h1 h2 ⟨hC.o 10 0 z1, hC.sg 1008 8 z1 (c_bandFor hC hI.M hI.P hI.T hI.R4 hV.R hV.Y (hV.T.sl rfl) h2 h1 k)⟩
theorem j_rota0 {l : Int32} (h : RZ E x Z S) (hn : ∀ d, Z 20 0 ≤ d → d ≤ 60 → l ≠ nI d) (k : Q (-7200) S) : p_L_rota E x l S Q := by
  obtain ⟨ad, la, V, ⟨hC, rfl⟩, hV, hI⟩ := h
  have := hI.d
  refine ⟨hC.o 10 0 z1, hC.o 10 0 z1, hC.sg 1008 8 z1 ?_⟩
  rw [hC.gi 802 8 0 z1, hV.R.2.1]
  exact c_rqR0 (hi := 60) (by decide) (by omega) hn ⟨rfl, k⟩
/-- a change is drafted -/
theorem j_change {v : Nat} (h : RZ E x Z S) (hv : v < 64) (h12 : Z 1 0 < 12) (k : ∀ S', RZ E x (up (up Z 2 (Z 1 0) v) 1 0 (Z 1 0 + 1)) S' → Q (nI (Z 1 0 + 1)) S') : p_L_change E x (nI v) S Q := by
  obtain ⟨ad, la, V, ⟨hC, rfl⟩, hV, hI⟩ := h
  obtain ⟨dv1, dv2, dv3⟩ := hV.2.1
  refine ⟨hC.o 10 0 z1, c_rqR1 (lo := 0) (hi := 63) (by decide) (Nat.zero_le _) (by omega) ⟨hC.o 10 0 z1, ?_⟩⟩
  rw [hC.gi 1002 10 0 z1, dv1]
  refine pk_lt (Z 1 0) 12 (fun h1 => hC.ij 1001 0 (Z 1 0) z1 rfl h1 (hC.uA 1001 0 (Z 1 0) v z1 rfl (fun S1 g1 => g1.uI 1002 10 0 (Z 1 0 + 1) z1 ?_ (fun S2 g2 => ?_)))) (fun h1 => absurd h12 (by omega))
  · rw [g1.gi 1002 10 0 z1, u3_f (by decide), dv1, nI_1]
  · rw [g2.gi 1002 10 0 z1, u3_s]
    refine k _ (RZ.mk g2 rfl (hV.ch (lv := [1001, 1002]) (lz := [1, 2]) (((agV.refl _ _).u).u) (((agZ.refl _ _).u).u) (kD := Or.inr ⟨?_, ?_, fun j hj => ?_⟩)) (hI.ch (lz := [1, 2]) (((agZ.refl _ _).u).u)))
    · rw [u3_s, up_s]
    · rw [up_s]
      exact h1
    · rw [u3_f (by decide), up_f (by decide)]
      by_cases e : j = Z 1 0
      · rw [e, u3_s, up_s]
        exact ⟨rfl, hv⟩
      · rw [u3_j e, up_i e]
        exact dv3 j hj
theorem j_change_r {l : Int32} (h : RZ E x Z S) (hn : ∀ j, 0 ≤ j → j ≤ 63 → l ≠ nI j) (k : Q (-7200) S) : p_L_change E x l S Q := by
  obtain ⟨ad, la, V, ⟨hC, rfl⟩, hV, hI⟩ := h
  exact ⟨hC.o 10 0 z1, c_rqR0 (lo := 0) (hi := 63) (by decide) (by decide) hn (Or.inl ⟨rfl, k⟩)⟩
theorem j_dropChanges {X : String → zS → Prop} (h : RZ E x Z S) (k : ∀ S', RZ E x (up Z 1 0 0) S' → Q (nI (Z 1 0)) S') : p_X10_dropChanges E x S Q X := by
  obtain ⟨ad, la, V, ⟨hC, rfl⟩, hV, hI⟩ := h
  obtain ⟨dv1, dv2, dv3⟩ := hV.2.1
  refine ⟨hC.o 10 0 z1, hC.uI 1002 10 0 0 z1 rfl (fun S2 g2 => ?_)⟩
  rw [hC.gi 1002 10 0 z1, dv1]
  refine k _ (RZ.mk g2 rfl (hV.ch (lv := [1002]) (lz := [1]) ((agV.refl _ _).u) ((agZ.refl _ _).u) (kD := Or.inr ⟨?_, ?_, fun j hj => ?_⟩)) (hI.ch (lz := [1]) ((agZ.refl _ _).u)))
  · rw [u3_s, up_s]
  · rw [up_s]
    omega
  · rw [u3_f (by decide), up_f (by decide)]
    exact dv3 j hj
theorem j_dropLeads {X : String → zS → Prop} (h : RZ E x Z S) (k : ∀ S', RZ E x (up Z 8 0 0) S' → Q (nI (Z 8 0)) S') : p_X10_dropLeads E x S Q X := by
  obtain ⟨ad, la, V, ⟨hC, rfl⟩, hV, hI⟩ := h
  have vl := hV.2.2.2.2.1
  have vj := hV.2.2.2.1
  have hd : V 1006 0 0 < Z 10 0 + 2 := vj.2.2.2.1
  refine ⟨hC.o 10 0 z1, hC.vr 1006 z1 (fun _ => ⟨hC.o 9 _ hd, hC.ex 906 _ hd (c_size hC 906 _ hd ⟨hC.o 10 0 z1, hC.vr 1006 z1 (fun _ => ⟨hC.o 9 _ hd, hC.ex 906 _ hd (c_clear hC 906 _ hd (fun S2 g2 => ?_))⟩)⟩)⟩)⟩
  rw [vl.1]
  refine k _ (RZ.mk g2 rfl (hV.ch (lv := [906]) (lz := [8]) ((agV.refl _ _).u) ((agZ.refl _ _).u) (kT := Or.inr ?_) (kL := Or.inr ?_)) (hI.ch (lz := [8]) ((agZ.refl _ _).u)))
  · refine hV.2.2.1.cg (fun f hf => u3_f (fun e => by subst e; exact absurd hf (by decide))) (fun t ht f hf => ?_) (fun f hf => ?_)
    · by_cases e : f = 906
      · rw [e, u3_i (vj.2.1 t ht).1]
      · rw [u3_f e]
    · have : f ≠ 8 := by
        simp only [List.mem_cons, List.not_mem_nil, or_false] at hf
        omega
      rw [up_f this]
  · unfold V_L
    rw [u3_f (show 1006 ≠ 906 by decide), u3_s, up_s]
    exact ⟨rfl, by decide, fun k hk => absurd hk (Nat.not_lt_zero k), fun h => absurd h (Nat.lt_irrefl 0)⟩
theorem j_setPatience {v : Nat} (h : RZ E x Z S) (hv : v ≤ 1000) (k : ∀ S', RZ E x (up Z 33 0 v) S' → Q (nI (Z 33 0)) S') : p_L_setPatience E x (nI v) S Q := by
  obtain ⟨ad, la, V, ⟨hC, rfl⟩, hV, hI⟩ := h
  refine ⟨hC.o 10 0 z1, c_rqR1 (lo := 0) (hi := 1000) (by decide) (Nat.zero_le _) hv ⟨hC.o 10 0 z1, hC.uI 1010 10 0 v z1 rfl (fun S2 g2 => ?_)⟩⟩
  rw [hC.gi 1010 10 0 z1, hV.S.1]
  refine k _ (RZ.mk g2 rfl (hV.ch (lv := [1010]) (lz := [33]) ((agV.refl _ _).u) ((agZ.refl _ _).u) (kS := Or.inr ⟨?_, ?_, ?_, ?_⟩)) ?_)
  · rw [u3_s, up_s]
  · rw [u3_f (by decide), up_f (by decide)]
    exact hV.S.2.1
  · rw [u3_f (by decide), up_f (by decide)]
    exact hV.S.2.2.1
  · rw [u3_f (by decide), up_f (by decide)]
    exact hV.S.2.2.2
  · refine hI.ch2 (lz := [33]) ((agZ.refl _ _).u) (kN := Or.inr ⟨hI.n.1, ?_, hI.n.2.2⟩)
    rw [up_s]
    exact hv
theorem j_setPatience_r {l : Int32} (h : RZ E x Z S) (hn : ∀ j, 0 ≤ j → j ≤ 1000 → l ≠ nI j) (k : Q (-7200) S) : p_L_setPatience E x l S Q := by
  obtain ⟨ad, la, V, ⟨hC, rfl⟩, hV, hI⟩ := h
  exact ⟨hC.o 10 0 z1, c_rqR0 (lo := 0) (hi := 1000) (by decide) (by decide) hn ⟨rfl, k⟩⟩
theorem j_setBand {i v : Nat} (h : RZ E x Z S) (hi : i < 4) (hv : 4 ≤ v) (hv6 : v ≤ 6) (k : ∀ S', RZ E x (up Z 24 i v) S' → Q (nI (Z 24 i)) S') : p_L_setBand E x (nI i) (nI v) S Q := by
  obtain ⟨ad, la, V, ⟨hC, rfl⟩, hV, hI⟩ := h
  have w := hV.R
  refine ⟨hC.o 10 0 z1, c_rqI1 (n := 4) (by decide) hi (c_rqR1 (lo := 4) (hi := 6) (by decide) hv hv6 ⟨hC.o 10 0 z1, hC.sg 1008 8 z1 (hC.ij 800 0 i z1 rfl hi (hC.sg 1008 8 z1 (hC.ij 800 0 i z1 rfl hi (hC.uA 800 0 i v z1 rfl (fun S2 g2 => ?_)))))⟩)⟩
  rw [hC.ga 800 0 i z1, w.1 i hi]
  refine k _ (RZ.mk g2 rfl (hV.ch (lv := [800]) (lz := [24]) ((agV.refl _ _).u) ((agZ.refl _ _).u) (kR := Or.inr ⟨fun j hj => ?_, ?_, ?_, ?_, ?_⟩)) (hI.ch2 (lz := [24]) ((agZ.refl _ _).u) (kR := Or.inr ⟨fun j hj => ?_, ?_, ?_⟩)))
  · by_cases e : j = i
    · rw [e, u3_s, up_s]
    · rw [u3_j e, up_i e]
      exact w.1 j hj
  · exact w.2.1
  · exact w.2.2.1
  · exact w.2.2.2.1
  · exact w.2.2.2.2
  · by_cases e : j = i
    · rw [e, up_s]
      exact ⟨hv, hv6⟩
    · rw [up_i e]
      exact hI.R4.1 j hj
  · exact hI.R4.2.1
  · exact hI.R4.2.2
theorem j_setBand_r {i : Nat} {l : Int32} (h : RZ E x Z S) (hi : i < 4) (hn : ∀ j, 4 ≤ j → j ≤ 6 → l ≠ nI j) (k : Q (-7200) S) : p_L_setBand E x (nI i) l S Q := by
  obtain ⟨ad, la, V, ⟨hC, rfl⟩, hV, hI⟩ := h
  exact ⟨hC.o 10 0 z1, c_rqI1 (n := 4) (by decide) hi (c_rqR0 (lo := 4) (hi := 6) (by decide) (by decide) hn (Or.inr ⟨rfl, k⟩))⟩
theorem j_setBand0 {l l2 : Int32} (h : RZ E x Z S) (hn : ∀ j, j < 4 → l ≠ nI j) (k : Q (-7100) S) : p_L_setBand E x l l2 S Q := by
  obtain ⟨ad, la, V, ⟨hC, rfl⟩, hV, hI⟩ := h
  exact ⟨hC.o 10 0 z1, c_rqI0 (n := 4) (by decide) hn (Or.inl ⟨rfl, k⟩)⟩
end JB
