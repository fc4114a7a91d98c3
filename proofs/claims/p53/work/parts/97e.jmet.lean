/-! methods, their calls, the composer -/
section JE
variable {E : zE} {x : Nat} {Z : zZ} {S : zS} {Q : Int32 → zS → Prop}
theorem j_method_r {l : Int32} (h : RZ E x Z S) (hn : ∀ j, 4 ≤ j → j ≤ 6 → l ≠ nI j) (k : Q (-7200) S) : p_L_method E x l S Q := by
  obtain ⟨ad, la, V, ⟨hC, rfl⟩, hV, hI⟩ := h
  exact ⟨hC.o 10 0 z1, c_rqR0 (lo := 4) (hi := 6) (by decide) (by decide) hn (Or.inl ⟨rfl, k⟩)⟩
theorem j_method_s {n : Nat} (h : RZ E x Z S) (n4 : 4 ≤ n) (n6 : n ≤ 6) (no : ¬ (0 < Z 1 0 ∧ ∀ k, k < Z 1 0 → ro_isC n (Z 2 k) = true)) (k : Q (-7300) S) : p_L_method E x (nI n) S Q := by
  obtain ⟨ad, la, V, ⟨hC, rfl⟩, hV, hI⟩ := h
  have vd := hV.2.1
  have h8 := hI.M.1
  refine ⟨hC.o 10 0 z1, c_rqR1 (lo := 4) (hi := 6) (by decide) n4 n6 ⟨hC.o 10 0 z1, ?_⟩⟩
  rw [hC.gi 1002 10 0 z1, vd.1]
  refine ⟨fun _ => Or.inr ⟨rfl, k⟩, fun c => hC.ex 1000 0 z1 (c_size hC 1000 0 z1 ?_)⟩
  have p1 : 0 < Z 1 0 := Nat.pos_of_ne_zero (fun e => c (by rw [e]; rfl))
  rw [hV.M.1]
  exact pk_le 8 (Z 3 0) (fun _ => Or.inr ⟨rfl, k⟩) (fun h9 => ⟨hC.o 10 0 z1, c_isDraft hC n6 vd (fun all => absurd ⟨p1, all⟩ no) (fun _ => ⟨fun x => absurd rfl x, fun _ => Or.inr ⟨rfl, k⟩⟩)⟩)
theorem j_method {n : Nat} (h : RZ E x Z S) (n4 : 4 ≤ n) (n6 : n ≤ 6) (p1 : 0 < Z 1 0) (l8 : Z 3 0 < 8) (all : ∀ k, k < Z 1 0 → ro_isC n (Z 2 k) = true) (k : ∀ S', (∀ Z', z_tm Z Z' n → RZ E x Z' S') → Q (nI (Z 3 0)) S') : p_L_method E x (nI n) S Q := by
  obtain ⟨ad, la, V, ⟨hC, rfl⟩, hV, hI⟩ := h
  have vd := hV.2.1
  have h2 : ∀ k, k < 12 → Z 2 k < 64 := fun k hk => (vd.2.2 k hk).2
  have h8 := hI.M.1
  have hN : ro_N n := by
    unfold ro_N
    omega
  refine ⟨hC.o 10 0 z1, c_rqR1 (lo := 4) (hi := 6) (by decide) n4 n6 ⟨hC.o 10 0 z1, ?_⟩⟩
  rw [hC.gi 1002 10 0 z1, vd.1]
  refine ⟨fun c => absurd ((nI_eq (b := 0) (by have := vd.2.1; omega) (by decide)).mp c) (by omega), fun c => hC.ex 1000 0 z1 (c_size hC 1000 0 z1 ?_)⟩
  rw [hV.M.1]
  refine pk_le 8 (Z 3 0) (fun h9 => absurd l8 (by omega)) (fun h9 => ⟨hC.o 10 0 z1, c_isDraft hC n6 vd (fun all => ⟨fun _ => ⟨hC.o 10 0 z1, hC.ex 1000 0 z1 (c_size hC 1000 0 z1 ⟨hC.o 10 0 z1, ?_⟩)⟩, fun x => absurd x (by decide)⟩) (fun no => absurd all no)⟩)
  rw [hV.M.1]
  have v1001 : ∀ k, k < Z 1 0 → V 1001 0 k = Z 2 k := fun k hk => (vd.2.2 k (by have := vd.2.1; omega)).1
  refine c_newMethod (P := fun q16 S23 => _) hC hN ⟨p1, vd.2.1⟩ (fun k hk => by rw [v1001 k hk]; exact all k hk) (ix := Z 3 0) rfl rfl vd.1 (fun ad' q V1 S1 g1 eq ea va vi w0 w1 w2 w4 w5 fi => ?_)
  have ea10 : ad' 10 0 = ad 10 0 := ea 10 0 z1
  have ea1000 : ad' 1000 0 = ad 1000 0 := ea 1000 0 z1
  have r1000 := (hC.1.2.2.1 1000 0 (by decide) z1).2
  rw [show (1000 : Nat) / 100 = 10 from rfl] at r1000
  have o1000 := g1.oL (f := 1000) (i := 0) (by decide) z1
  have v1000 : V1 1000 = V 1000 := va 1000 (by decide)
  rw [ea1000] at o1000
  refine ⟨_, r1000, o1000, ?_⟩
  rw [← eq, ← ea1000]
  refine c_add (t := 5) g1 1000 0 (Z 3 0) z1 (Nat.lt_succ_self _) (by rw [v1000, hV.M.1]; omega) (fun la' cp S2 g2 => ?_)
  have o10 := g2.o 10 0 z1
  rw [ea10] at o10
  refine ⟨o10, ?_⟩
  rw [← ea10]
  refine g2.uI 1002 10 0 0 z1 rfl (fun S3 g3 => ?_)
  refine k _ (fun Z' tm => ?_)
  have f0 : ∀ f, f ≠ 1002 → f ≠ 1000 → f ≠ 3000 → f ≠ 5000 → u3 (vadd V1 1000 0 cp (Z 3 0)) 1002 0 0 0 f = V1 f := fun f q1 q2 q3 q4 => by
    unfold vadd
    rw [u3_f q1, u3_f q2, u3_f q3, u3_f q4]
  have fx : ∀ j, V 1001 0 j = V 1001 0 j := fun _ => rfl
  have elist : (List.range (Z 1 0)).map (V 1001 0) = (List.range (Z 1 0)).map (Z 2) := List.map_congr_left (fun k hk => v1001 k (List.mem_range.mp hk))
  rw [elist] at fi
  have hV' : RV (u3 (vadd V1 1000 0 cp (Z 3 0)) 1002 0 0 0) Z' := hV.tm hI tm hN ⟨p1, vd.2.1⟩ h9 all (fun f hf => ?_) (fun f hf a ha => ?_) ?_ ?_ ?_ (fun k hk => ?_) (fun c hc => ?_) ?_ ?_ (fun j => ?_) (u3_s _ _ _ _ _)
  · exact RZ.mk g3 ea10 hV' (hI.tm tm hN ⟨p1, vd.2.1⟩ h9 all) tm.2.1 (by rw [tm.1 10 (by decide)]) (by rw [tm.1 27 (by decide)])
  · have mm : f ≠ 1002 ∧ f ≠ 1000 ∧ f ≠ 3000 ∧ f ≠ 5000 ∧ f ∉ [500, 501, 502, 503, 504, 505, 506, 4504, 4505, 4506] := by
      simp only [List.mem_cons, List.not_mem_nil, or_false] at hf ⊢
      omega
    rw [f0 f mm.1 mm.2.1 mm.2.2.1 mm.2.2.2.1]
    exact va f mm.2.2.2.2
  · have mm : f ≠ 1002 ∧ f ≠ 1000 ∧ f ≠ 3000 ∧ f ≠ 5000 := by
      simp only [List.mem_cons, List.not_mem_nil, or_false] at hf
      omega
    rw [f0 f mm.1 mm.2.1 mm.2.2.1 mm.2.2.2]
    exact vi f a ha
  · rw [f0 500 (by decide) (by decide) (by decide) (by decide)]
    exact w0
  · rw [f0 501 (by decide) (by decide) (by decide) (by decide)]
    exact w1
  · rw [f0 502 (by decide) (by decide) (by decide) (by decide)]
    exact w2
  · rw [f0 504 (by decide) (by decide) (by decide) (by decide), w4 k hk]
    exact v1001 k hk
  · rw [f0 505 (by decide) (by decide) (by decide) (by decide), w5 c hc]
    exact v1001 _ (by omega)
  · unfold FI at fi ⊢
    rw [f0 503 (by decide) (by decide) (by decide) (by decide), f0 506 (by decide) (by decide) (by decide) (by decide)]
    exact fi
  · unfold vadd
    rw [u3_f (by decide), u3_s, v1000, hV.M.1]
  · unfold vadd
    rw [u3_f (show 3000 ≠ 1002 by decide), u3_f (show 3000 ≠ 1000 by decide), v1000, hV.M.1]
    by_cases e : j = Z 3 0
    · rw [if_pos e, e, u3_s]
    · rw [if_neg e, u3_j e, u3_f (show 3000 ≠ 1000 + 4000 by decide), va 3000 (by decide)]
theorem j_setCall0 {l l2 l3 : Int32} (h : RZ E x Z S) (hn : ∀ i, i < Z 3 0 → l ≠ nI i) (k : Q (-7100) S) : p_L_setCall E x l l2 l3 S Q := by
  obtain ⟨ad, la, V, ⟨hC, rfl⟩, hV, hI⟩ := h
  exact ⟨hC.o 10 0 z1, hC.o 10 0 z1, c_meth0 hC hV hn (Or.inl ⟨rfl, k⟩)⟩
theorem j_setCall_r {i : Nat} {l l3 : Int32} (h : RZ E x Z S) (hi : i < Z 3 0) (hn : ∀ j, 1 ≤ j → j ≤ 2 → l ≠ nI j) (k : Q (-7200) S) : p_L_setCall E x (nI i) l l3 S Q := by
  obtain ⟨ad, la, V, ⟨hC, rfl⟩, hV, hI⟩ := h
  exact ⟨hC.o 10 0 z1, hC.o 10 0 z1, c_meth1 hC hV hI hi (fun hm => c_rqR0 (lo := 1) (hi := 2) (by decide) (by decide) hn (Or.inr (Or.inl ⟨rfl, k⟩)))⟩
theorem j_setCall_p {i c : Nat} {l3 : Int32} (h : RZ E x Z S) (hi : i < Z 3 0) (c1 : 1 ≤ c) (c2 : c ≤ 2) (hn : ¬ ro_ch (Z 4 i) l3) (k : Q (-7200) S) : p_L_setCall E x (nI i) (nI c) l3 S Q := by
  obtain ⟨ad, la, V, ⟨hC, rfl⟩, hV, hI⟩ := h
  have b := z_M_n hI.M hi
  refine ⟨hC.o 10 0 z1, hC.o 10 0 z1, c_meth1 hC hV hI hi (fun hm => c_rqR1 (lo := 1) (hi := 2) (by decide) c1 c2 ⟨_, rfl, hC.o 5 i hm, ?_⟩)⟩
  rw [hC.gi 501 5 i hm, (hV.M.2 i hi).2.2.1]
  exact w8_isChange (by omega) (fun hc => absurd hc hn) (fun _ => ⟨fun x => absurd rfl x, fun _ => Or.inr (Or.inl ⟨rfl, k⟩)⟩)
theorem j_setCall_s {i c : Nat} {l3 : Int32} (h : RZ E x Z S) (hi : i < Z 3 0) (c1 : 1 ≤ c) (c2 : c ≤ 2) (hc : ro_ch (Z 4 i) l3) (z27 : Z 27 0 = 1) (k : Q (-7300) S) : p_L_setCall E x (nI i) (nI c) l3 S Q := by
  obtain ⟨ad, la, V, ⟨hC, rfl⟩, hV, hI⟩ := h
  have b := z_M_n hI.M hi
  have hG := hV.G.1
  refine ⟨hC.o 10 0 z1, hC.o 10 0 z1, c_meth1 hC hV hI hi (fun hm => c_rqR1 (lo := 1) (hi := 2) (by decide) c1 c2 ⟨_, rfl, hC.o 5 i hm, ?_⟩)⟩
  rw [hC.gi 501 5 i hm, (hV.M.2 i hi).2.2.1]
  exact w8_isChange (by omega) (fun hc => ⟨fun _ => ⟨hC.o 10 0 z1, c_sil hC (fun e9 => by omega) (fun e9 => Or.inr (Or.inr ⟨rfl, k⟩))⟩, fun x => absurd x (by decide)⟩) (fun hn => absurd hc hn)
theorem j_setCall {i c v : Nat} (h : RZ E x Z S) (hi : i < Z 3 0) (c1 : 1 ≤ c) (c2 : c ≤ 2) (hv : ro_isC (Z 4 i) v = true) (z27 : Z 27 0 = 0) (k : ∀ S', (∀ Z', z_dr (up Z 7 (2 * i + c - 1) v) Z' → RZ E x Z' S') → Q (nI (z_ch Z i c (Z 5 i - 1))) S') : p_L_setCall E x (nI i) (nI c) (nI v) S Q := by
  obtain ⟨ad, la, V, ⟨hC, rfl⟩, hV, hI⟩ := h
  have vm := hV.M
  have hMz := hI.M
  have b := z_M_n hMz hi
  have hG := hV.G.1
  refine ⟨hC.o 10 0 z1, hC.o 10 0 z1, c_meth1 hC hV hI hi (fun hm => c_rqR1 (lo := 1) (hi := 2) (by decide) c1 c2 ⟨_, rfl, hC.o 5 i hm, ?_⟩)⟩
  rw [hC.gi 501 5 i hm, (vm.2 i hi).2.2.1]
  refine w8_isChange (by omega) (fun hc => ⟨fun _ => ⟨hC.o 10 0 z1, c_sil hC (fun e9 => ⟨hC.o 5 i hm, ?_⟩) (fun e9 => by omega)⟩, fun x => absurd x (by decide)⟩) (fun hn => absurd ⟨v, rfl, hv⟩ hn)
  have v64 := ro_isC_lt hv (by omega)
  rw [hC.gi 502 5 i hm, (vm.2 i hi).2.2.2.1, show (nI (Z 5 i) - 1 : Int32) = nI (Z 5 i - 1) from pk_sub (b := 1) (by omega)]
  refine c_changeOf hC vm hMz hm hi (by omega) (by omega) ⟨hC.o 5 i hm, hC.o 5 i hm, hC.ij 505 i c hm rfl (by show c < 3; omega) (hC.uA 505 i c v hm rfl (fun S1 g1 => ⟨g1.o 10 0 z1, ?_⟩))⟩
  have za : agZ [7] Z (up Z 7 (2 * i + c - 1) v) := (agZ.refl _ _).u
  have z7 : ∀ k, up Z 7 (2 * i + c - 1) v 7 k = if k = 2 * i + c - 1 then v else Z 7 k := fun k => by
    by_cases e : k = 2 * i + c - 1
    · rw [if_pos e, e, up_s]
    · rw [if_neg e, up_i e]
  have va : agV [505] V (u3 V 505 i c v) := (agV.refl _ _).u
  have ch0 : ∀ i' k, z_ch (up Z 7 (2 * i + c - 1) v) i' 0 k = z_ch Z i' 0 k := fun i' k => by
    unfold z_ch
    rw [if_neg (by omega), if_neg (by omega)]
    rfl
  have lc0 : ∀ i', z_lc (up Z 7 (2 * i + c - 1) v) i' 0 = z_lc Z i' 0 := fun i' => by
    unfold z_lc
    exact List.map_congr_left (fun k _ => ch0 i' k)
  have fl : ∀ i', z_fl (up Z 7 (2 * i + c - 1) v) i' = z_fl Z i' := fun i' => by
    unfold z_fl z_pr
    rw [lc0]
    rfl
  have hM1 : z_M (up Z 7 (2 * i + c - 1) v) := by
    refine ⟨hMz.1, fun i' hi' => ?_⟩
    have w := hMz.2 i' hi'
    refine ⟨w.1, w.2.1, w.2.2.1, w.2.2.2.1, fun c' hc' => ?_⟩
    rw [z7]
    split
    · rename_i e
      have : i' = i := by omega
      subst this
      exact hv
    · exact w.2.2.2.2 c' hc'
  have vm1 : V_M (u3 V 505 i c v) (up Z 7 (2 * i + c - 1) v) := by
    refine ⟨vm.1, fun i' hi' => ?_⟩
    have w := vm.2 i' hi'
    refine ⟨w.1, w.2.1, w.2.2.1, w.2.2.2.1, w.2.2.2.2.1, fun c' hc' => ?_, ?_⟩
    · by_cases e : i' = i
      · subst e
        by_cases e2 : c' = c
        · subst e2
          rw [u3_s]
          unfold z_ch
          rw [if_pos ⟨rfl, by omega⟩, z7, if_pos rfl]
        · rw [u3_j e2, w.2.2.2.2.2.1 c' hc']
          unfold z_ch
          by_cases e0 : 0 < c'
          · rw [if_pos ⟨rfl, e0⟩, if_pos ⟨rfl, e0⟩, z7, if_neg (by omega)]
          · rw [if_neg (fun x => e0 x.2), if_neg (fun x => e0 x.2)]
            rfl
      · rw [u3_i e, w.2.2.2.2.2.1 c' hc']
        unfold z_ch
        by_cases e0 : 0 < c'
        · rw [if_pos ⟨rfl, e0⟩, if_pos ⟨rfl, e0⟩, z7, if_neg (by omega)]
        · rw [if_neg (fun x => e0 x.2), if_neg (fun x => e0 x.2)]
          rfl
    · rw [fl]
      exact w.2.2.2.2.2.2
  have hT1 : z_TT (up Z 7 (2 * i + c - 1) v) := z_TT_cg rfl rfl rfl rfl rfl hI.T
  refine ⟨13, c_rewr_L (V := u3 V 505 i c v) hM1 hT1 rfl rfl vm1 hV.T.1 hV.J (fun t ht => ?_) (fun V2 S2 g2 a2 p2 b2 => ?_) 13 0 _ S1 g1 (fun _ _ => rfl) hV.2.2.2.2.2.1 (fun t ht => absurd ht (Nat.not_lt_zero t)) (Nat.zero_le _) (by have := hI.T.1; show Z 10 0 < _; omega)⟩
  · have w := hV.T.2 t ht
    exact ⟨w.1, w.2.1, w.2.2.1, w.2.2.2.2.1, w.2.2.2.2.2.1⟩
  have e9' : u3 V 505 i c v 3003 = V 3003 := rfl
  have va2 : agV [505, 600, 902, 903, 904, 905, 908] V V2 := fun f hf => by
    have mm : f ≠ 505 ∧ f ∉ [600, 902, 903, 904, 905, 908] := by
      simp only [List.mem_cons, List.not_mem_nil, or_false] at hf ⊢
      omega
    rw [a2 f mm.2, u3_f mm.1]
  have hV2 : RV V2 (up Z 7 (2 * i + c - 1) v) := hV.ch (lv := [505, 600, 902, 903, 904, 905, 908]) (lz := [7]) va2 za (kM := Or.inr (vm1.cg (fun f hf => a2 f (by
      have : ∀ f, f ∈ [1000, 3000, 500, 501, 502, 503, 504, 505, 506] → f ∉ [600, 902, 903, 904, 905, 908] := by decide
      exact this f hf)) (fun _ _ => rfl))) (kT := Or.inr ⟨by rw [va2 1003 (by decide)]; exact hV.T.1, fun t ht => by
        rw [va2 3003 (by decide)]
        exact ⟨(hV.T.2 t ht).1, b2 t ht⟩⟩) (kP := Or.inr p2)
  have hB1 : z_B (up Z 7 (2 * i + c - 1) v) := z_B_congr rfl rfl hI.B
  have hP1 : z_P (up Z 7 (2 * i + c - 1) v) := z_P_congr rfl rfl rfl hI.P
  refine ⟨g2.o 10 0 z1, g2.sg 1007 1 z1 (c_bellsOut g2 hV2.B hB1 ⟨_, g2.sgR 1008 8 z1, g2.o 8 0 z1, c_drop g2 hM1 hP1 hT1 hV2.R hV2.Y (hV2.T.sl rfl) hI.d (fun V3 V4 S4 g4 dp d3 d4 => ?_)⟩)⟩
  refine k _ (fun Z7 dr => ?_)
  have hV7 := hV2.dr hM1 hT1 hP1 hI.d dp d3 d4 dr
  exact RZ.mk g4 rfl hV7 (IZ.dr (Z := up Z 7 (2 * i + c - 1) v) z27 hM1 hT1 hB1 hP1 (z_R4_cg hI.R4 rfl rfl rfl) hI.d hI.nd hI.w hI.n dr) (by rw [dr.1 3 (by decide)] <;> rfl) (by rw [dr.1 10 (by decide)] <;> rfl) (by rw [dr.1 27 (by decide)] <;> rfl)
theorem j_compose {i N : Nat} (h : RZ E x Z S) (hi : i < Z 3 0) (n1 : 1 ≤ N) (n6 : N ≤ 6) (l12 : Z 10 0 < 12)
    (kY : ∀ w, w < 3 ^ N → sw Z i N (D3 N w) = true → (∀ e, e < w → sw Z i N (D3 N e) = false) → ∀ S', (∀ Z', z_ta Z Z' N (fun k => 3 * i + D3 N w k) → Z' 8 = Z 8 → RZ E x Z' S') → Q (nI (Z 10 0)) S')
    (kN : (∀ e, e < 3 ^ N → sw Z i N (D3 N e) = false) → ∀ S', RZ E x Z S' → Q (-1) S') : p_L_compose E x (nI i) (nI N) S Q := by
  obtain ⟨ad, la, V, ⟨hC, rfl⟩, hV, hI⟩ := h
  have vm := hV.M
  have hMz := hI.M
  have h12 := hI.T.1
  have e3 := hV.T.1
  have vJ := hV.J
  have hs : V 301 0 0 < Z 10 0 + 2 := vJ.2.2.2.2
  refine ⟨hC.o 10 0 z1, hC.o 10 0 z1, c_meth1 hC hV hI hi (fun hm => c_rqR1 (lo := 1) (hi := 6) (by decide) n1 n6 ⟨hC.o 10 0 z1, c_room hC (fun lt => ⟨hC.o 10 0 z1, _, hC.sgR 1005 3 z1, _, rfl, hC.o 3 0 z1, hC.o 3 0 z1, ?_⟩) (fun nl => absurd (by rw [e3]; exact l12) nl)⟩)⟩
  rw [e3] at lt
  have b := z_M_n hMz hi
  have p6 : 3 ^ N ≤ 3 ^ 6 := Nat.pow_le_pow_right (by decide) n6
  have p7 : (3 : Nat) ^ 6 = 729 := by decide
  refine hC.vr 301 z1 (fun _ => ⟨hC.o 9 _ hs, hC.ex 906 _ hs (c_clear hC 906 _ hs (fun S1 g1 => ⟨7, Nat.le_refl _, ?_⟩))⟩)
  have e301 : u3 V 906 (V 301 0 0) 0 0 301 0 0 = V 301 0 0 := by rw [u3_f (by decide)]
  refine c_adds_L (V := u3 V 906 (V 301 0 0) 0 0) (n := Z 4 i) hm hs e301 (by rw [u3_f (by decide)]; exact (vm.2 i hi).2.2.1) n6 (fun la2 V2 S2 g2 a2 b2 c2 d2 f2 => ⟨730, ?_⟩) 7 0 la _ S1 g1 (fun _ _ => rfl) (fun _ _ _ => rfl) (u3_s _ _ _ _ _) (fun q hq => absurd hq (Nat.not_lt_zero q)) (fun h => absurd h (Nat.lt_irrefl 0)) (Nat.zero_le _) (by omega)
  have va2 : ∀ f, f ∉ [901, 906, 907, 2906, 4906] → V2 f = V f := fun f hf => by
    rw [a2 f hf, u3_f (fun e => hf (by rw [e]; decide))]
  have vb2 : ∀ f a, a ≠ V 301 0 0 → V2 f a = V f a := fun f a ha => by
    rw [b2 f a ha, u3_i ha]
  have z0 : ∀ k, k < N → V2 907 (V 301 0 0) k = 0 := fun k hk => (d2 k hk).2
  have pn0 : pn (V2 907 (V 301 0 0)) N = 0 := pn_0 N z0
  have vP2 : V_P V2 := by
    unfold V_P
    rw [va2 600 (by decide)]
    exact hV.2.2.2.2.2.1
  have vm2 : V_M V2 Z := vm.cg (fun f hf => va2 f (by
    have : ∀ f, f ∈ [1000, 3000, 500, 501, 502, 503, 504, 505, 506] → f ∉ [901, 906, 907, 2906, 4906] := by decide
    exact this f hf)) (fun _ _ => rfl)
  -- what is known of a later state
  have l34 : ∀ V' : vV, (∀ f, f ∉ [600, 902, 903, 904, 905, 907, 908] → V' f = V2 f) → ∀ f, f ∉ [600, 901, 902, 903, 904, 905, 906, 907, 908, 2906, 4906] → V' f = V f := fun V' a' f hf => by
    have m1 : f ∉ [600, 902, 903, 904, 905, 907, 908] ∧ f ∉ [901, 906, 907, 2906, 4906] := by
      simp only [List.mem_cons, List.not_mem_nil, or_false] at hf ⊢
      omega
    rw [a' f m1.1]
    exact va2 f m1.2
  refine c_st_L (Z := Z) vm2 hMz hm hi ⟨n1, n6⟩ hs (by rw [va2 301 (by decide)]) (f2 (by omega)) c2 (fun k hk => (d2 k hk).1) (fun V3 S3 ofs g3 a3 b3 d3 sy U w3 e5 => ⟨g3.o 3 0 z1, g3.o 3 0 z1, ?_⟩) (fun V3 S3 g3 a3 b3 p3 U => ⟨fun _ => ?_, fun b14 x => by cases x⟩) 730 0 0 V2 S2 g2 (fun _ _ => rfl) (fun _ _ _ _ => rfl) (fun k hk => by rw [z0 k hk]; decide) (fun k _ hk => z0 k hk) (v_Wp0 vP2) (fun e he h => by rw [pn0] at h; exact absurd h (Nat.not_lt_zero e)) (Nat.zero_le _) (by omega) (by omega)
  · -- a sound touch
    have r3 := (g3.vrR 301 z1).2
    rw [show V3 301 = V2 301 from a3 301 (by decide), va2 301 (by decide), show (301 : Nat) / 100 = 3 from rfl] at r3
    have la3 := l34 V3 a3
    have lb3 : ∀ f a, f ≠ 600 → a ≠ V 301 0 0 → V3 f a = V f a := fun f a hf ha => (b3 f a hf ha).trans (vb2 f a ha)
    refine c_newTouch (P := fun q2 S6 => _) g3 (fun ad' q2 V4 S4 g4 eq ea b1 b4 b6 => ?_)
    have ea3 : ad' 3 0 = ad 3 0 := ea 3 0 z1
    have ea10 : ad' 10 0 = ad 10 0 := ea 10 0 z1
    have ea9 : ad' 9 (V 301 0 0) = ad 9 (V 301 0 0) := ea 9 _ hs
    have o3 := g4.o 3 0 z1
    have gV := g4.wV 301 (Z 10 0 + 2) (by decide) z1 (Nat.lt_succ_self _)
    rw [show (301 : Nat) / 100 = 3 from rfl, ea3, eq] at gV
    rw [ea3] at o3
    refine ⟨o3, ?_⟩
    rintro _ rfl
    refine ⟨fun x => (by rw [r3] at x; cases x), fun b14 x => ?_⟩
    rw [r3] at x
    cases x
    have o10 := gV.o 10 0 z1
    rw [ea10] at o10
    refine ⟨o10, ?_⟩
    rw [← ea10, ← ea9]
    have v1003 : u3 V4 301 0 0 (Z 10 0 + 2) 1003 0 0 = Z 10 0 := by
      rw [u3_f (by decide), b1 1003 (by decide), la3 1003 (by decide), e3]
    have sT : V 301 0 0 ≠ Z 10 0 + 2 := by omega
    refine c_keep gV (Nat.lt_succ_of_lt hs) (by rw [v1003]; omega) (fun la5 cp S5 g5 => ?_)
    obtain ⟨k1, k2, k3, k4, k5⟩ := v_kp (u3 V4 301 0 0 (Z 10 0 + 2)) (V 301 0 0) cp (u3 V4 301 0 0 (Z 10 0 + 2) 1003 0 0)
    rw [v1003] at g5 k1 k2 k3 k4 k5 ⊢
    generalize vadd (u3 (u3 V4 301 0 0 (Z 10 0 + 2)) 900 (V 301 0 0) 0 (Z 10 0)) 1003 0 cp (V 301 0 0) = V5 at *
    have snd3 : sw Z i N (D3 N (pn (V3 907 (V 301 0 0)) N)) = true := by
      rw [sw_c (D3_pn d3)]
      exact sy
    have pl := pn_b N d3
    refine kY _ pl snd3 (fun e he => U e (by omega) he) _ (fun Z6 ta z8 => ?_)
    have dg : ∀ k, k < N → D3 N (pn (V3 907 (V 301 0 0)) N) k = V3 907 (V 301 0 0) k := D3_pn d3
    have gd : ∀ k, (3 * i + D3 N (pn (V3 907 (V 301 0 0)) N) k) / 3 = i ∧ (3 * i + D3 N (pn (V3 907 (V 301 0 0)) N) k) % 3 = D3 N (pn (V3 907 (V 301 0 0)) N) k := fun k => by
      have := D3_lt (N := N) (w := pn (V3 907 (V 301 0 0)) N) (k := k)
      omega
    have tcg : z_tcG Z (fun k => (3 * i + D3 N (pn (V3 907 (V 301 0 0)) N) k) / 3) (fun k => (3 * i + D3 N (pn (V3 907 (V 301 0 0)) N) k) % 3) N = cw Z i N (V3 907 (V 301 0 0)) :=
      z_tcG_congr (fun k hk => ⟨(gd k).1, by rw [(gd k).2]; exact dg k hk⟩)
    -- the slot that is kept
    have f6 : ∀ f, f ≠ 900 → f ≠ 1003 → f ≠ 3003 → f ≠ 5003 → f ≠ 301 → V5 f (V 301 0 0) = V3 f (V 301 0 0) := fun f a1 a2 a3 a4 a5 => by
      rw [k1 f (by simp only [List.mem_cons, List.not_mem_nil, or_false]; omega), u3_f a5, b4 f _ sT]
    have f600 : V5 600 = V3 600 := by
      rw [k1 600 (by decide), u3_f (by decide), b1 600 (by decide)]
    have fs : ∀ f a, f ≠ 600 → f ≠ 1003 → f ≠ 3003 → f ≠ 5003 → f ≠ 301 → a ≠ V 301 0 0 → a ≠ Z 10 0 + 2 → V5 f a = V f a := fun f a q1 q2 q3 q4 q5 ha haT => by
      rw [← lb3 f a q1 ha, ← b4 f a haT]
      by_cases e : f = 900
      · rw [e, k5 a ha, u3_f (by decide)]
      · rw [k1 f (by simp only [List.mem_cons, List.not_mem_nil, or_false]; omega), u3_f q5]
    have p0 : ∀ f, f ∉ [600, 900, 901, 902, 903, 904, 905, 906, 907, 908, 2906, 4906, 4907, 4908, 1003, 3003, 5003, 301] → V5 f = V f := fun f hf => by
      have m1 : f ∉ [900, 1003, 3003, 5003] ∧ f ≠ 301 ∧ f ∉ [900, 901, 902, 903, 904, 905, 906, 907, 908, 4906, 4907, 4908] ∧ f ∉ [600, 901, 902, 903, 904, 905, 906, 907, 908, 2906, 4906] := by
        simp only [List.mem_cons, List.not_mem_nil, or_false] at hf ⊢
        omega
      rw [k1 f m1.1, u3_f m1.2.1, b1 f m1.2.2.1]
      exact la3 f m1.2.2.2
    have r := RV.kp (V' := V5) (s := V 301 0 0) (fr := 301) (ofs := ofs) hV hI ta lt ⟨n1, by omega⟩ (fun k hk => by
      show (3 * i + D3 N (pn (V3 907 (V 301 0 0)) N) k) / 3 < Z 3 0 ∧ Z 4 ((3 * i + D3 N (pn (V3 907 (V 301 0 0)) N) k) / 3) = Z 4 ((3 * i + D3 N (pn (V3 907 (V 301 0 0)) N) 0) / 3)
      rw [(gd k).1, (gd 0).1]
      exact ⟨hi, rfl⟩) (Or.inr ⟨rfl, rfl⟩) p0 (fun f hf a ha haT => ?_) k4 ?_ (fun j => ?_) ?_ ?_ ?_ ?_ ?_
    · exact RZ.mk g5 ea10 r.1 r.2 (by rw [ta.1 3 (by decide)]) (by rw [ta.2.1]) (by rw [ta.1 27 (by decide)])
    · have m6 : f ≠ 600 ∧ f ≠ 1003 ∧ f ≠ 3003 ∧ f ≠ 5003 ∧ f ≠ 301 := by
        simp only [List.mem_cons, List.not_mem_nil, or_false] at hf
        omega
      exact fs f a m6.1 m6.2.1 m6.2.2.1 m6.2.2.2.1 m6.2.2.2.2 ha haT
    · rw [k2]
    · rw [k3, u3_f (by decide), b1 3003 (by decide), la3 3003 (by decide)]
    · rw [k1 301 (by decide), u3_s]
    · unfold v_LD
      rw [f6 901 (by decide) (by decide) (by decide) (by decide) (by decide), f6 906 (by decide) (by decide) (by decide) (by decide) (by decide), f6 2906 (by decide) (by decide) (by decide) (by decide) (by decide), f6 907 (by decide) (by decide) (by decide) (by decide) (by decide), a3 901 (by decide), a3 906 (by decide), a3 2906 (by decide)]
      refine ⟨by rw [f2 (by omega), (gd 0).1], c2, fun k hk => ?_⟩
      show _ = (3 * i + D3 N (pn (V3 907 (V 301 0 0)) N) k) / 3 ∧ _ = (3 * i + D3 N (pn (V3 907 (V 301 0 0)) N) k) % 3
      rw [(gd k).1, (gd k).2, dg k hk]
      exact ⟨(d2 k hk).1, rfl⟩
    · rw [tcg]
      show v_W (Z 4 ((3 * i + D3 N (pn (V3 907 (V 301 0 0)) N) 0) / 3)) V5 _ _ _
      rw [(gd 0).1]
      exact vW_cg w3 (f6 902 (by decide) (by decide) (by decide) (by decide) (by decide)) (f6 903 (by decide) (by decide) (by decide) (by decide) (by decide)) (f6 904 (by decide) (by decide) (by decide) (by decide) (by decide)) (f6 908 (by decide) (by decide) (by decide) (by decide) (by decide)) f600
    · rw [tcg]
      show V5 905 _ 0 = if ro_la (Z 4 ((3 * i + D3 N (pn (V3 907 (V 301 0 0)) N) 0) / 3)) (ro_rnd (Z 4 ((3 * i + D3 N (pn (V3 907 (V 301 0 0)) N) 0) / 3))) _ = ro_rnd (Z 4 ((3 * i + D3 N (pn (V3 907 (V 301 0 0)) N) 0) / 3)) then 1 else 0
      rw [(gd 0).1, f6 905 (by decide) (by decide) (by decide) (by decide) (by decide)]
      exact e5
    · have dn : V 1006 0 0 ≠ V 301 0 0 := vJ.2.2.1
      have dT : V 1006 0 0 ≠ Z 10 0 + 2 := by have := vJ.2.2.2.1; omega
      refine hV.L.cg (p0 1006 (by decide)) (fun f hf => ?_) (fun f hf => ?_)
      · have m6 : f ≠ 600 ∧ f ≠ 1003 ∧ f ≠ 3003 ∧ f ≠ 5003 ∧ f ≠ 301 := by
          simp only [List.mem_cons, List.not_mem_nil, or_false] at hf
          omega
        exact fs f _ m6.1 m6.2.1 m6.2.2.1 m6.2.2.2.1 m6.2.2.2.2 dn dT
      · by_cases e : f = 8
        · rw [e]
          exact z8
        · exact ta.1 f (by
            simp only [List.mem_cons, List.not_mem_nil, or_false] at hf ⊢
            omega)
  · have t6 : z_t0 Z Z := ⟨fun _ _ => rfl, trivial, fun _ _ => rfl, trivial, fun _ _ => rfl, trivial⟩
    have hV6 : RV V3 Z := hV.t0 hI t6 (l34 V3 a3) (fun f a hf ha => (b3 f a hf ha).trans (vb2 f a ha)) p3
    exact kN U _ (RZ.mk g3 rfl hV6 hI)
theorem j_compose_r {i : Nat} {l : Int32} (h : RZ E x Z S) (hi : i < Z 3 0) (hn : ∀ j, 1 ≤ j → j ≤ 6 → l ≠ nI j) (k : Q (-7200) S) : p_L_compose E x (nI i) l S Q := by
  obtain ⟨ad, la, V, ⟨hC, rfl⟩, hV, hI⟩ := h
  exact ⟨hC.o 10 0 z1, hC.o 10 0 z1, c_meth1 hC hV hI hi (fun hm => c_rqR0 (lo := 1) (hi := 6) (by decide) (by decide) hn (Or.inr (Or.inl ⟨rfl, k⟩)))⟩
theorem j_compose0 {l l2 : Int32} (h : RZ E x Z S) (hn : ∀ i, i < Z 3 0 → l ≠ nI i) (k : Q (-7100) S) : p_L_compose E x l l2 S Q := by
  obtain ⟨ad, la, V, ⟨hC, rfl⟩, hV, hI⟩ := h
  exact ⟨hC.o 10 0 z1, hC.o 10 0 z1, c_meth0 hC hV hn (Or.inl ⟨rfl, k⟩)⟩
end JE
