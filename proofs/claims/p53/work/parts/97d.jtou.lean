/-! leads and touches -/
section JD
variable {E : zE} {x : Nat} {Z : zZ} {S : zS} {Q : Int32 → zS → Prop}
theorem j_lead {i c : Nat} (h : RZ E x Z S) (hi : i < Z 3 0) (hc : c < 3) (h20 : Z 8 0 < 20) (hst : 0 < Z 8 0 → Z 4 i = Z 4 (Z 9 0 / 3)) (k : ∀ S', RZ E x (up (up Z 9 (Z 8 0) (3 * i + c)) 8 0 (Z 8 0 + 1)) S' → Q (nI (Z 8 0 + 1)) S') : p_L_lead E x (nI i) (nI c) S Q := by
  obtain ⟨ad, la, V, ⟨hC, rfl⟩, hV, hI⟩ := h
  have vm := hV.M
  have hMz := hI.M
  obtain ⟨v1, v2, v3, v4⟩ := hV.L
  have h9 : 0 < Z 8 0 → Z 9 0 / 3 < Z 3 0 := fun h => (v3 0 h).2.2.1
  have vJ := hV.J
  have hd : V 1006 0 0 < Z 10 0 + 2 := vJ.2.2.2.1
  refine ⟨hC.o 10 0 z1, hC.o 10 0 z1, c_meth1 hC hV hI hi (fun hm => c_rqR1 (lo := 0) (hi := 2) (by decide) (Nat.zero_le _) (by omega) ⟨hC.o 10 0 z1, _, (hC.vrR 1006 z1).2, _, rfl, hC.o 9 _ hd, hC.o 9 _ hd, hC.ex 906 _ hd (c_isEmpty hC 906 _ hd ?_)⟩)⟩
  have b := z_M_n hMz hi
  have e5 : gI S 501 (ad 5 i) = nI (Z 4 i) := by rw [hC.gi 501 5 i hm, (vm.2 i hi).2.2.1]
  have good : p_X9_addLead E (ad 9 (V 1006 0 0)) (ad 5 i) (nI c) S (fun S15 => (ad 10 0 ∈ gL S15 ∧ gK S15 (ad 10 0) = 10) ∧ ∃ b18, (gR S15 1006 (ad 10 0)) = some b18 ∧ (b18 ∈ gL S15 ∧ gK S15 b18 = 9) ∧ p_X9_leadCount E b18 S15 (fun (r21 : Int32) (S20 : zS) => Q r21 S20) (fun _ _ => False)) (fun _ _ => False) := by
    refine ⟨hC.o 5 i hm, hC.o 9 _ hd, hC.uI 901 9 _ (Z 4 i) hd e5 (fun S1 g1 => g1.ex 906 _ hd (c_size g1 906 _ hd (g1.ij 907 _ (Z 8 0) hd ?_ (by show _ < 20; exact h20) (g1.uA 907 _ (Z 8 0) c hd rfl (fun S2 g2 => ⟨g2.o 9 _ hd, g2.ex 906 _ hd (c_add g2 906 _ i hd hm ?_ (fun la' cp S3 g3 => ?_))⟩)))))⟩
    · rw [u3_f (show 906 ≠ 901 by decide), v1]
    · rw [u3_f (show 906 ≠ 907 by decide), u3_f (show 906 ≠ 901 by decide), v1]
      omega
    · have f6 : ∀ k, k ≠ 906 → k ≠ 2906 → k ≠ 4906 → k ≠ 901 → k ≠ 907 → vadd (u3 (u3 V 901 (V 1006 0 0) 0 (Z 4 i)) 907 (V 1006 0 0) (Z 8 0) c) 906 (V 1006 0 0) cp i k = V k := fun k a1 a2 a3 a4 a5 => by
        unfold vadd
        rw [u3_f a1, u3_f a2, u3_f a3, u3_f a5, u3_f a4]
      have fi : ∀ k a, a ≠ V 1006 0 0 → vadd (u3 (u3 V 901 (V 1006 0 0) 0 (Z 4 i)) 907 (V 1006 0 0) (Z 8 0) c) 906 (V 1006 0 0) cp i k a = V k a := fun k a h => by
        unfold vadd
        rw [u3_i h, u3_i h, u3_i h, u3_i h, u3_i h]
      have n6 : vadd (u3 (u3 V 901 (V 1006 0 0) 0 (Z 4 i)) 907 (V 1006 0 0) (Z 8 0) c) 906 (V 1006 0 0) cp i 906 (V 1006 0 0) 0 = Z 8 0 + 1 := by
        unfold vadd
        rw [u3_s, u3_f (show 906 ≠ 907 by decide), u3_f (show 906 ≠ 901 by decide), v1]
      have n2 : ∀ k, vadd (u3 (u3 V 901 (V 1006 0 0) 0 (Z 4 i)) 907 (V 1006 0 0) (Z 8 0) c) 906 (V 1006 0 0) cp i 2906 (V 1006 0 0) k = if k = Z 8 0 then i else V 2906 (V 1006 0 0) k := fun k => by
        unfold vadd
        rw [u3_f (show 2906 ≠ 906 by decide), u3_f (show 906 ≠ 907 by decide), u3_f (show 906 ≠ 901 by decide), v1]
        by_cases e : k = Z 8 0
        · rw [if_pos e, e, u3_s]
        · rw [if_neg e, u3_j e, u3_f (show 2906 ≠ 906 + 4000 by decide), u3_f (show 2906 ≠ 907 by decide), u3_f (show 2906 ≠ 901 by decide)]
      have n7 : ∀ k, vadd (u3 (u3 V 901 (V 1006 0 0) 0 (Z 4 i)) 907 (V 1006 0 0) (Z 8 0) c) 906 (V 1006 0 0) cp i 907 (V 1006 0 0) k = if k = Z 8 0 then c else V 907 (V 1006 0 0) k := fun k => by
        unfold vadd
        rw [u3_f (show 907 ≠ 906 by decide), u3_f (show 907 ≠ 906 + 2000 by decide), u3_f (show 907 ≠ 906 + 4000 by decide)]
        by_cases e : k = Z 8 0
        · rw [if_pos e, e, u3_s]
        · rw [if_neg e, u3_j e, u3_f (show 907 ≠ 901 by decide)]
      have n1 : vadd (u3 (u3 V 901 (V 1006 0 0) 0 (Z 4 i)) 907 (V 1006 0 0) (Z 8 0) c) 906 (V 1006 0 0) cp i 901 (V 1006 0 0) 0 = Z 4 i := by
        unfold vadd
        rw [u3_f (show 901 ≠ 906 by decide), u3_f (show 901 ≠ 906 + 2000 by decide), u3_f (show 901 ≠ 906 + 4000 by decide), u3_f (show 901 ≠ 907 by decide), u3_s]
      have va : agV [901, 907, 4906, 2906, 906] V (vadd (u3 (u3 V 901 (V 1006 0 0) 0 (Z 4 i)) 907 (V 1006 0 0) (Z 8 0) c) 906 (V 1006 0 0) cp i) := (((((agV.refl _ _).u).u).u).u).u
      have e6 : vadd (u3 (u3 V 901 (V 1006 0 0) 0 (Z 4 i)) 907 (V 1006 0 0) (Z 8 0) c) 906 (V 1006 0 0) cp i 1006 = V 1006 := f6 1006 (by decide) (by decide) (by decide) (by decide) (by decide)
      generalize hV' : vadd (u3 (u3 V 901 (V 1006 0 0) 0 (Z 4 i)) 907 (V 1006 0 0) (Z 8 0) c) 906 (V 1006 0 0) cp i = V' at *
      refine ⟨g3.o 10 0 z1, g3.vr 1006 z1 (fun _ => ?_)⟩
      rw [e6]
      refine ⟨g3.o 9 _ hd, g3.ex 906 _ hd (c_size g3 906 _ hd ?_)⟩
      rw [n6]
      have za : agZ [8, 9] Z (up (up Z 9 (Z 8 0) (3 * i + c)) 8 0 (Z 8 0 + 1)) := ((agZ.refl _ _).u).u
      have z9 : ∀ k, up (up Z 9 (Z 8 0) (3 * i + c)) 8 0 (Z 8 0 + 1) 9 k = if k = Z 8 0 then 3 * i + c else Z 9 k := fun k => by
        rw [up_f (by decide)]
        by_cases e : k = Z 8 0
        · rw [if_pos e, e, up_s]
        · rw [if_neg e, up_i e]
      have d3 : (3 * i + c) / 3 = i := by omega
      have m3 : (3 * i + c) % 3 = c := by omega
      refine k _ (RZ.mk g3 rfl (hV.ch (lv := [901, 907, 4906, 2906, 906]) (lz := [8, 9]) va za (kT := Or.inr ?_) (kL := Or.inr ?_)) (hI.ch (lz := [8, 9]) za))
      · refine hV.T.cg (fun f hf => ?_) (fun t ht f hf => ?_) (za.m (k := [3, 4, 5, 6, 7, 10, 11, 12]) rfl)
        · have : f = 1003 ∨ f = 3003 := by
            simp only [List.mem_cons, List.not_mem_nil, or_false] at hf
            exact hf
          exact f6 f (by omega) (by omega) (by omega) (by omega) (by omega)
        · exact fi f _ (vJ.2.1 t ht).1
      · unfold V_L
        have l0 : Z 4 ((if 0 = Z 8 0 then 3 * i + c else Z 9 0) / 3) = Z 4 i := by
          by_cases e : 0 = Z 8 0
          · rw [if_pos e, d3]
          · rw [if_neg e, hst (by omega)]
        rw [e6, n6, up_s, z9 0]
        refine ⟨rfl, h20, fun k hk => ?_, fun _ => ?_⟩
        · rw [n2, n7, z9 k]
          show _ ∧ _ ∧ _ < Z 3 0 ∧ Z 4 _ = Z 4 _
          rw [l0]
          by_cases e : k = Z 8 0
          · rw [if_pos e, if_pos e, if_pos e, d3, m3]
            exact ⟨rfl, rfl, hi, rfl⟩
          · rw [if_neg e, if_neg e, if_neg e]
            have w := v3 k (by omega)
            refine ⟨w.1, w.2.1, w.2.2.1, ?_⟩
            rw [w.2.2.2, hst (by omega)]
        · rw [n1]
          show Z 4 i = Z 4 _
          rw [l0]
  rw [v1]
  by_cases z8 : Z 8 0 = 0
  · rw [if_pos z8]
    exact ⟨fun x => absurd x (by decide), fun _ => ⟨Or.inr rfl, fun _ => ⟨hC.o 10 0 z1, hC.vr 1006 z1 (fun _ => good)⟩, fun x => absurd x (by decide)⟩⟩
  · rw [if_neg z8]
    refine ⟨fun _ => ⟨hC.o 9 _ hd, hC.ex 906 _ hd (c_size hC 906 _ hd ?_)⟩, fun x => absurd rfl x⟩
    rw [v1]
    have h9' := h9 (by omega)
    have b9 := z_M_n hMz h9'
    refine pk_le 20 (Z 8 0) (fun h => absurd h (by omega)) (fun h20 => ⟨hC.o 5 i hm, hC.o 9 _ hd, ?_⟩)
    have e : (nI (Z 4 i) = nI (Z 4 (Z 9 0 / 3))) ↔ Z 4 i = Z 4 (Z 9 0 / 3) := nI_eq (by omega) (by omega)
    rw [e5, hC.gi 901 9 _ hd, v4 (by omega), e]
    exact ⟨fun x => absurd (hst (by omega)) x, fun x => ⟨Or.inr rfl, fun _ => ⟨hC.o 10 0 z1, hC.vr 1006 z1 (fun _ => good)⟩, fun x => absurd x (by decide)⟩⟩
theorem j_lead_s {i c : Nat} (h : RZ E x Z S) (hi : i < Z 3 0) (hc : c < 3) (h8 : 0 < Z 8 0) (hst : ¬ Z 4 i = Z 4 (Z 9 0 / 3)) (k : Q (-7300) S) : p_L_lead E x (nI i) (nI c) S Q := by
  obtain ⟨ad, la, V, ⟨hC, rfl⟩, hV, hI⟩ := h
  have vm := hV.M
  have hMz := hI.M
  obtain ⟨v1, v2, v3, v4⟩ := hV.L
  have vJ := hV.J
  have hd : V 1006 0 0 < Z 10 0 + 2 := vJ.2.2.2.1
  refine ⟨hC.o 10 0 z1, hC.o 10 0 z1, c_meth1 hC hV hI hi (fun hm => c_rqR1 (lo := 0) (hi := 2) (by decide) (Nat.zero_le _) (by omega) ⟨hC.o 10 0 z1, _, (hC.vrR 1006 z1).2, _, rfl, hC.o 9 _ hd, hC.o 9 _ hd, hC.ex 906 _ hd (c_isEmpty hC 906 _ hd ?_)⟩)⟩
  have b := z_M_n hMz hi
  have e5 : gI S 501 (ad 5 i) = nI (Z 4 i) := by rw [hC.gi 501 5 i hm, (vm.2 i hi).2.2.1]
  rw [v1, if_neg (by omega)]
  refine ⟨fun _ => ⟨hC.o 9 _ hd, hC.ex 906 _ hd (c_size hC 906 _ hd ?_)⟩, fun x => absurd rfl x⟩
  rw [v1]
  have b9 := z_M_n hMz (v3 0 h8).2.2.1
  refine pk_le 20 (Z 8 0) (fun _ => ⟨Or.inl rfl, fun x => absurd rfl x, fun _ => Or.inr (Or.inr ⟨rfl, k⟩)⟩) (fun h20 => ⟨hC.o 5 i hm, hC.o 9 _ hd, ?_⟩)
  have e : (nI (Z 4 i) = nI (Z 4 (Z 9 0 / 3))) ↔ Z 4 i = Z 4 (Z 9 0 / 3) := nI_eq (by omega) (by omega)
  rw [e5, hC.gi 901 9 _ hd, v4 (by omega), e]
  exact ⟨fun x => ⟨Or.inl rfl, fun x => absurd rfl x, fun _ => Or.inr (Or.inr ⟨rfl, k⟩)⟩, fun x => absurd x hst⟩
theorem j_lead_r {i : Nat} {l : Int32} (h : RZ E x Z S) (hi : i < Z 3 0) (hn : ∀ j, 0 ≤ j → j ≤ 2 → l ≠ nI j) (k : Q (-7200) S) : p_L_lead E x (nI i) l S Q := by
  obtain ⟨ad, la, V, ⟨hC, rfl⟩, hV, hI⟩ := h
  exact ⟨hC.o 10 0 z1, hC.o 10 0 z1, c_meth1 hC hV hI hi (fun hm => c_rqR0 (lo := 0) (hi := 2) (by decide) (by decide) hn (Or.inr (Or.inl ⟨rfl, k⟩)))⟩
theorem j_lead0 {l l2 : Int32} (h : RZ E x Z S) (hn : ∀ i, i < Z 3 0 → l ≠ nI i) (k : Q (-7100) S) : p_L_lead E x l l2 S Q := by
  obtain ⟨ad, la, V, ⟨hC, rfl⟩, hV, hI⟩ := h
  exact ⟨hC.o 10 0 z1, hC.o 10 0 z1, c_meth0 hC hV hn (Or.inl ⟨rfl, k⟩)⟩
theorem j_touch_s (h : RZ E x Z S) (h8 : Z 8 0 = 0) (k : Q (-7300) S) : p_L_touch E x S Q := by
  obtain ⟨ad, la, V, ⟨hC, rfl⟩, hV, hI⟩ := h
  obtain ⟨v1, v2, v3, v4⟩ := hV.L
  have hd : V 1006 0 0 < Z 10 0 + 2 := hV.J.2.2.2.1
  refine ⟨hC.o 10 0 z1, hC.o 10 0 z1, hC.vr 1006 z1 (fun _ => ⟨hC.o 9 _ hd, hC.ex 906 _ hd (c_size hC 906 _ hd ?_)⟩)⟩
  rw [v1, h8]
  exact ⟨fun c => absurd rfl c, fun _ => ⟨rfl, k⟩⟩
theorem j_touch (h : RZ E x Z S) (p8 : 0 < Z 8 0) (l12 : Z 10 0 < 12) (k : ∀ S', (∀ Z', z_ta Z Z' (Z 8 0) (Z 9) → Z' 8 0 = 0 → RZ E x Z' S') → Q (nI (Z 10 0)) S') : p_L_touch E x S Q := by
  obtain ⟨ad, la, V, ⟨hC, rfl⟩, hV, hI⟩ := h
  have hMz := hI.M
  obtain ⟨v1, v2, v3, v4⟩ := hV.L
  have vJ := hV.J
  have hd : V 1006 0 0 < Z 10 0 + 2 := vJ.2.2.2.1
  have h12 := hI.T.1
  have e3 := hV.T.1
  refine ⟨hC.o 10 0 z1, hC.o 10 0 z1, hC.vr 1006 z1 (fun _ => ⟨hC.o 9 _ hd, hC.ex 906 _ hd (c_size hC 906 _ hd ?_)⟩)⟩
  rw [v1]
  refine ⟨fun c => ⟨hC.o 10 0 z1, c_room hC (fun lt => ⟨hC.o 10 0 z1, _, (hC.vrR 1006 z1).2, _, hC.sgR 1004 6 z1, hC.o 9 _ hd, ?_⟩) (fun nl => absurd (by rw [e3]; exact l12) nl)⟩, fun c => absurd ((nI_eq (b := 0) (by omega) (by decide)).mp c) (by omega)⟩
  · rw [e3] at lt
    have LD : z_LD Z (fun k => Z 9 k / 3) (fun k => Z 9 k % 3) (Z 4 (Z 9 0 / 3)) (Z 8 0) := ⟨(hMz.2 _ (v3 0 p8).2.2.1).1, v2, fun k hk => ⟨(v3 k hk).2.2.1, Nat.mod_lt _ (by decide), (v3 k hk).2.2.2⟩⟩
    refine c_writeFrom (a := 0) (q0 := Z 8 0) hC hV.M hMz (fun k hk => (v3 k hk).2.2.1) LD hd ⟨v4 p8, v1, fun k hk => ⟨(v3 k hk).1, (v3 k hk).2.1⟩⟩ (Nat.zero_le _) (v_Wp0 hV.2.2.2.2.2.1) (fun V1 S1 g1 ag w e5 => ?_)
    have nslot : ∀ f, f ≠ 600 → f ≠ 902 → f ≠ 903 → f ≠ 904 → f ≠ 905 → f ≠ 908 → V1 f = V f := fun f a b c d e k => ag.f a b c d e k
    have e3' : V1 1003 = V 1003 := nslot 1003 (by decide) (by decide) (by decide) (by decide) (by decide) (by decide)
    have e6' : V1 1006 = V 1006 := nslot 1006 (by decide) (by decide) (by decide) (by decide) (by decide) (by decide)
    have r6 := (g1.vrR 1006 z1).2
    rw [e6'] at r6
    refine ⟨g1.o 10 0 z1, _, r6, c_keep g1 hd (by rw [e3', e3]; omega) (fun la' cp S2 g2 => ?_)⟩
    obtain ⟨k1, k2, k3, k4, k5⟩ := v_kp V1 (V 1006 0 0) cp (V1 1003 0 0)
    rw [e3', e3] at g2 k1 k2 k3 k4 k5 ⊢
    generalize vadd (u3 V1 900 (V 1006 0 0) 0 (Z 10 0)) 1003 0 cp (V 1006 0 0) = V2 at *
    refine c_newTouch (P := fun q20 S24 => _) g2 (fun ad' q20 V3 S3 g3 eq ea b1 b2 b3 => ?_)
    have ea10 : ad' 10 0 = ad 10 0 := ea 10 0 z1
    have o10 := g3.o 10 0 z1
    have gV := g3.wV 1006 (Z 10 0 + 2) (by decide) z1 (Nat.lt_succ_self _)
    rw [show (1006 : Nat) / 100 = 10 from rfl, ea10, eq] at gV
    rw [ea10] at o10
    refine ⟨o10, ?_⟩
    rintro _ rfl
    refine k _ (fun Z4 ta z8 => ?_)
    have sT : V 1006 0 0 ≠ Z 10 0 + 2 := by omega
    -- the slot of the draft in the end
    have f6 : ∀ f, f ≠ 900 → f ≠ 1003 → f ≠ 3003 → f ≠ 5003 → f ≠ 1006 → u3 V3 1006 0 0 (Z 10 0 + 2) f (V 1006 0 0) = V1 f (V 1006 0 0) := fun f a b c d e => by
      rw [u3_f e, b2 f _ sT, k1 f (by simp only [List.mem_cons, List.not_mem_nil, or_false]; omega)]
    have f600 : u3 V3 1006 0 0 (Z 10 0 + 2) 600 = V1 600 := by
      rw [u3_f (by decide), b1 600 (by decide), k1 600 (by decide)]
    have r := RV.kp (V' := u3 V3 1006 0 0 (Z 10 0 + 2)) (s := V 1006 0 0) (fr := 1006) (ofs := fun k => (z_tcG Z (fun k => Z 9 k / 3) (fun k => Z 9 k % 3) k).length) hV hI ta lt ⟨p8, v2⟩ (fun k hk => (v3 k hk).2.2) (Or.inl ⟨rfl, rfl⟩) (fun f hf => ?_) (fun f hf a ha haT => ?_) ?_ ?_ (fun j => ?_) (u3_s _ _ _ _ _) ?_ ?_ ?_ ?_
    · exact RZ.mk gV ea10 r.1 r.2 (by rw [ta.1 3 (by decide)]) (by rw [ta.2.1]) (by rw [ta.1 27 (by decide)])
    · have mm : f ≠ 600 ∧ f ≠ 900 ∧ f ≠ 902 ∧ f ≠ 903 ∧ f ≠ 904 ∧ f ≠ 905 ∧ f ≠ 908 ∧ f ≠ 1006 ∧ f ∉ [900, 901, 902, 903, 904, 905, 906, 907, 908, 4906, 4907, 4908] ∧ f ∉ [900, 1003, 3003, 5003] := by
        simp only [List.mem_cons, List.not_mem_nil, or_false] at hf ⊢
        omega
      rw [u3_f mm.2.2.2.2.2.2.2.1, b1 f mm.2.2.2.2.2.2.2.2.1, k1 f mm.2.2.2.2.2.2.2.2.2]
      exact nslot f mm.1 mm.2.2.1 mm.2.2.2.1 mm.2.2.2.2.1 mm.2.2.2.2.2.1 mm.2.2.2.2.2.2.1
    · have m6 : f ≠ 1006 ∧ f ≠ 600 ∧ f ≠ 1003 ∧ f ≠ 3003 ∧ f ≠ 5003 := by
        simp only [List.mem_cons, List.not_mem_nil, or_false] at hf
        omega
      rw [u3_f m6.1, b2 f a haT, ← ag f a m6.2.1 (fun x => ha x.2)]
      by_cases e : f = 900
      · rw [e]
        exact k5 a ha
      · rw [k1 f (by simp only [List.mem_cons, List.not_mem_nil, or_false]; omega)]
    · rw [u3_f (by decide), b2 900 _ sT]
      exact k4
    · rw [u3_f (by decide), b1 1003 (by decide), k2]
    · rw [u3_f (by decide), b1 3003 (by decide), k3, nslot 3003 (by decide) (by decide) (by decide) (by decide) (by decide) (by decide)]
    · unfold v_LD
      rw [f6 901 (by decide) (by decide) (by decide) (by decide) (by decide), f6 906 (by decide) (by decide) (by decide) (by decide) (by decide), f6 2906 (by decide) (by decide) (by decide) (by decide) (by decide), f6 907 (by decide) (by decide) (by decide) (by decide) (by decide), nslot 901 (by decide) (by decide) (by decide) (by decide) (by decide) (by decide), nslot 906 (by decide) (by decide) (by decide) (by decide) (by decide) (by decide), nslot 2906 (by decide) (by decide) (by decide) (by decide) (by decide) (by decide), nslot 907 (by decide) (by decide) (by decide) (by decide) (by decide) (by decide)]
      exact ⟨v4 p8, v1, fun k hk => ⟨(v3 k hk).1, (v3 k hk).2.1⟩⟩
    · exact vW_cg w (f6 902 (by decide) (by decide) (by decide) (by decide) (by decide)) (f6 903 (by decide) (by decide) (by decide) (by decide) (by decide)) (f6 904 (by decide) (by decide) (by decide) (by decide) (by decide)) (f6 908 (by decide) (by decide) (by decide) (by decide) (by decide)) f600
    · rw [f6 905 (by decide) (by decide) (by decide) (by decide) (by decide)]
      exact e5
    · unfold V_L
      rw [u3_s, u3_f (show 906 ≠ 1006 by decide), b3, z8]
      exact ⟨rfl, by decide, fun k hk => absurd hk (Nat.not_lt_zero k), fun h => absurd h (Nat.lt_irrefl 0)⟩
end JD
