/-! a touch's rows, one behind the other -/
theorem v_ag.f {V V' : vV} {s f : Nat} (h : v_ag V V' s) (h0 : f ≠ 600) (h1 : f ≠ 902) (h2 : f ≠ 903) (h3 : f ≠ 904) (h4 : f ≠ 905) (h5 : f ≠ 908) : V' f = V f := funext fun a => h f a h0 (fun e => by omega)
theorem v_ag.M {V V' : vV} {Z : zZ} {s : Nat} (h : v_ag V V' s) (hV : V_M V Z) : V_M V' Z := hV.cg (fun f hf => by
  have : ∀ f, f ∈ [1000, 3000, 500, 501, 502, 503, 504, 505, 506] → f ≠ 600 ∧ f ≠ 902 ∧ f ≠ 903 ∧ f ≠ 904 ∧ f ≠ 905 ∧ f ≠ 908 := by decide
  have w := this f hf
  exact h.f w.1 w.2.1 w.2.2.1 w.2.2.2.1 w.2.2.2.2.1 w.2.2.2.2.2) (fun _ _ => rfl)
section WS
variable {n s c : Nat} {V : vV} {cs : List Nat} {ofs : Nat → Nat}
theorem vW_rows (h : ∀ r x, (ro_ws n (ro_rnd n) cs)[r]? = some x → V 908 s r = x) : ∀ r x, (ro_ws n (ro_rnd n) (cs ++ [c]))[r]? = some x → u3 V 908 s cs.length (ro_af n c (ro_la n (ro_rnd n) cs)) 908 s r = x := by
  intro r x hx
  by_cases e : r < cs.length
  · rw [ro_ws_lt e] at hx
    rw [u3_j (by omega)]
    exact h r x hx
  · by_cases e2 : r = cs.length
    · subst e2
      rw [ro_ws_get] at hx
      rw [u3_s]
      exact Option.some.inj hx
    · rw [List.getElem?_eq_none (by rw [ro_ws_len, List.length_append]; show cs.length + 1 ≤ r; omega)] at hx
      exact absurd hx (by simp)
theorem vW_rep (h : v_W n V s cs ofs) (hr : ¬ nI (V 903 s 0) = -1) : v_W n (u3 (u3 V 908 s cs.length (ro_af n c (ro_la n (ro_rnd n) cs))) 902 s 0 (cs.length + 1)) s (cs ++ [c]) ofs := by
  obtain ⟨h1, h2, h3, B, b1, b2, b3⟩ := h
  have l1 : (cs ++ [c]).length = cs.length + 1 := by rw [List.length_append]; rfl
  refine ⟨by rw [u3_s, l1], fun r x hx => by rw [u3_f (by decide)]; exact vW_rows h2 r x hx, fun k => by rw [u3_f (by decide), u3_f (by decide)]; exact h3 k, ?_⟩
  rcases b3 with ⟨_, e⟩ | ⟨e1, e2, ⟨k, hk, ek⟩, e4⟩
  · exact absurd e hr
  · have r8 : ∀ r, r ≤ B → u3 (u3 V 908 s cs.length (ro_af n c (ro_la n (ro_rnd n) cs))) 902 s 0 (cs.length + 1) 908 s r = V 908 s r := fun r hr => by
      rw [u3_f (by decide), u3_j (by omega)]
    refine ⟨B, fun r hr k hk => ?_, fun r hr => ?_, Or.inr ⟨by omega, ?_, ⟨k, hk, ?_⟩, ?_⟩⟩
    · rw [r8 k (by omega), r8 r (by omega)]
      exact b1 r hr k hk
    · rw [r8 r (by omega), u3_f (by decide), u3_f (by decide)]
      exact b2 r hr
    · rw [u3_f (by decide), u3_f (by decide)]
      exact e2
    · rw [r8 k (by omega), r8 B (by omega)]
      exact ek
    · rw [u3_f (by decide), u3_f (by decide)]
      exact e4
theorem vW_no (hN : ro_N n) (hc : ∀ x, x ∈ cs ++ [c] → ro_isC n x = true) (h : v_W n V s cs ofs) (hr : nI (V 903 s 0) = -1) (hL : cs.length < 240) (hu : ∀ k, k < cs.length → V 908 s k ≠ ro_af n c (ro_la n (ro_rnd n) cs)) :
    v_W n (u3 (u3 (u3 V 908 s cs.length (ro_af n c (ro_la n (ro_rnd n) cs))) 600 0 (ro_num n (ro_af n c (ro_la n (ro_rnd n) cs)) 7 0 0) cs.length) 902 s 0 (cs.length + 1)) s (cs ++ [c]) ofs := by
  obtain ⟨h1, h2, h3, B, b1, b2, b3⟩ := h
  have l1 : (cs ++ [c]).length = cs.length + 1 := by rw [List.length_append]; rfl
  have hBL : B = cs.length := by
    rcases b3 with ⟨e, _⟩ | ⟨_, e2, _, _⟩
    · exact e
    · exfalso
      rw [e2] at hr
      exact z_oi_n (by omega) hr
  subst hBL
  have vr : ∀ r, r < cs.length → ro_V n (V 908 s r) := fun r hr => by
    obtain ⟨x, hx⟩ := ro_ws_some (n := n) hr
    rw [h2 r x hx]
    exact ro_ws_V hN cs _ (ro_V_rnd hN).1 (fun y hy => hc y (List.mem_append_left _ hy)) x (List.mem_of_getElem? hx)
  have vx : ro_V n (ro_af n c (ro_la n (ro_rnd n) cs)) := (ro_af_V hN (ro_la_V hN cs _ (ro_V_rnd hN).1 (fun y hy => hc y (List.mem_append_left _ hy))) (hc c (List.mem_append_right _ (List.mem_singleton.mpr rfl)))).1
  have r8 : ∀ r, r < cs.length → u3 (u3 (u3 V 908 s cs.length (ro_af n c (ro_la n (ro_rnd n) cs))) 600 0 (ro_num n (ro_af n c (ro_la n (ro_rnd n) cs)) 7 0 0) cs.length) 902 s 0 (cs.length + 1) 908 s r = V 908 s r := fun r hr => by
    rw [u3_f (by decide), u3_f (by decide), u3_j (by omega)]
  have rL : u3 (u3 (u3 V 908 s cs.length (ro_af n c (ro_la n (ro_rnd n) cs))) 600 0 (ro_num n (ro_af n c (ro_la n (ro_rnd n) cs)) 7 0 0) cs.length) 902 s 0 (cs.length + 1) 908 s cs.length = ro_af n c (ro_la n (ro_rnd n) cs) := by
    rw [u3_f (by decide), u3_f (by decide), u3_s]
  refine ⟨by rw [u3_s, l1], fun r x hx => by rw [u3_f (by decide), u3_f (by decide)]; exact vW_rows h2 r x hx, fun k => ?_, cs.length + 1, fun r hr k hk => ?_, fun r hr => ?_, Or.inl ⟨l1.symm, ?_⟩⟩
  · rw [u3_f (show 600 ≠ 902 by decide)]
    by_cases e : k = ro_num n (ro_af n c (ro_la n (ro_rnd n) cs)) 7 0 0
    · rw [e, u3_s]
      exact hL
    · rw [u3_j e, u3_f (by decide)]
      exact h3 k
  · rw [r8 k (by omega)]
    by_cases e : r = cs.length
    · rw [e, rL]
      exact hu k (by omega)
    · rw [r8 r (by omega)]
      exact b1 r (by omega) k hk
  · rw [u3_f (show 600 ≠ 902 by decide)]
    by_cases e : r = cs.length
    · rw [e, rL, u3_s]
    · rw [r8 r (by omega), u3_j, u3_f (by decide)]
      · exact b2 r (by omega)
      · intro x
        exact hu r (by omega) (ro_num_inj hN (vr r (by omega)) vx x)
  · rw [u3_f (by decide), u3_f (by decide), u3_f (by decide)]
    exact hr
theorem vW_yes {q : Nat} (h : v_W n V s cs ofs) (hr : nI (V 903 s 0) = -1) (hL : cs.length < 240) (hu : ∃ k, k < cs.length ∧ V 908 s k = ro_af n c (ro_la n (ro_rnd n) cs)) (o1 : ofs q ≤ cs.length) (o2 : cs.length < ofs (q + 1)) :
    v_W n (u3 (u3 (u3 (u3 V 908 s cs.length (ro_af n c (ro_la n (ro_rnd n) cs))) 903 s 0 cs.length) 904 s 0 q) 902 s 0 (cs.length + 1)) s (cs ++ [c]) ofs := by
  obtain ⟨h1, h2, h3, B, b1, b2, b3⟩ := h
  have l1 : (cs ++ [c]).length = cs.length + 1 := by rw [List.length_append]; rfl
  have hBL : B = cs.length := by
    rcases b3 with ⟨e, _⟩ | ⟨_, e2, _, _⟩
    · exact e
    · exfalso
      rw [e2] at hr
      exact z_oi_n (by omega) hr
  subst hBL
  have r8 : ∀ r, u3 (u3 (u3 (u3 V 908 s cs.length (ro_af n c (ro_la n (ro_rnd n) cs))) 903 s 0 cs.length) 904 s 0 q) 902 s 0 (cs.length + 1) 908 s r = u3 V 908 s cs.length (ro_af n c (ro_la n (ro_rnd n) cs)) 908 s r := fun r => by
    rw [u3_f (by decide), u3_f (by decide), u3_f (by decide)]
  obtain ⟨k0, hk0, ek0⟩ := hu
  refine ⟨by rw [u3_s, l1], fun r x hx => by rw [r8]; exact vW_rows h2 r x hx, fun k => by rw [u3_f (by decide), u3_f (by decide), u3_f (by decide), u3_f (by decide)]; exact h3 k, cs.length, fun r hr k hk => ?_, fun r hr => ?_, Or.inr ⟨by omega, ?_, ⟨k0, hk0, ?_⟩, ?_⟩⟩
  · rw [r8, r8, u3_j (by omega), u3_j (by omega)]
    exact b1 r hr k hk
  · have e9 : u3 V 908 s cs.length (ro_af n c (ro_la n (ro_rnd n) cs)) 908 s r = V 908 s r := u3_j (by omega)
    rw [r8, e9, u3_f (by decide), u3_f (by decide), u3_f (by decide), u3_f (by decide)]
    exact b2 r hr
  · rw [u3_f (by decide), u3_f (by decide), u3_s]
  · rw [r8, r8, u3_j (by omega), u3_s]
    exact ek0
  · rw [u3_f (by decide), u3_s]
    exact ⟨o1, o2⟩
end WS
section WRU
variable {E : zE} {ad la : Nat → Nat → Nat} {M T R : Nat} {V : vV} {Z : zZ} {S : zS} {X : String → zS → Prop}
theorem c_wl_L {K Q : zS → Prop} {n s q i c : Nat} {p0 : List Nat} {ofs : Nat → Nat} (hV : V_M V Z) (hM : z_M Z) (hs : s < T) (hi : i < M) (hi2 : i < Z 3 0) (hn : Z 4 i = n) (hq : q < 20) (hc : c < 3) (e7 : V 907 s q = c) (e1 : V 901 s 0 = n)
    (hp : ∀ x, x ∈ p0 → ro_isC n x = true) (hp2 : p0.length ≤ 12 * q) (o1 : ofs q = p0.length) (o2 : ofs (q + 1) = p0.length + Z 5 i)
    (k : ∀ V' S', RC E ad la (sd M T R) V' S' → v_ag V V' s → v_W n V' s (p0 ++ z_lc Z i c) ofs → K S') :
    ∀ (w j : Nat) (V' : vV) (S : zS), RC E ad la (sd M T R) V' S → v_ag V V' s → j ≤ Z 5 i → Z 5 i < j + w → v_W n V' s (p0 ++ (List.range j).map (z_ch Z i c)) ofs → p_X9_writeLead_L21 E K Q X w (ad 9 s) (nI q) (ad 6 0) (ad 5 i) (nI (ro_la n (ro_rnd n) (p0 ++ (List.range j).map (z_ch Z i c)))) (nI j) S
  | 0, j, V', S, h, ha, h1, h2, hW => by omega
  | w + 1, j, V', S, h, ha, h1, h2, hW => by
    have b := z_M_n hM hi2
    have hN : ro_N n := by rw [← hn]; exact (hM.2 i hi2).1
    have hn6 := ro_N6 hN
    have hV' := ha.M hV
    obtain ⟨_, v0, v1, v2, v4, v5, _⟩ := hV'.2 i hi2
    have f7 : V' 907 = V 907 := ha.f (by decide) (by decide) (by decide) (by decide) (by decide) (by decide)
    have f1 : V' 901 = V 901 := ha.f (by decide) (by decide) (by decide) (by decide) (by decide) (by decide)
    have hlen : (p0 ++ (List.range j).map (z_ch Z i c)).length = p0.length + j := by rw [List.length_append, List.length_map, List.length_range]
    have hcs : ∀ x, x ∈ p0 ++ (List.range j).map (z_ch Z i c) → ro_isC n x = true := by
      intro x hx
      rcases List.mem_append.mp hx with e | e
      · exact hp x e
      · obtain ⟨k2, hk2, e6⟩ := List.mem_map.mp e
        rw [← e6, ← hn]
        exact z_M_ch hM hi2 hc (by have := List.mem_range.mp hk2; omega)
    have hVl := ro_la_V hN _ _ (ro_V_rnd hN).1 hcs
    refine ⟨h.o 5 i hi, ?_⟩
    rw [h.gi 502 5 i hi, v2]
    refine pk_le (Z 5 i) j (fun h3 => ?_) (fun h3 => ⟨h.o 9 s hs, ?_⟩)
    · have : j = Z 5 i := by omega
      subst this
      exact k V' S h ha hW
    · have hj := z_M_ch hM hi2 hc h3
      rw [hn] at hj
      have hcs2 : ∀ x, x ∈ (p0 ++ (List.range j).map (z_ch Z i c)) ++ [z_ch Z i c j] → ro_isC n x = true := fun x hx => by
        rcases List.mem_append.mp hx with e | e
        · exact hcs x e
        · rw [List.mem_singleton.mp e]
          exact hj
      have hL : (p0 ++ (List.range j).map (z_ch Z i c)).length < 240 := by rw [hlen]; omega
      have e9 : p0 ++ (List.range (j + 1)).map (z_ch Z i c) = (p0 ++ (List.range j).map (z_ch Z i c)) ++ [z_ch Z i c j] := by
        rw [List.range_succ, List.map_append, ← List.append_assoc]
        rfl
      have e2 : V' 902 s 0 = (p0 ++ (List.range j).map (z_ch Z i c)).length := hW.1
      have next : ∀ V2 S2, RC E ad la (sd M T R) V2 S2 → v_ag V V2 s → v_W n V2 s ((p0 ++ (List.range j).map (z_ch Z i c)) ++ [z_ch Z i c j]) ofs → p_X9_writeLead_L21 E K Q X w (ad 9 s) (nI q) (ad 6 0) (ad 5 i) (nI (ro_af n (z_ch Z i c j) (ro_la n (ro_rnd n) (p0 ++ (List.range j).map (z_ch Z i c))))) (nI j + 1) S2 := by
        intro V2 S2 g2 a2 w2
        have ih := c_wl_L (Q := Q) hV hM hs hi hi2 hn hq hc e7 e1 hp hp2 o1 o2 k w (j + 1) V2 S2 g2 a2 (by omega) (by omega) (by rw [e9]; exact w2)
        rw [e9, ro_la_1] at ih
        rw [nI_1]
        exact ih
      rw [h.gi 902 9 s hs, e2]
      generalize hcsg : p0 ++ (List.range j).map (z_ch Z i c) = cs at *
      refine pk_le 240 cs.length (fun h4 => by omega) (fun h4 => h.ij 907 s q hs rfl hq ?_)
      rw [h.ga 907 s q hs, f7, e7]
      refine c_changeOf h hV' hM hi hi2 hc h3 ⟨h.o 9 s hs, ?_⟩
      rw [h.gi 901 9 s hs, f1, e1]
      refine c_af hN hVl hj ⟨h.o 9 s hs, ?_⟩
      rw [h.gi 902 9 s hs, e2]
      refine h.ij 908 s cs.length hs rfl hL (h.uA 908 s cs.length (ro_af n (z_ch Z i c j) (ro_la n (ro_rnd n) cs)) hs rfl (fun S1 g1 => ?_))
      have a1 : v_ag V (u3 V' 908 s cs.length (ro_af n (z_ch Z i c j) (ro_la n (ro_rnd n) cs))) s := ha.u (by omega)
      have i3 : gI S1 903 (ad 9 s) = nI (V' 903 s 0) := by rw [g1.gi 903 9 s hs, u3_f (by decide)]
      have i2 : gI S1 902 (ad 9 s) = nI cs.length := by rw [g1.gi 902 9 s hs, u3_f (by decide), e2]
      have i1 : gI S1 901 (ad 9 s) = nI n := by rw [g1.gi 901 9 s hs, u3_f (by decide), f1, e1]
      rw [i3, i2, i1]
      have vr : ∀ r, r ≤ cs.length → ro_V n (u3 V' 908 s cs.length (ro_af n (z_ch Z i c j) (ro_la n (ro_rnd n) cs)) 908 s r) := by
        intro r hr
        obtain ⟨x, hx⟩ := ro_ws_some (n := n) (cs := cs ++ [z_ch Z i c j]) (r := r) (by rw [List.length_append]; show r < cs.length + 1; omega)
        rw [vW_rows hW.2.1 r x hx]
        exact ro_ws_V hN _ _ (ro_V_rnd hN).1 hcs2 x (List.mem_of_getElem? hx)
      refine ⟨fun h5 => g1.uI 902 9 s (cs.length + 1) hs (nI_1 _) (fun S2 g2 => next _ S2 g2 (a1.u (by omega)) (vW_rep hW h5)), fun h5 => ⟨_, g1.rR 908 9 s hs, g1.o 6 0 Nat.zero_lt_one, ?_⟩⟩
      have r8 : ∀ r, r < cs.length → u3 V' 908 s cs.length (ro_af n (z_ch Z i c j) (ro_la n (ro_rnd n) cs)) 908 s r = V' 908 s r := fun r hr => u3_j (by omega)
      refine c_isRepeat g1 hs hL hN vr (fun k => by rw [u3_f (by decide)]; exact hW.2.2.1 k) (fun r hr => ?_) (fun h6 => ⟨fun x => absurd x (by decide), fun _ => ⟨g1.o 9 s hs, ?_⟩⟩) (fun h6 S2 g2 => ⟨fun _ => ⟨g2.o 9 s hs, ?_⟩, fun x => absurd rfl x⟩)
      · obtain ⟨_, _, _, B, b1, b2, b3⟩ := hW
        have hB : B = cs.length := by
          rcases b3 with ⟨e, _⟩ | ⟨_, e2, _, _⟩
          · exact e
          · exfalso
            rw [e2] at h5
            exact z_oi_n (by omega) h5
        rw [r8 r hr, u3_f (by decide)]
        exact b2 r (by omega)
      · rw [i2]
        refine g1.uI 903 9 s cs.length hs rfl (fun S2 g2 => g2.uI 904 9 s q hs rfl (fun S3 g3 => ?_))
        have i4 : gI S3 902 (ad 9 s) = nI cs.length := by rw [g3.gi 902 9 s hs, u3_f (by decide), u3_f (by decide), u3_f (by decide), e2]
        rw [i4]
        refine g3.uI 902 9 s (cs.length + 1) hs (nI_1 _) (fun S4 g4 => next _ S4 g4 (((a1.u (by omega)).u (by omega)).u (by omega)) (vW_yes hW h5 hL ?_ (by rw [o1]; omega) (by rw [o2]; omega)))
        obtain ⟨k6, hk6, ek6⟩ := h6
        rw [r8 k6 hk6, u3_s] at ek6
        exact ⟨k6, hk6, ek6⟩
      · rw [u3_s] at g2
        have i4 : gI S2 902 (ad 9 s) = nI cs.length := by rw [g2.gi 902 9 s hs, u3_f (by decide), u3_f (by decide), e2]
        rw [i4]
        refine g2.uI 902 9 s (cs.length + 1) hs (nI_1 _) (fun S4 g4 => next _ S4 g4 ((a1.p).u (by omega)) (vW_no hN hcs2 hW h5 hL (fun k hk => ?_)))
        have := h6 k hk
        rw [r8 k hk, u3_s] at this
        exact this
end WRU
