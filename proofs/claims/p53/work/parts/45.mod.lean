/-! false rows, as the reference tells them -/
def ro_any (x : Nat) (f : Nat → Nat) : Nat → Bool
  | 0 => false
  | j + 1 => ro_any x f j || x == f j
def ro_cls (n : Nat) (f : Nat → Nat) (L : Nat) : Nat → List Nat → Bool
  | _, [] => false
  | r, c :: cs => ro_any (ro_af n c r) f L || ro_cls n f L (ro_af n c r) cs
theorem ro_any_iff (x : Nat) (f : Nat → Nat) : ∀ L, ro_any x f L = true ↔ ∃ j, j < L ∧ x = f j
  | 0 => by simp [ro_any]
  | L + 1 => by
    unfold ro_any
    rw [Bool.or_eq_true, ro_any_iff x f L, beq_iff_eq]
    constructor
    · rintro (⟨j, h, e⟩ | e)
      · exact ⟨j, by omega, e⟩
      · exact ⟨L, by omega, e⟩
    · rintro ⟨j, h, e⟩
      by_cases a : j = L
      · subst a
        exact Or.inr e
      · exact Or.inl ⟨j, by omega, e⟩
theorem ro_cls_iff (n : Nat) (f : Nat → Nat) (L : Nat) : ∀ (cs : List Nat) (r : Nat), ro_cls n f L r cs = true ↔ ∃ x, x ∈ ro_ws n r cs ∧ ∃ j, j < L ∧ x = f j
  | [], r => by simp [ro_cls, ro_ws]
  | c :: cs, r => by
    unfold ro_cls ro_ws
    rw [Bool.or_eq_true, ro_any_iff, ro_cls_iff n f L cs]
    constructor
    · rintro (h | ⟨x, hx, h⟩)
      · exact ⟨_, List.mem_cons_self, h⟩
      · exact ⟨x, List.mem_cons_of_mem _ hx, h⟩
    · rintro ⟨x, hx, h⟩
      rcases List.mem_cons.mp hx with e | e
      · rw [e] at h
        exact Or.inl h
      · exact Or.inr ⟨x, e, h⟩
theorem ro_cls_app (n : Nat) (f : Nat → Nat) (L : Nat) : ∀ (cs : List Nat) (r c : Nat), ro_cls n f L r (cs ++ [c]) = (ro_cls n f L r cs || ro_any (ro_af n c (ro_la n r cs)) f L)
  | [], r, c => by simp [ro_cls, ro_la]
  | d :: cs, r, c => by
    show (ro_any _ f L || ro_cls n f L _ (cs ++ [c])) = _
    rw [ro_cls_app n f L cs, ← Bool.or_assoc]
    rfl
section MN
variable {E : zE} {ma : Nat → Nat} {Z : zZ} {m : Nat} {S : zS} {X : String → zS → Prop}
theorem z_lc_0 (Z : zZ) (i k : Nat) : z_ch Z i 0 k = Z 6 (12 * i + k) := if_neg (fun h => absurd h.2 (by decide))
theorem m_lays_L {K Q : zS → Prop} {i : Nat} (hM : z_M Z) (hi : i < Z 3 0) (k : ∀ Z' S', RM ma Z' m S' → (∀ f, f ≠ 15 → Z' f = Z f) → (∀ j x, (ro_ws (Z 4 i) (ro_rnd (Z 4 i)) (z_lc Z i 0))[j]? = some x → Z' 15 j = x) → K S') :
    ∀ (w j : Nat) (Z' : zZ) (S : zS), RM ma Z' m S → (∀ f, f ≠ 15 → Z' f = Z f) → j ≤ Z 5 i → Z 5 i < j + w → (∀ q x, (ro_ws (Z 4 i) (ro_rnd (Z 4 i)) ((List.range j).map (z_ch Z i 0)))[q]? = some x → Z' 15 q = x) → p_X11_laysPlain_L12 E K Q X w m (nI i) (nI (ro_la (Z 4 i) (ro_rnd (Z 4 i)) ((List.range j).map (z_ch Z i 0)))) (nI j) S
  | 0, j, Z', S, h, hf, h1, h2, h3 => by omega
  | w + 1, j, Z', S, h, hf, h1, h2, h3 => by
    have hb := z_M_n hM hi
    have hN := (hM.2 i hi).1
    refine ⟨h.1, h.ij 5 i rfl (by show _ < 8; omega) ?_⟩
    rw [h.a 5, hf 5 (by decide)]
    refine pk_le (Z 5 i) j (fun h4 => ?_) (fun h4 => h.ij 4 i rfl (by show _ < 8; omega) (h.ij 6 (12 * i + j) ?_ (by show _ < 96; omega) ?_))
    · have : j = Z 5 i := by omega
      subst this
      exact k Z' S h hf h3
    · rw [show (12 : Int32) * nI i = nI (12 * i) from pk_mul 12 i, nI_add]
    · have hj := z_M_ch hM hi (c := 0) (by decide) h4
      obtain ⟨s0, _, _, _, hc64⟩ := ro_f0 hN hj
      have hV := ro_la_V hN ((List.range j).map (z_ch Z i 0)) _ (ro_V_rnd hN).1 (fun x hx => by
        obtain ⟨k2, hk2, e6⟩ := List.mem_map.mp hx
        rw [← e6]
        exact z_M_ch hM hi (by decide) (by have := List.mem_range.mp hk2; omega))
      have hVl := ro_V_lt hN hV
      have e9 : (List.range (j + 1)).map (z_ch Z i 0) = (List.range j).map (z_ch Z i 0) ++ [z_ch Z i 0 j] := by
        rw [List.range_succ, List.map_append]
        rfl
      have hlen : ((List.range j).map (z_ch Z i 0)).length = j := by rw [List.length_map, List.length_range]
      rw [h.a 4, h.a 6, hf 4 (by decide), hf 6 (by decide), ← z_lc_0 Z i j]
      refine w1_changed (by omega) (by omega) (by omega) ⟨h.1, h.ij 15 j rfl (by show _ < 12; omega) ?_⟩
      refine h.wA 15 j (ro_af (Z 4 i) (z_ch Z i 0 j) (ro_la (Z 4 i) (ro_rnd (Z 4 i)) ((List.range j).map (z_ch Z i 0)))) rfl (fun S2 g2 => ?_)
      rw [nI_1]
      have h5 := m_lays_L (Q := Q) hM hi k w (j + 1) _ S2 g2 (fun f hf2 => by rw [up_f hf2]; exact hf f hf2) (by omega) (by omega) (fun q x hx => by
        rw [e9, ro_ws_1] at hx
        by_cases e : q < j
        · rw [List.getElem?_append_left (by rw [ro_ws_len, hlen]; exact e)] at hx
          rw [up_i (by omega)]
          exact h3 q x hx
        · rw [List.getElem?_append_right (by rw [ro_ws_len, hlen]; omega), ro_ws_len, hlen] at hx
          have e2 : q - j = 0 := by
            by_cases e3 : q - j = 0
            · exact e3
            · rw [List.getElem?_eq_none (by show 1 ≤ _; omega)] at hx
              exact absurd hx (by simp)
          rw [e2] at hx
          have e4 : q = j := by omega
          rw [e4, up_s]
          simpa using hx)
      rw [e9, ro_la_1] at h5
      exact h5
theorem m_laysPlain {Q : zS → Prop} {i : Nat} (h : RM ma Z m S) (hM : z_M Z) (hi : i < Z 3 0) (k : ∀ Z' S', RM ma Z' m S' → (∀ f, f ≠ 15 → Z' f = Z f) → (∀ j x, (ro_ws (Z 4 i) (ro_rnd (Z 4 i)) (z_lc Z i 0))[j]? = some x → Z' 15 j = x) → Q S') : p_X11_laysPlain E m (nI i) S Q X := by
  have hb := z_M_n hM hi
  refine ⟨h.1, h.ij 4 i rfl (by show _ < 8; omega) ?_⟩
  rw [h.a 4]
  exact w1_rounds (by omega) ⟨13, m_lays_L hM hi k 13 0 Z S h (fun _ _ => rfl) (by omega) (by omega) (fun q x hx => by simp [ro_ws] at hx)⟩
theorem m_cl_L47 {K : Nat → Int32 → Int32 → Int32 → Int32 → Int32 → zS → Prop} {Q : Int32 → zS → Prop} {i x : Nat} {l2 l5 : Int32} {g0 : Bool} (h : RM ma Z m S) (hM : z_M Z) (hi : i < Z 3 0) (hx : x < 2 ^ 31) (h15 : ∀ j, j < Z 5 i → Z 15 j < 2 ^ 31) (k : K m (nI i) l2 (zb (g0 || ro_any x (Z 15) (Z 5 i))) (nI x) l5 S) :
    ∀ (w j : Nat), j ≤ Z 5 i → Z 5 i < j + w → p_X11_clashes_L47 E K Q X w m (nI i) l2 (zb (g0 || ro_any x (Z 15) j)) (nI x) l5 (nI j) S
  | 0, j, h1, h2 => by omega
  | w + 1, j, h1, h2 => by
    have hb := z_M_n hM hi
    refine ⟨h.1, h.ij 5 i rfl (by show _ < 8; omega) ?_⟩
    rw [h.a 5]
    have h5 := fun hj : j < Z 5 i => m_cl_L47 (Q := Q) h hM hi hx h15 k w (j + 1) (by omega) (by omega)
    have e0 : ro_any x (Z 15) (j + 1) = (ro_any x (Z 15) j || x == Z 15 j) := rfl
    rw [e0, ← Bool.or_assoc] at h5
    refine pk_le (Z 5 i) j (fun h4 => ?_) (fun h4 => zb_d (fun h6 => ?_) (fun h6 => h.ij 15 j rfl (by show _ < 12; omega) ?_))
    · have : j = Z 5 i := by omega
      subst this
      exact k
    · have h7 := h5 h4
      rw [h6] at h7
      rw [nI_1]
      exact h7
    · have h7 := h5 h4
      have h8 := h15 j h4
      rw [h6] at h7
      rw [h.a 15, nI_eq hx h8, nI_1]
      refine ⟨fun h9 => ?_, fun h9 => ?_⟩
      · rw [show (x == Z 15 j) = false by simpa using h9] at h7
        exact h7
      · rw [show (x == Z 15 j) = true by simpa using h9] at h7
        exact h7
theorem m_cl_L8 {K : Nat → Int32 → Int32 → Int32 → zS → Prop} {Q : Int32 → zS → Prop} {i b : Nat} (h : RM ma Z m S) (hM : z_M Z) (hi : i < Z 3 0) (hV : ro_V (Z 4 i) b) (h15 : ∀ j, j < Z 5 i → Z 15 j < 2 ^ 31) (k : K m (nI i) (nI b) (zb (ro_cls (Z 4 i) (Z 15) (Z 5 i) b (z_lc Z i 0))) S) :
    ∀ (w j : Nat), j ≤ Z 5 i → Z 5 i < j + w → p_X11_clashes_L8 E K Q X w m (nI i) (nI b) (zb (ro_cls (Z 4 i) (Z 15) (Z 5 i) b ((List.range j).map (z_ch Z i 0)))) (nI (ro_la (Z 4 i) b ((List.range j).map (z_ch Z i 0)))) (nI j) S
  | 0, j, h1, h2 => by omega
  | w + 1, j, h1, h2 => by
    have hb := z_M_n hM hi
    have hN := (hM.2 i hi).1
    refine ⟨h.1, h.ij 5 i rfl (by show _ < 8; omega) ?_⟩
    rw [h.a 5]
    refine pk_le (Z 5 i) j (fun h4 => ?_) (fun h4 => h.ij 4 i rfl (by show _ < 8; omega) (h.ij 6 (12 * i + j) ?_ (by show _ < 96; omega) ?_))
    · have : j = Z 5 i := by omega
      subst this
      exact k
    · rw [show (12 : Int32) * nI i = nI (12 * i) from pk_mul 12 i, nI_add]
    · have hj := z_M_ch hM hi (c := 0) (by decide) h4
      obtain ⟨s0, _, _, _, hc64⟩ := ro_f0 hN hj
      have hV2 := ro_la_V hN ((List.range j).map (z_ch Z i 0)) _ hV (fun x hx => by
        obtain ⟨k2, hk2, e6⟩ := List.mem_map.mp hx
        rw [← e6]
        exact z_M_ch hM hi (by decide) (by have := List.mem_range.mp hk2; omega))
      have hVl := ro_V_lt hN hV2
      have hV3 := ro_V_lt hN (ro_af_V hN hV2 hj).1
      have e9 : (List.range (j + 1)).map (z_ch Z i 0) = (List.range j).map (z_ch Z i 0) ++ [z_ch Z i 0 j] := by
        rw [List.range_succ, List.map_append]
        rfl
      rw [h.a 4, h.a 6, ← z_lc_0 Z i j]
      refine w1_changed (by omega) (by omega) (by omega) ⟨13, ?_⟩
      have h7 := m_cl_L47 (E := E) (X := X) (Q := Q) (l2 := nI b) (l5 := nI j) (x := ro_af (Z 4 i) (z_ch Z i 0 j) (ro_la (Z 4 i) b ((List.range j).map (z_ch Z i 0)))) (g0 := ro_cls (Z 4 i) (Z 15) (Z 5 i) b ((List.range j).map (z_ch Z i 0))) (K := fun (a0 : Nat) (l1 : Int32) (l2 : Int32) (l3 : Int32) (l4 : Int32) (l5 : Int32) (S : zS) => p_X11_clashes_L8 E K Q X w a0 l1 l2 l3 l4 (l5 + 1) S) h hM hi (by omega) h15 (by
        have h8 := m_cl_L8 (Q := Q) h hM hi hV h15 k w (j + 1) (by omega) (by omega)
        rw [e9, ro_cls_app, ro_la_1] at h8
        show p_X11_clashes_L8 E K Q X w m (nI i) (nI b) _ _ (nI j + 1) S
        rw [nI_1]
        exact h8) 13 0 (by omega) (by omega)
      rw [show ro_any (ro_af (Z 4 i) (z_ch Z i 0 j) (ro_la (Z 4 i) b ((List.range j).map (z_ch Z i 0)))) (Z 15) 0 = false from rfl, Bool.or_false] at h7
      exact h7
theorem m_clashes {Q : Int32 → zS → Prop} {i b : Nat} (h : RM ma Z m S) (hM : z_M Z) (hi : i < Z 3 0) (hV : ro_V (Z 4 i) b) (h15 : ∀ j, j < Z 5 i → Z 15 j < 2 ^ 31) (k : Q (zb (ro_cls (Z 4 i) (Z 15) (Z 5 i) b (z_lc Z i 0) && !(b == ro_rnd (Z 4 i)))) S) : p_X11_clashes E m (nI i) (nI b) S Q X := by
  have hb := z_M_n hM hi
  have hN := (hM.2 i hi).1
  have b1 := ro_V_lt hN hV
  have b2 := ro_V_lt hN (ro_V_rnd hN).1
  refine ⟨13, m_cl_L8 h hM hi hV h15 (zb_c (fun h1 => ⟨Or.inl rfl, ?_⟩) (fun h1 => ⟨h.1, h.ij 4 i rfl (by show _ < 8; omega) ?_⟩)) 13 0 (by omega) (by omega)⟩
  · rw [h1] at k
    exact k
  · rw [h.a 4]
    refine w1_rounds (by omega) ?_
    rw [nI_eq (by omega) (by omega)]
    rw [h1] at k
    refine ⟨fun h2 => ⟨Or.inl rfl, ?_⟩, fun h2 => ⟨Or.inr rfl, ?_⟩⟩
    · rw [show (b == ro_rnd (Z 4 i)) = true by simpa using h2] at k
      exact k
    · rw [show (b == ro_rnd (Z 4 i)) = false by simpa using h2] at k
      exact k
end MN
