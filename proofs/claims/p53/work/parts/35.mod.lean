section MD
variable {E : zE} {ma : Nat → Nat} {Z : zZ} {m : Nat} {S : zS} {X : String → zS → Prop}
theorem z_M_n {Z : zZ} (h : z_M Z) {i : Nat} (hi : i < Z 3 0) : 4 ≤ Z 4 i ∧ Z 4 i ≤ 6 ∧ 1 ≤ Z 5 i ∧ Z 5 i ≤ 12 ∧ i < 8 := by
  have h1 := h.2 i hi
  have h2 := h.1
  have h3 := h1.1
  unfold ro_N at h3
  omega
theorem m_stageOf {Q : Int32 → zS → Prop} {t : Nat} (h : RM ma Z m S) (hM : z_M Z) (ht : t < 12) (hx : Z 12 (20 * t) / 3 < Z 3 0) (k : Q (nI (z_st Z t)) S) : p_X11_stageOf E m (nI t) S Q X := by
  have h1 := z_M_n hM hx
  refine ⟨h.1, h.ij 12 (20 * t) (pk_mul 20 t) (by show _ < 240; omega) (h.ij 4 (Z 12 (20 * t) / 3) ?_ (by show _ < 8; omega) ?_)⟩
  · rw [h.a 12]
    exact pk_div (d := 3) (by omega) (by decide) (by decide)
  · rw [h.a 4]
    exact k
theorem m_changeOf {Q : Int32 → zS → Prop} {i c j : Nat} (h : RM ma Z m S) (hM : z_M Z) (hi : i < Z 3 0) (hc : c < 3) (hj : j < Z 5 i) (k : Q (nI (z_ch Z i c j)) S) : p_X11_changeOf E m (nI i) (nI c) (nI j) S Q X := by
  have h1 := z_M_n hM hi
  have e1 : (12 : Int32) * nI i + nI j = nI (12 * i + j) := by rw [show (12 : Int32) * nI i = nI (12 * i) from pk_mul 12 i, nI_add]
  have e2 : (nI (Z 5 i) - 1 : Int32) = nI (Z 5 i - 1) := pk_sub (b := 1) (by omega)
  refine ⟨h.1, h.ij 5 i rfl (by show _ < 8; omega) ?_⟩
  rw [h.a 5, e2]
  unfold z_ch at k
  have hp := pk_eq (x := nI j) (y := nI (Z 5 i - 1)) (A := True) (B := True) j (Z 5 i - 1) (fun _ => trivial) (fun _ => trivial)
  have he : nI j = nI (Z 5 i - 1) ↔ j = Z 5 i - 1 := nI_eq (by omega) (by omega)
  refine ⟨fun h9 => ?_, fun h9 => ?_⟩
  · rw [he] at h9
    rw [if_neg (fun x => h9 x.1)] at k
    refine h.ij 6 (12 * i + j) e1 (by show _ < 96; omega) ?_
    rw [h.a 6]
    exact k
  · rw [he] at h9
    refine pk_le c 0 (fun h8 => ?_) (fun h8 => ?_)
    · rw [if_neg (fun x => by omega)] at k
      refine h.ij 6 (12 * i + j) e1 (by show _ < 96; omega) ?_
      rw [h.a 6]
      exact k
    · rw [if_pos ⟨h9, h8⟩] at k
      refine h.ij 7 (2 * i + c - 1) ?_ (by show _ < 16; omega) ?_
      · rw [show (2 : Int32) * nI i = nI (2 * i) from pk_mul 2 i, nI_add]
        exact pk_sub (b := 1) (by omega)
      · rw [h.a 7]
        exact k
/-- the rows of a touch -/
def z_rw (Z : zZ) (t : Nat) : List Nat := ro_ws (z_st Z t) (ro_rnd (z_st Z t)) (z_cs Z t)
def z_E (Z Z' : zZ) : Prop := ∀ f, f ≠ 13 → f ≠ 14 → Z' f = Z f
theorem z_E_ch {Z Z' : zZ} (h : z_E Z Z') (i c j : Nat) : z_ch Z' i c j = z_ch Z i c j := by
  unfold z_ch
  rw [h 5 (by decide) (by decide), h 6 (by decide) (by decide), h 7 (by decide) (by decide)]
theorem z_E_M {Z Z' : zZ} (h : z_E Z Z') (hM : z_M Z) : z_M Z' := by
  unfold z_M
  rw [h 3 (by decide) (by decide), h 4 (by decide) (by decide), h 5 (by decide) (by decide), h 6 (by decide) (by decide), h 7 (by decide) (by decide)]
  exact hM
theorem z_E_up {Z Z' : zZ} (h : z_E Z Z') {f i v : Nat} (hf : f = 13 ∨ f = 14) : z_E Z (up Z' f i v) := fun g h1 h2 => by
  rw [up_f (by omega)]
  exact h g h1 h2
theorem ro_ws_1 (n r c : Nat) (cs : List Nat) : ro_ws n r (cs ++ [c]) = ro_ws n r cs ++ [ro_af n c (ro_la n r cs)] := by
  rw [ro_ws_app]
  rfl
theorem ro_la_1 (n r c : Nat) (cs : List Nat) : ro_la n r (cs ++ [c]) = ro_af n c (ro_la n r cs) := by
  rw [ro_la_app]
  rfl
/-- what is written so far -/
def z_W (n : Nat) (Z' : zZ) (cs : List Nat) : Prop := Z' 13 0 = cs.length ∧ ∀ i x, (ro_ws n (ro_rnd n) cs)[i]? = some x → Z' 14 i = x
theorem z_W_up {n c : Nat} {Z' : zZ} {cs : List Nat} (h : z_W n Z' cs) : z_W n (up (up Z' 14 cs.length (ro_af n c (ro_la n (ro_rnd n) cs))) 13 0 (cs.length + 1)) (cs ++ [c]) := by
  refine ⟨?_, fun i x hx => ?_⟩
  · rw [up_s, List.length_append]
    rfl
  · rw [up_f (by decide)]
    rw [ro_ws_1] at hx
    by_cases e : i < cs.length
    · rw [List.getElem?_append_left (by rw [ro_ws_len]; exact e)] at hx
      rw [up_i (by omega)]
      exact h.2 i x hx
    · rw [List.getElem?_append_right (by rw [ro_ws_len]; omega), ro_ws_len] at hx
      have e2 : i - cs.length = 0 := by
        by_cases e3 : i - cs.length = 0
        · exact e3
        · rw [List.getElem?_eq_none (by show 1 ≤ _; omega)] at hx
          exact absurd hx (by simp)
      rw [e2] at hx
      have e4 : i = cs.length := by omega
      rw [e4, up_s]
      simpa using hx
theorem m_writes_L44 {K : Nat → Int32 → Int32 → Int32 → zS → Prop} {Q : zS → Prop} {t q i c n : Nat} {p0 : List Nat} (hM : z_M Z) (ht : t < 12) (hq : q < 20) (hi : Z 12 (20 * t + q) / 3 = i) (hi2 : i < Z 3 0) (hc : Z 12 (20 * t + q) % 3 = c) (hn : Z 4 i = n) (hp : ∀ x, x ∈ p0 → ro_isC n x = true) (hp2 : p0.length ≤ 12 * q)
    (k : ∀ Z' S', RM ma Z' m S' → z_E Z Z' → z_W n Z' (p0 ++ z_lc Z i c) → K m (nI t) (nI (ro_la n (ro_rnd n) (p0 ++ z_lc Z i c))) (nI q) S') :
    ∀ (w j : Nat) (Z' : zZ) (S : zS), RM ma Z' m S → z_E Z Z' → j ≤ Z 5 i → Z 5 i < j + w → z_W n Z' (p0 ++ (List.range j).map (z_ch Z i c)) → p_X11_writes_L44 E K Q X w m (nI t) (nI (ro_la n (ro_rnd n) (p0 ++ (List.range j).map (z_ch Z i c)))) (nI q) (nI i) (nI j) S
  | 0, j, Z', S, h, hE, h1, h2, h3 => by omega
  | w + 1, j, Z', S, h, hE, h1, h2, h3 => by
    have hb := z_M_n hM hi2
    have hN : ro_N n := by rw [← hn]; exact (hM.2 i hi2).1
    have hcl : c < 3 := by rw [← hc]; exact Nat.mod_lt _ (by decide)
    have hM' := z_E_M hE hM
    have e3 : Z' 3 = Z 3 := hE 3 (by decide) (by decide)
    have e4 : Z' 4 = Z 4 := hE 4 (by decide) (by decide)
    have e5 : Z' 5 = Z 5 := hE 5 (by decide) (by decide)
    have e12 : Z' 12 = Z 12 := hE 12 (by decide) (by decide)
    refine ⟨h.1, h.ij 5 i rfl (by show _ < 8; omega) ?_⟩
    rw [h.a 5, e5]
    refine pk_le (Z 5 i) j (fun h4 => ?_) (fun h4 => ?_)
    · have : j = Z 5 i := by omega
      subst this
      exact k Z' S h hE h3
    · have hj := z_M_ch hM hi2 hcl h4
      rw [hn] at hj
      have hc64 := ro_f0 hN hj
      obtain ⟨s0, _, _, _, hc64⟩ := hc64
      have hcs : ∀ x, x ∈ p0 ++ (List.range j).map (z_ch Z i c) → ro_isC n x = true := by
        intro x hx
        rcases List.mem_append.mp hx with e | e
        · exact hp x e
        · obtain ⟨k2, hk2, e6⟩ := List.mem_map.mp e
          rw [← e6, ← hn]
          exact z_M_ch hM hi2 hcl (by have := List.mem_range.mp hk2; omega)
      have hV := ro_la_V hN _ _ (ro_V_rnd hN).1 hcs
      have hVl := ro_V_lt hN hV
      have hlen : (p0 ++ (List.range j).map (z_ch Z i c)).length = p0.length + j := by rw [List.length_append, List.length_map, List.length_range]
      refine h.ij 4 i rfl (by show _ < 8; omega) (h.ij 12 (20 * t + q) ?_ (by show _ < 240; omega) ?_)
      · rw [show (20 : Int32) * nI t = nI (20 * t) from pk_mul 20 t, nI_add]
      · rw [h.a 4, h.a 12, e4, e12, hn, show nI (Z 12 (20 * t + q)) - nI (Z 12 (20 * t + q)) / 3 * 3 = nI (Z 12 (20 * t + q) % 3) from pk_rem (d := 3) (by omega) (by decide) (by decide), hc]
        refine m_changeOf h hM' (by rw [e3]; exact hi2) hcl (by rw [e5]; exact h4) ?_
        rw [z_E_ch hE]
        refine w1_changed (by unfold ro_N at hN; omega) (by omega) (by omega) ?_
        refine ⟨h.1, h.ij 14 (p0.length + j) ?_ (by show _ < 240; omega) ?_⟩
        · have := h.i 13
          rw [this, h3.1, hlen]
        · refine h.wA 14 (p0.length + j) (ro_af n (z_ch Z i c j) (ro_la n (ro_rnd n) (p0 ++ (List.range j).map (z_ch Z i c)))) rfl (fun S1 g1 => ?_)
          refine g1.wI 13 (p0.length + j + 1) ?_ (fun S2 g2 => ?_)
          · have := g1.i 13
            rw [this, up_f (by decide), h3.1, hlen, nI_1]
          · rw [nI_1]
            have e9 : p0 ++ (List.range (j + 1)).map (z_ch Z i c) = (p0 ++ (List.range j).map (z_ch Z i c)) ++ [z_ch Z i c j] := by
              rw [List.range_succ, List.map_append, ← List.append_assoc]
              rfl
            have h5 := m_writes_L44 (Q := Q) hM ht hq hi hi2 hc hn hp hp2 k w (j + 1) _ S2 g2 (z_E_up (z_E_up hE (Or.inr rfl)) (Or.inl rfl)) (by omega) (by omega) (by
              rw [e9]
              have := z_W_up (c := z_ch Z i c j) h3
              rw [hlen] at this
              exact this)
            rw [e9, ro_la_1] at h5
            exact h5
theorem m_writes_L16 {K Q : zS → Prop} {t : Nat} (hM : z_M Z) (ht : z_T Z t)
    (k : ∀ Z' S', RM ma Z' m S' → z_E Z Z' → z_W (z_st Z t) Z' (z_cs Z t) → K S') :
    ∀ (w q : Nat) (Z' : zZ) (S : zS), RM ma Z' m S → z_E Z Z' → q ≤ Z 11 t → Z 11 t < q + w → z_W (z_st Z t) Z' (z_tc Z t q) → p_X11_writes_L16 E K Q X w m (nI t) (nI (ro_la (z_st Z t) (ro_rnd (z_st Z t)) (z_tc Z t q))) (nI q) S
  | 0, q, Z', S, h, hE, h1, h2, h3 => by omega
  | w + 1, q, Z', S, h, hE, h1, h2, h3 => by
    have e11 : Z' 11 = Z 11 := hE 11 (by decide) (by decide)
    have e12 : Z' 12 = Z 12 := hE 12 (by decide) (by decide)
    have ht0 := ht.1
    have ht2 := ht.2.2.1
    refine ⟨h.1, h.ij 11 t rfl (by show _ < 12; omega) ?_⟩
    rw [h.a 11, e11]
    refine pk_le (Z 11 t) q (fun h4 => ?_) (fun h4 => ?_)
    · have : q = Z 11 t := by omega
      subst this
      exact k Z' S h hE h3
    · have h5 := ht.2.2.2 q h4
      have h6 := z_T_tc hM ht q h1
      have h7 := z_M_n hM h5.1
      refine h.ij 12 (20 * t + q) ?_ (by show _ < 240; omega) ⟨13, ?_⟩
      · rw [show (20 : Int32) * nI t = nI (20 * t) from pk_mul 20 t, nI_add]
      · have h8 : Z 12 (20 * t + q) / 3 < 8 := h7.2.2.2.2
        rw [h.a 12, e12, show nI (Z 12 (20 * t + q)) / 3 = nI (Z 12 (20 * t + q) / 3) from pk_div (d := 3) (by omega) (by decide) (by decide)]
        have h9 := m_writes_L44 (E := E) (X := X) (Q := Q) (p0 := z_tc Z t q) hM ht0 (show q < 20 by omega) rfl h5.1 rfl h5.2 h6.1 (by omega) (K := fun (a0 : Nat) (l1 : Int32) (l2 : Int32) (l3 : Int32) (S : zS) => p_X11_writes_L16 E K Q X w a0 l1 l2 (l3 + 1) S) (fun Z2 S2 g2 hE2 hW2 => by
          show p_X11_writes_L16 E K Q X w m (nI t) _ (nI q + 1) S2
          rw [nI_1]
          exact m_writes_L16 hM ht k w (q + 1) Z2 S2 g2 hE2 (by omega) (by omega) hW2) 13 0 Z' S h hE (by omega) (by have hx : Z 5 (Z 12 (20 * t + q) / 3) ≤ 12 := h7.2.2.2.1; omega) (by
            rw [show (List.range 0).map (z_ch Z (Z 12 (20 * t + q) / 3) (Z 12 (20 * t + q) % 3)) = [] from rfl, List.append_nil]
            exact h3)
        rw [show (List.range 0).map (z_ch Z (Z 12 (20 * t + q) / 3) (Z 12 (20 * t + q) % 3)) = [] from rfl, List.append_nil] at h9
        exact h9
theorem m_writes {Q : zS → Prop} {t : Nat} (h : RM ma Z m S) (hM : z_M Z) (ht : z_T Z t) (k : ∀ Z' S', RM ma Z' m S' → z_E Z Z' → z_W (z_st Z t) Z' (z_cs Z t) → Q S') : p_X11_writes E m (nI t) S Q X := by
  refine ⟨h.1, h.wI 13 0 rfl (fun S1 g1 => ?_)⟩
  have hE : z_E Z (up Z 13 0 0) := z_E_up (fun f _ _ => rfl) (Or.inl rfl)
  have e4 : (up Z 13 0 0) 4 = Z 4 := up_f (by decide)
  have e12 : (up Z 13 0 0) 12 = Z 12 := up_f (by decide)
  have h0 := ht.2.2.2 0 (by have := ht.2.1; omega)
  have hN := z_T_N hM ht
  refine m_stageOf g1 (z_E_M hE hM) ht.1 (by rw [e12]; exact h0.1) ?_
  rw [show z_st (up Z 13 0 0) t = z_st Z t by unfold z_st; rw [e4, e12]]
  refine w1_rounds (by unfold ro_N at hN; omega) ⟨21, ?_⟩
  exact m_writes_L16 hM ht k 21 0 _ S1 g1 hE (by omega) (by have := ht.2.2.1; omega) ⟨up_s _ _ _ _, fun i x hx => by simp [z_tc, ro_ws] at hx⟩
/-! the first row that was there before -/
def z_R (f : Nat → Nat) (L : Nat) (v : Int32) : Prop := (v = -1 ∧ ∀ r, r < L → ∀ k, k < r → f k ≠ f r) ∨ ∃ r, v = nI r ∧ r < L ∧ (∃ k, k < r ∧ f k = f r) ∧ ∀ r', r' < r → ∀ k, k < r' → f k ≠ f r'
theorem z_R_one {f : Nat → Nat} {L : Nat} {v w : Int32} (h : z_R f L v) (h2 : z_R f L w) : v = w := by
  rcases h with ⟨rfl, h⟩ | ⟨r, rfl, hr, ⟨k, hk, e⟩, h⟩
  · rcases h2 with ⟨rfl, _⟩ | ⟨r, rfl, hr, ⟨k, hk, e⟩, _⟩
    · rfl
    · exact absurd e (h r hr k hk)
  · rcases h2 with ⟨rfl, h2⟩ | ⟨r2, rfl, hr2, ⟨k2, hk2, e2⟩, h2⟩
    · exact absurd e (h2 r hr k hk)
    · have : r = r2 := by
        by_cases a : r < r2
        · exact absurd e (h2 r a k hk)
        · by_cases b : r2 < r
          · exact absurd e2 (h r2 b k2 hk2)
          · omega
      rw [this]
/-- ahead of which rows have been looked at -/
def z_Rb (f : Nat → Nat) (L q : Nat) (v : Int32) : Prop := (v = -1 ∧ ∀ r, q < r → r < L → ∀ k, k < r → f k ≠ f r) ∨ ∃ r, v = nI r ∧ q < r ∧ r < L ∧ (∃ k, k < r ∧ f k = f r) ∧ ∀ r', q < r' → r' < r → ∀ k, k < r' → f k ≠ f r'
theorem m_repeat_L15 {K : Nat → Int32 → Int32 → zS → Prop} {Q : Int32 → zS → Prop} {r L : Nat} (h : RM ma Z m S) (hL : L ≤ 240) (hr : r < L) (hf : ∀ i, i < L → Z 14 i < 2 ^ 18) (k : ∀ v, z_Rb (Z 14) L (r - 1) v → K m v (nI r) S) :
    ∀ (w j : Nat) (v : Int32), j ≤ r → r < j + w → ((∃ i, i < j ∧ Z 14 i = Z 14 r) → v = nI r) → ((∀ i, i < j → Z 14 i ≠ Z 14 r) → z_Rb (Z 14) L r v) → 1 ≤ r → p_X11_repeat_L15 E K Q X w m v (nI r) (nI j) S
  | 0, j, v, h1, h2, _, _, _ => by omega
  | w + 1, j, v, h1, h2, h3, h4, h9 => by
    refine pk_le r j (fun h5 => k v ?_) (fun h5 => ?_)
    · have ej : j = r := by omega
      subst ej
      by_cases hx : ∃ i, i < j ∧ Z 14 i = Z 14 j
      · exact Or.inr ⟨j, h3 hx, by omega, hr, hx, fun r' a b => by omega⟩
      · have h6 : ∀ i, i < j → Z 14 i ≠ Z 14 j := fun i hi e => hx ⟨i, hi, e⟩
        rcases h4 h6 with ⟨e, h7⟩ | ⟨r2, e, a, b, c, d⟩
        · refine Or.inl ⟨e, fun r' hr' hr2 kk hkk => ?_⟩
          by_cases e2 : r' = j
          · subst e2
            exact h6 kk hkk
          · exact h7 r' (by omega) hr2 kk hkk
        · refine Or.inr ⟨r2, e, by omega, b, c, fun r' hr' hr2 kk hkk => ?_⟩
          by_cases e2 : r' = j
          · subst e2
            exact h6 kk hkk
          · exact d r' (by omega) hr2 kk hkk
    · refine ⟨h.1, h.ij 14 j rfl (by show _ < 240; omega) (h.ij 14 r rfl (by show _ < 240; omega) ?_)⟩
      rw [h.a 14, h.a 14, nI_1]
      have b1 := hf j (by omega)
      have b2 := hf r hr
      rw [nI_eq (by omega) (by omega)]
      refine ⟨fun h6 => ?_, fun h6 => ?_⟩
      · refine m_repeat_L15 h hL hr hf k w (j + 1) v (by omega) (by omega) (fun ⟨i, hi, e⟩ => h3 ⟨i, ?_, e⟩) (fun h7 => h4 (fun i hi => h7 i (by omega))) h9
        by_cases e2 : i = j
        · subst e2
          exact absurd e h6
        · omega
      · exact m_repeat_L15 h hL hr hf k w (j + 1) (nI r) (by omega) (by omega) (fun _ => rfl) (fun h7 => absurd h6 (h7 j (by omega))) h9
theorem m_repeat_L9 {K : Int32 → zS → Prop} {Q : Int32 → zS → Prop} {L : Nat} (h : RM ma Z m S) (hL : L ≤ 240) (hf : ∀ i, i < L → Z 14 i < 2 ^ 18) (k : ∀ v, z_R (Z 14) L v → K v S) :
    ∀ (w r : Nat) (v : Int32), r < L → r < w → z_Rb (Z 14) L r v → p_X11_repeat_L9 E K Q X w m v (nI r) S
  | 0, r, v, h1, h2, _ => by omega
  | w + 1, r, v, h1, h2, h3 => by
    refine pk_le r 0 (fun h5 => k v ?_) (fun h5 => ⟨241, ?_⟩)
    · have e : r = 0 := by omega
      subst e
      rcases h3 with ⟨e, h7⟩ | ⟨r2, e, a, b, c, d⟩
      · refine Or.inl ⟨e, fun r' hr' kk hkk => ?_⟩
        exact h7 r' (by omega) hr' kk hkk
      · refine Or.inr ⟨r2, e, b, c, fun r' hr' kk hkk => ?_⟩
        exact d r' (by omega) hr' kk hkk
    · refine m_repeat_L15 h hL h1 hf (fun v2 h6 => ?_) 241 0 v (by omega) (by omega) (fun ⟨i, hi, _⟩ => by omega) (fun _ => h3) (by omega)
      show p_X11_repeat_L9 E K Q X w m v2 (nI r + (-1)) S
      have e : r = (r - 1) + 1 := by omega
      rw [e, pk_m1]
      exact m_repeat_L9 h hL hf k w (r - 1) v2 (by omega) (by omega) h6
theorem m_repeat {Q : Int32 → zS → Prop} {L : Nat} (h : RM ma Z m S) (e : Z 13 0 = L) (h0 : 1 ≤ L) (hL : L ≤ 240) (hf : ∀ i, i < L → Z 14 i < 2 ^ 18) (k : ∀ v, z_R (Z 14) L v → Q v S) : p_X11_repeat E m S Q X := by
  refine ⟨h.1, 241, ?_⟩
  have := h.i 13
  rw [this, e, show (nI L - 1 : Int32) = nI (L - 1) from pk_sub (b := 1) (by omega)]
  exact m_repeat_L9 h hL hf k 241 (L - 1) (-1) (by omega) (by omega) (Or.inl ⟨rfl, fun r hr hr2 => by omega⟩)
end MD
