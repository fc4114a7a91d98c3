section ML
variable {E : zE} {ma : Nat → Nat} {Z : zZ} {m : Nat} {S : zS} {X : String → zS → Prop}
theorem m_doesRow {Q : zS → Prop} {n t row : Nat} (h : RM ma Z m S) (hM : z_M Z) (hT : z_TT Z) (hB : z_B Z) (hP : z_P Z) (hd : Z 20 0 ≤ 60) (et : Z 28 0 = t) (ht : t < Z 10 0) (en : z_st Z t = n) (h31 : Z 31 0 < z_L Z t) (hs : z_snd Z t = true) (hday : t ∈ z_day Z (Z 20 0)) (hp : Z 29 0 < 64) (hW : z_W n Z (z_cs Z t)) (er : row = z_f Z t (Z 31 0)) (hat : ∀ p, p < n → z_at Z row p < 2 ^ 31)
    (k : ∀ Z' S', RM ma Z' m S' → z_rowR Z row n (z_L Z t) Z' → z_W n Z' (z_cs Z t) → Q S') : p_X11_doesRow E m S Q X := by
  have e28 : gI S 1128 m = nI (Z 28 0) := h.i 28
  have hT1 := hT.2 t ht
  have hN := z_T_N hM hT1
  rw [en] at hN
  have hn : n ≤ 6 := by unfold ro_N at hN; omega
  have hL := z_L_bd hM hT1
  have hV := z_f_V hM hT1 h31
  rw [en, ← er] at hV
  refine ⟨h.1, ?_⟩
  rw [e28, et]
  refine m_stageOf h hM hT1.1 (z_T_x hT1) ⟨7, ?_⟩
  rw [en]
  refine m_doesRow_L (Z := Z) (row := row) hM (by rw [et]; exact hT1) hp (by omega) (by
    have h2 := hW
    rw [← en] at h2
    rw [er]
    exact z_W_f h2 h31) hn (ro_V_lt hN hV) (fun p hp2 => Nat.lt_of_lt_of_le (hV.2.1 p hp2) hn) hat (fun S2 g2 => ⟨g2.1, ?_⟩) 7 0 0 S h (by omega) (by omega) (fun h9 => absurd h9 (by decide))
  have h5 := m_J141 (E := E) (X := X) hM hT hB hP hd et ht en h31 hs hday g2 k
  refine zb_c (fun h6 => ?_) (fun h6 => ?_)
  · rw [h6] at h5
    exact h5
  · rw [h6] at h5
    exact h5
theorem m_hasPull {Q : Int32 → zS → Prop} {t b : Nat} (h : RM ma Z m S) (hM : z_M Z) (h27 : Z 27 0 < 2) (hon : Z 27 0 = 1 → Z 28 0 = t ∧ z_T Z t ∧ Z 29 0 < 64 ∧ ∀ b, b < 6 → Z 34 b < 2 ^ 31) (hb : b < 6)
    (k0 : ¬ (Z 27 0 = 1 ∧ z_pp Z b = true ∧ Z 34 b < z_L Z t) → ∀ Z' S', RM ma Z' m S' → z_E Z Z' → Q 0 S') (k1 : Z 27 0 = 1 → z_pp Z b = true → Z 34 b < z_L Z t → ∀ Z' S', RM ma Z' m S' → z_E Z Z' → z_W (z_st Z t) Z' (z_cs Z t) → Q 1 S') : p_X11_hasPull E m (nI b) S Q X := by
  have e27 : gI S 1127 m = nI (Z 27 0) := h.i 27
  refine ⟨h.1, ?_⟩
  rw [e27, ri_0 h27]
  refine ⟨fun h1 => ⟨h.1, ?_⟩, fun h1 => ?_⟩
  · rw [e27, ri_0 h27]
    exact ⟨fun _ => ⟨Or.inl rfl, k0 (fun h9 => by omega) Z S h (fun _ _ _ => rfl)⟩, fun h9 => absurd h1 h9⟩
  · have h2 : Z 27 0 = 1 := by omega
    obtain ⟨et, ht, hp, h34⟩ := hon h2
    have e28 : gI S 1128 m = nI (Z 28 0) := h.i 28
    have hL := z_L_bd hM ht
    rw [e28, et]
    refine m_writes h hM ht (fun Z' S' g hE hW => ⟨g.1, ?_⟩)
    have f27 : gI S' 1127 m = nI (Z 27 0) := by
      have := g.i 27
      rw [hE 27 (by decide) (by decide)] at this
      exact this
    have f13 : gI S' 1113 m = nI (z_L Z t) := by
      have := g.i 13
      rw [hW.1] at this
      exact this
    rw [f27, ri_0 h27]
    refine ⟨fun h9 => absurd h9 h1, fun _ => m_isPeoples g (by rw [hE 29 (by decide) (by decide)]; exact hp) (by omega) ?_⟩
    have epp : z_pp Z' b = z_pp Z b := by unfold z_pp; rw [hE 29 (by decide) (by decide)]
    rw [epp]
    refine zb_c (fun h3 => ⟨Or.inl rfl, k0 (fun h9 => by rw [h3] at h9; exact absurd h9.2.1 (by decide)) Z' S' g hE⟩) (fun h3 => ⟨g.1, g.ij 34 b rfl (by show _ < 6; omega) ?_⟩)
    have h5 := h34 b hb
    rw [g.a 34, hE 34 (by decide) (by decide), f13]
    refine pk_le _ _ (fun h6 => ⟨Or.inl rfl, k0 (fun h9 => by omega) Z' S' g hE⟩) (fun h6 => ⟨Or.inr rfl, k1 h2 h3 h6 Z' S' g hE hW⟩)
theorem m_dueOf {Q : Int32 → zS → Prop} {n t b p0 : Nat} (h : RM ma Z m S) (hM : z_M Z) (et : Z 28 0 = t) (ht : z_T Z t) (hW : z_W (z_st Z t) Z (z_cs Z t)) (hb : b < 6) (h34 : Z 34 b < z_L Z t) (hp0 : p0 < 6) (h4 : ro_bl (z_f Z t (Z 34 b)) p0 = b) (h5 : ∀ q, q < p0 → ro_bl (z_f Z t (Z 34 b)) q ≠ b) (k : Q (nI (z_du Z (Z 34 b) p0)) S) : p_X11_dueOf E m (nI b) S Q X := by
  have hL := z_L_bd hM ht
  have hf := z_f_lt hM ht h34
  refine ⟨h.1, h.ij 34 b rfl (by show _ < 6; omega) (h.ij 34 b rfl (by show _ < 6; omega) (h.ij 14 (Z 34 b) (h.a 34 b) (by show _ < 240; omega) ?_))⟩
  rw [h.a 14, h.a 34, z_W_f hW h34]
  exact w1_placeIn (by omega) hp0 h4 h5 ⟨h.1, m_dueAt h hM (by rw [et]; exact ht) (by omega) k⟩
/-! leads, the course -/
theorem m_behindLead_L {K : Int32 → zS → Prop} {Q : Int32 → zS → Prop} {i c r : Nat} (h : RM ma Z m S) (hM : z_M Z) (hi : i < Z 3 0) (hc : c < 3) (hr : ro_V (Z 4 i) r) (k : K (nI (ro_la (Z 4 i) r (z_lc Z i c))) S) :
    ∀ (w j : Nat), j ≤ Z 5 i → Z 5 i < j + w → p_X11_behindLead_L6 E K Q X w m (nI i) (nI c) (nI (ro_la (Z 4 i) r ((List.range j).map (z_ch Z i c)))) (nI j) S
  | 0, j, h1, h2 => by omega
  | w + 1, j, h1, h2 => by
    have hb := z_M_n hM hi
    have hN := (hM.2 i hi).1
    refine ⟨h.1, h.ij 5 i rfl (by show _ < 8; omega) ?_⟩
    rw [h.a 5]
    refine pk_le (Z 5 i) j (fun h4 => ?_) (fun h4 => h.ij 4 i rfl (by show _ < 8; omega) ?_)
    · have : j = Z 5 i := by omega
      subst this
      exact k
    · have hj := z_M_ch hM hi hc h4
      obtain ⟨s0, _, _, _, hc64⟩ := ro_f0 hN hj
      have hV := ro_la_V hN ((List.range j).map (z_ch Z i c)) r hr (fun x hx => by
        obtain ⟨k2, hk2, e6⟩ := List.mem_map.mp hx
        rw [← e6]
        exact z_M_ch hM hi hc (by have := List.mem_range.mp hk2; omega))
      have hVl := ro_V_lt hN hV
      have e9 : (List.range (j + 1)).map (z_ch Z i c) = (List.range j).map (z_ch Z i c) ++ [z_ch Z i c j] := by
        rw [List.range_succ, List.map_append]
        rfl
      have h5 := m_behindLead_L (Q := Q) h hM hi hc hr k w (j + 1) (by omega) (by omega)
      rw [e9, ro_la_1] at h5
      rw [h.a 4, nI_1]
      exact m_changeOf h hM hi hc h4 (w1_changed (by omega) (by omega) (by omega) h5)
theorem m_behindLead {Q : Int32 → zS → Prop} {i c r : Nat} (h : RM ma Z m S) (hM : z_M Z) (hi : i < Z 3 0) (hc : c < 3) (hr : ro_V (Z 4 i) r) (k : Q (nI (ro_la (Z 4 i) r (z_lc Z i c))) S) : p_X11_behindLead E m (nI r) (nI i) (nI c) S Q X :=
  ⟨13, m_behindLead_L h hM hi hc hr k 13 0 (by omega) (by have := z_M_n hM hi; omega)⟩
theorem ro_la_mul {n : Nat} (hN : ro_N n) {a : Nat} (ha : ro_V n a) : ∀ (cs : List Nat) (r : Nat), ro_V n r → (∀ c, c ∈ cs → ro_isC n c = true) → ro_la n (ro_mul n a r) cs = ro_mul n a (ro_la n r cs)
  | [], r, _, _ => rfl
  | c :: cs, r, hr, hc => by
    have h1 := hc c List.mem_cons_self
    show ro_la n (ro_af n c (ro_mul n a r)) cs = ro_mul n a (ro_la n (ro_af n c r) cs)
    rw [ro_af_mul hN ha hr h1]
    exact ro_la_mul hN ha cs _ (ro_af_V hN hr h1).1 (fun d hd => hc d (List.mem_cons_of_mem _ hd))
theorem ro_mul_1 {n a : Nat} (hN : ro_N n) (ha : ro_V n a) : ro_mul n a (ro_rnd n) = a := by
  have hr := ro_V_rnd hN
  refine ro_V_ext (ro_V_mul hN ha hr.1).1 ha (fun p hp => ?_)
  rw [(ro_V_mul hN ha hr.1).2 p hp, hr.2 p hp]
theorem ro_1_mul {n a : Nat} (hN : ro_N n) (ha : ro_V n a) : ro_mul n (ro_rnd n) a = a := by
  have hr := ro_V_rnd hN
  refine ro_V_ext (ro_V_mul hN hr.1 ha).1 ha (fun p hp => ?_)
  rw [(ro_V_mul hN hr.1 ha).2 p hp, hr.2 _ (ha.2.1 p hp)]
theorem ro_la_h {n r : Nat} (hN : ro_N n) (hr : ro_V n r) {cs : List Nat} (hc : ∀ c, c ∈ cs → ro_isC n c = true) : ro_la n r cs = ro_mul n r (ro_la n (ro_rnd n) cs) := by
  rw [← ro_la_mul hN hr cs _ (ro_V_rnd hN).1 hc, ro_mul_1 hN hr]
def ro_it (n : Nat) (cs : List Nat) : Nat → Nat
  | 0 => ro_rnd n
  | k + 1 => ro_la n (ro_it n cs k) cs
theorem ro_it_V {n : Nat} (hN : ro_N n) {cs : List Nat} (hc : ∀ c, c ∈ cs → ro_isC n c = true) : ∀ k, ro_V n (ro_it n cs k)
  | 0 => (ro_V_rnd hN).1
  | k + 1 => ro_la_V hN cs _ (ro_it_V hN hc k) hc
theorem ro_it_back {n : Nat} (hN : ro_N n) {cs : List Nat} (hc : ∀ c, c ∈ cs → ro_isC n c = true) : ∃ k, 1 ≤ k ∧ k ≤ 6 ∧ ro_it n cs k = ro_rnd n := by
  have hh := ro_la_V hN cs _ (ro_V_rnd hN).1 hc
  have hs : ∀ k, ro_it n cs (k + 1) = ro_mul n (ro_it n cs k) (ro_la n (ro_rnd n) cs) := fun k => ro_la_h hN (ro_it_V hN hc k) hc
  have h1 : ro_it n cs 1 = ro_la n (ro_rnd n) cs := rfl
  have h : ro_chk3 n (ro_la n (ro_rnd n) cs) = true := by
    rcases hN with rfl | rfl | rfl
    · exact ro_all ro_c4_3 hh
    · exact ro_all ro_c5_3 hh
    · exact ro_all ro_c6_3 hh
  unfold ro_chk3 at h
  simp only [Bool.or_eq_true, beq_iff_eq] at h
  have hs1 : ∀ k, ro_it n cs (k + 1) = ro_mul n (ro_it n cs k) (ro_it n cs 1) := hs
  rw [← h1] at h
  rw [← hs1 1, ← hs1 2, ← hs1 3, ← hs1 4, ← hs1 5] at h
  rcases h with h | h | h | h | h | h
  · exact ⟨1, by omega, by omega, h⟩
  · exact ⟨2, by omega, by omega, h⟩
  · exact ⟨3, by omega, by omega, h⟩
  · exact ⟨4, by omega, by omega, h⟩
  · exact ⟨5, by omega, by omega, h⟩
  · exact ⟨6, by omega, by omega, h⟩
theorem ro_least (P : Nat → Prop) : ∀ k : Nat, 1 ≤ k → P k → ∃ j, 1 ≤ j ∧ j ≤ k ∧ P j ∧ ∀ q, 1 ≤ q → q < j → ¬ P q
  | 0, h, _ => by omega
  | k + 1, h, hp => by
    by_cases h1 : ∃ q, 1 ≤ q ∧ q ≤ k ∧ P q
    · obtain ⟨q, a, b, c⟩ := h1
      by_cases hq : q ≤ k
      · obtain ⟨j, d, e, f, g⟩ : ∃ j, 1 ≤ j ∧ j ≤ k ∧ P j ∧ ∀ q, 1 ≤ q → q < j → ¬ P q := by
          have : ∀ w q, q ≤ w → w ≤ k → 1 ≤ q → P q → ∃ j, 1 ≤ j ∧ j ≤ k ∧ P j ∧ ∀ q, 1 ≤ q → q < j → ¬ P q := by
            intro w
            induction w with
            | zero => intro q hq _ h1 _; omega
            | succ w ih =>
              intro q hq hw h1 hpq
              by_cases h2 : ∃ q2, 1 ≤ q2 ∧ q2 ≤ w ∧ P q2
              · obtain ⟨q2, a2, b2, c2⟩ := h2
                exact ih q2 b2 (by omega) a2 c2
              · have e : q = w + 1 := by
                  by_cases h3 : q ≤ w
                  · exact absurd ⟨q, h1, h3, hpq⟩ h2
                  · omega
                exact ⟨q, h1, by omega, hpq, fun q2 a2 b2 c2 => h2 ⟨q2, a2, by omega, c2⟩⟩
          exact this k q hq (Nat.le_refl _) a c
        exact ⟨j, d, by omega, f, g⟩
      · omega
    · exact ⟨k + 1, h, Nat.le_refl _, hp, fun q a b c => h1 ⟨q, a, by omega, c⟩⟩
theorem m_course_L {K : Int32 → zS → Prop} {Q : Int32 → zS → Prop} {i k0 : Nat} (h : RM ma Z m S) (hM : z_M Z) (hi : i < Z 3 0) (hk : ro_it (Z 4 i) (z_lc Z i 0) k0 = ro_rnd (Z 4 i)) (hk2 : ∀ q, 1 ≤ q → q < k0 → ro_it (Z 4 i) (z_lc Z i 0) q ≠ ro_rnd (Z 4 i)) (k : K (nI k0) S) :
    ∀ (w j : Nat), 1 ≤ j → j ≤ k0 → k0 < j + w → p_X11_course_L31 E K Q X w m (nI i) (nI (ro_rnd (Z 4 i))) (nI (ro_it (Z 4 i) (z_lc Z i 0) j)) (nI j) S
  | 0, j, h0, h1, h2 => by omega
  | w + 1, j, h0, h1, h2 => by
    have hN := (hM.2 i hi).1
    have hc := z_M_lc hM hi (c := 0) (by decide)
    have hV := ro_it_V hN hc j
    have b1 := ro_V_lt hN hV
    have b2 := ro_V_lt hN (ro_V_rnd hN).1
    unfold p_X11_course_L31
    rw [nI_eq (by omega) (by omega)]
    refine ⟨fun h3 => ?_, fun h3 => ⟨h.1, ?_⟩⟩
    · have e : j = k0 := by
        by_cases a : j < k0
        · exact absurd h3 (hk2 j h0 a)
        · omega
      rw [e]
      exact k
    · refine m_behindLead h hM hi (c := 0) (by decide) hV ?_
      rw [nI_1]
      refine m_course_L h hM hi hk hk2 k w (j + 1) (by omega) ?_ (by omega)
      by_cases a : j = k0
      · subst a
        exact absurd hk h3
      · omega
end ML
