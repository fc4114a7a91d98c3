/-! a whole row -/
def z_2 (Z : zZ) (row n : Nat) : zZ := up (up (z_sk Z row n) 39 0 (Z 39 0 + (if z_wg Z row n = true then 1 else 0))) 31 0 (Z 31 0 + 1)
def z_rowR (Z : zZ) (row n L : Nat) (Z' : zZ) : Prop := ∃ Z3, z_lo (z_2 Z row n) Z3 ∧
  ((z_are Z3 n = false ∧ (∀ f, f ∉ [13, 14, 27] → Z' f = Z3 f) ∧ Z' 27 0 = 0) ∨
   (z_are Z3 n = true ∧ Z 31 0 + 1 = L ∧ (∀ f, f ∉ [13, 14, 21, 22, 27, 40, 41] → Z' f = Z3 f) ∧ Z' 27 0 = 0 ∧ Z' 40 0 = Z 40 0 + 1 ∧ Z' 41 0 = Z 28 0 ∧ (∃ k, (z_day Z3 (Z 20 0))[k]? = some (Z 28 0) ∧ z_day Z' (Z 20 0) = (z_day Z3 (Z 20 0)).eraseIdx k) ∧ ∀ d, d ≠ Z 20 0 → d ≤ 60 → z_day Z' d = z_day Z3 d) ∨
   (z_are Z3 n = true ∧ Z 31 0 + 1 ≠ L ∧ z_E Z3 Z'))
theorem z_2_f {Z : zZ} {row n f : Nat} (h : f ∉ [17, 31, 39]) : z_2 Z row n f = Z f := by
  unfold z_2
  rw [up_f (fun e => h (by rw [e]; decide)), up_f (fun e => h (by rw [e]; decide)), z_sk_f (fun e => h (by rw [e]; decide))]
theorem z_2_C {Z : zZ} {row n : Nat} : z_C Z (z_2 Z row n) := fun f hf => z_2_f (fun e => by
  simp only [List.mem_cons, List.not_mem_nil, or_false] at hf e
  omega)
theorem z_day_congr {Z Z' : zZ} (h1 : Z' 21 = Z 21) (h2 : Z' 22 = Z 22) (d : Nat) : z_day Z' d = z_day Z d := by
  unfold z_day
  rw [h1, h2]
theorem z_P_congr {Z Z' : zZ} (h1 : Z' 21 = Z 21) (h2 : Z' 22 = Z 22) (h3 : Z' 10 = Z 10) (hP : z_P Z) : z_P Z' := by
  unfold z_P
  intro d hd
  rw [z_day_congr h1 h2, h1, h3]
  exact hP d hd
section MK
variable {E : zE} {ma : Nat → Nat} {Z : zZ} {m : Nat} {S : zS} {X : String → zS → Prop}
theorem m_J141 {Q : zS → Prop} {row n t : Nat} (hM : z_M Z) (hT : z_TT Z) (hB : z_B Z) (hP : z_P Z) (hd : Z 20 0 ≤ 60) (et : Z 28 0 = t) (ht : t < Z 10 0) (en : z_st Z t = n) (h31 : Z 31 0 < z_L Z t) (hs : z_snd Z t = true) (hday : t ∈ z_day Z (Z 20 0))
    (h : RM ma (z_sk Z row n) m S) (k : ∀ Z' S', RM ma Z' m S' → z_rowR Z row n (z_L Z t) Z' → z_W n Z' (z_cs Z t) → Q S') : p_X11_doesRow_J141 E Q X m (nI n) (if z_wg Z row n = true then 1 else 0) (gI S 1139 m) m S := by
  have e39 : gI S 1139 m = nI (z_sk Z row n 39 0) := h.i 39
  rw [z_sk_f (by decide)] at e39
  have hn : n ≤ 6 := by
    have := z_T_N hM (hT.2 t ht)
    rw [en] at this
    unfold ro_N at this
    omega
  have hLb := z_L_bd hM (hT.2 t ht)
  refine ⟨h.1, ?_⟩
  rw [e39, show nI (Z 39 0) + (if z_wg Z row n = true then (1 : Int32) else 0) = nI (Z 39 0 + (if z_wg Z row n = true then 1 else 0)) by
    split
    · exact nI_add _ 1
    · exact Int32.add_zero _]
  refine h.wI 39 _ rfl (fun S1 g1 => ⟨g1.1, ?_⟩)
  have e31 : gI S1 1131 m = nI (Z 31 0) := by
    have := g1.i 31
    rw [up_f (by decide), z_sk_f (by decide)] at this
    exact this
  rw [e31, nI_1]
  refine g1.wI 31 _ rfl (fun S2 g2 => ?_)
  have g2' : RM ma (z_2 Z row n) m S2 := g2
  have hM2 := z_C_M (z_2_C (Z := Z) (row := row) (n := n)) hM
  have hT2 := z_C_TT (z_2_C (Z := Z) (row := row) (n := n)) hT
  have hB2 : z_B (z_2 Z row n) := z_B_congr (z_2_f (by decide)) (z_2_f (by decide)) hB
  have hP2 : z_P (z_2 Z row n) := z_P_congr (z_2_f (by decide)) (z_2_f (by decide)) (z_2_f (by decide)) hP
  refine m_lo g2' hM2 hT2 hB2 hP2 (by rw [z_2_f (by decide)]; exact hd) (fun Z3 S3 g3 hlo => ⟨g3.1, ?_⟩)
  have hC3 : z_C Z Z3 := fun f hf => by rw [z_lo_C hlo f hf, z_2_C f hf]
  have a28 : Z3 28 0 = t := by rw [z_lo_f hlo 28 (by decide), z_2_f (by decide), et]
  have a20 : Z3 20 0 = Z 20 0 := by rw [z_lo_f hlo 20 (by decide), z_2_f (by decide)]
  have a31 : Z3 31 0 = Z 31 0 + 1 := by rw [z_lo_f hlo 31 (by decide)]; exact up_s _ _ _ _
  have a40 : Z3 40 0 = Z 40 0 := by rw [z_lo_f hlo 40 (by decide), z_2_f (by decide)]
  have hM3 := z_C_M hC3 hM
  have hT3 := z_C_TT hC3 hT
  have hB3 := z_lo_B hlo hB2
  have hP3 := z_lo_P hlo hP2
  have ht3 : z_T Z3 t := z_C_T hC3 (hT.2 t ht)
  have f28 : gI S3 1128 m = nI (Z3 28 0) := g3.i 28
  rw [f28, a28]
  refine m_writes g3 hM3 ht3 (fun Z4 S4 g4 hE4 hW4 => ⟨g4.1, ?_⟩)
  rw [z_C_st hC3, z_C_cs hC3, en] at hW4
  have hB4 := z_B_congr (hE4 18 (by decide) (by decide)) (hE4 19 (by decide) (by decide)) hB3
  refine m_areIn g4 hB4 hn ?_
  rw [z_are_congr (hE4 18 (by decide) (by decide)) (hE4 19 (by decide) (by decide))]
  have b31 : gI S4 1131 m = nI (Z 31 0 + 1) := by
    have := g4.i 31
    rw [hE4 31 (by decide) (by decide), a31] at this
    exact this
  have b13 : gI S4 1113 m = nI (z_L Z t) := by
    have := g4.i 13
    rw [hW4.1] at this
    exact this
  refine zb_d (fun h1 => ⟨g4.1, ?_⟩) (fun h1 => ⟨g4.1, Or.inl rfl, ?_⟩)
  · rw [b31, b13, nI_eq (by omega) (by omega)]
    refine ⟨fun h2 => k Z4 S4 g4 ⟨Z3, hlo, Or.inr (Or.inr ⟨h1, h2, hE4⟩)⟩ hW4, fun h2 => ⟨Or.inl rfl, ?_⟩⟩
    refine g4.wI 27 0 rfl (fun S5 g5 => ?_)
    have c40 : gI S5 1140 m = nI (Z 40 0) := by
      have := g5.i 40
      rw [up_f (by decide), hE4 40 (by decide) (by decide), a40] at this
      exact this
    rw [c40, nI_1]
    refine g5.wI 40 (Z 40 0 + 1) rfl (fun S6 g6 => ?_)
    have c28 : gI S6 1128 m = nI t := by
      have := g6.i 28
      rw [up_f (by decide), up_f (by decide), hE4 28 (by decide) (by decide), a28] at this
      exact this
    rw [c28]
    refine g6.wI 41 t rfl (fun S7 g7 => ?_)
    have d28 : gI S7 1128 m = nI t := by
      have := g7.i 28
      rw [up_f (by decide), up_f (by decide), up_f (by decide), hE4 28 (by decide) (by decide), a28] at this
      exact this
    have d20 : gI S7 1120 m = nI (Z 20 0) := by
      have := g7.i 20
      rw [up_f (by decide), up_f (by decide), up_f (by decide), hE4 20 (by decide) (by decide), a20] at this
      exact this
    rw [d28, d20]
    have e21 : (up (up (up Z4 27 0 0) 40 0 (Z 40 0 + 1)) 41 0 t) 21 = Z3 21 := by
      rw [up_f (by decide), up_f (by decide), up_f (by decide), hE4 21 (by decide) (by decide)]
    have e22 : (up (up (up Z4 27 0 0) 40 0 (Z 40 0 + 1)) 41 0 t) 22 = Z3 22 := by
      rw [up_f (by decide), up_f (by decide), up_f (by decide), hE4 22 (by decide) (by decide)]
    have hC7 : z_C Z3 (up (up (up Z4 27 0 0) 40 0 (Z 40 0 + 1)) 41 0 t) := fun f hf => by
      simp only [List.mem_cons, List.not_mem_nil, or_false] at hf
      rw [up_f (by omega), up_f (by omega), up_f (by omega), hE4 f (by omega) (by omega)]
    have hP7 := z_P_congr e21 e22 (hC7 10 (by decide)) hP3
    have hmem : t ∈ z_day Z3 (Z 20 0) := by
      have hfit : ∀ Z5, z_C Z Z5 → z_are Z5 n = true → z_fit Z5 t = true := by
        intro Z5 hC5 h5
        unfold z_fit
        rw [z_C_st hC5, en, h5, z_C_snd hC5, hs]
        rfl
      have hd2 : z_day (z_2 Z row n) (Z 20 0) = z_day Z (Z 20 0) := z_day_congr (z_2_f (by decide)) (z_2_f (by decide)) _
      rcases hlo with ⟨_, hlk⟩ | ⟨_, Z5, hlk, hdr⟩
      · rw [z_day_congr (hlk.1 21 (by decide)) (hlk.1 22 (by decide)), hd2]
        exact hday
      · have e5 : Z5 20 0 = Z 20 0 := by rw [hlk.1 20 (by decide), z_2_f (by decide)]
        rw [hdr.2.2.2 (Z 20 0) (by omega) hd]
        refine List.mem_filter.mpr ⟨?_, hfit Z5 (fun f hf => by rw [z_lk_C hlk f hf, z_2_C f hf]) ?_⟩
        · rw [z_day_congr (hlk.1 21 (by decide)) (hlk.1 22 (by decide)), hd2]
          exact hday
        · rw [← z_are_congr (hdr.1 18 (by decide)) (hdr.1 19 (by decide))]
          exact h1
    refine m_placeOf g7 hP7 (z_C_TT hC7 hT3) hd (by have := hT.1; omega) (fun v hv => ⟨g7.1, ?_⟩)
    rw [e21, e22] at hv
    have hv2 : ∃ k, k < Z3 21 (Z 20 0) ∧ v = nI k ∧ Z3 22 (4 * Z 20 0 + k) = t := by
      rcases hv with ⟨_, hv⟩ | hv
      · obtain ⟨j, hj⟩ := List.getElem?_of_mem hmem
        rw [z_day_get] at hj
        by_cases a : j < Z3 21 (Z 20 0)
        · rw [if_pos a] at hj
          exact absurd (Option.some.inj hj) (hv j a)
        · rw [if_neg a] at hj
          exact absurd hj (by simp)
      · exact hv
    obtain ⟨j, hj, rfl, hj2⟩ := hv2
    refine m_takesPlan g7 hd (by rw [e21]; exact hj) (fun d h9 => (hP7 d h9).1) (fun Z8 S8 g8 htk => k Z8 S8 g8 ⟨Z3, hlo, Or.inr (Or.inl ⟨h1, h2, ?_, ?_, ?_, ?_, ⟨j, ?_, ?_⟩, ?_⟩)⟩ ?_)
    · intro f hf
      simp only [List.mem_cons, List.not_mem_nil, or_false] at hf
      rw [htk.1 f (by omega) (by omega), up_f (by omega), up_f (by omega), up_f (by omega), hE4 f (by omega) (by omega)]
    · rw [htk.1 27 (by decide) (by decide), up_f (by decide), up_f (by decide), up_s]
    · rw [htk.1 40 (by decide) (by decide), up_f (by decide), up_s]
    · rw [htk.1 41 (by decide) (by decide), up_s, et]
    · rw [z_day_get, if_pos hj, hj2, et]
    · rw [htk.2.1, z_day_congr e21 e22]
    · intro d a b
      rw [htk.2.2 d a b, z_day_congr e21 e22]
    · refine ⟨?_, fun i x hx => ?_⟩
      · rw [htk.1 13 (by decide) (by decide), up_f (by decide), up_f (by decide), up_f (by decide)]
        exact hW4.1
      · rw [htk.1 14 (by decide) (by decide), up_f (by decide), up_f (by decide), up_f (by decide)]
        exact hW4.2 i x hx
  · refine g4.wI 27 0 rfl (fun S5 g5 => k _ S5 g5 ⟨Z3, hlo, Or.inl ⟨h1, fun f hf => ?_, up_s _ _ _ _⟩⟩ ⟨?_, fun i x hx => ?_⟩)
    · simp only [List.mem_cons, List.not_mem_nil, or_false] at hf
      rw [up_f (by omega), hE4 f (by omega) (by omega)]
    · rw [up_f (by decide)]
      exact hW4.1
    · rw [up_f (by decide)]
      exact hW4.2 i x hx
end MK
