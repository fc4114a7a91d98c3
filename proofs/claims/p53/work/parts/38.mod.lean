/-! all days' drops -/
def z_cnt (Z : zZ) (d : Nat) : Nat → Nat
  | 0 => 0
  | k + 1 => z_cnt Z d k + z_un (z_fit Z) (z_day Z (d + k))
section MG
variable {E : zE} {ma : Nat → Nat} {Z : zZ} {m : Nat} {S : zS} {X : String → zS → Prop}
theorem z_D_P {Z Z' : zZ} (h : z_D Z Z') (hP : z_P Z) (hd : ∀ d, d ≤ 60 → z_day Z' d = z_day Z d ∨ z_day Z' d = (z_day Z d).filter (z_fit Z)) : z_P Z' := by
  intro d h1
  have h2 := hP d h1
  rw [h 10 (by decide), ← z_day_len Z' d]
  rw [← z_day_len Z d] at h2
  rcases hd d h1 with e | e <;> rw [e]
  · exact h2
  · exact ⟨Nat.le_trans (List.length_filter_le _ _) h2.1, fun t ht => h2.2 t ((List.mem_filter.mp ht).1)⟩
theorem z_D_trans {Z Z' Z2 : zZ} (h : z_D Z Z') (h2 : z_D Z' Z2) : z_D Z Z2 := fun f hf => by rw [h2 f hf, h f hf]
theorem m_drops_L7 {K : Nat → Int32 → zS → Prop} {Q : Int32 → zS → Prop} {d0 : Nat} (hM : z_M Z) (hT : z_TT Z) (hB : z_B Z) (hP : z_P Z) (hd0 : d0 ≤ 60)
    (k0 : ∀ Z' S', RM ma Z' m S' → z_D Z Z' → (∀ d, d < d0 → z_day Z' d = z_day Z d) → (∀ d, d0 ≤ d → d ≤ 60 → z_day Z' d = (z_day Z d).filter (z_fit Z)) → K m (nI (z_cnt Z d0 (61 - d0))) S') :
    ∀ (w j : Nat) (Z' : zZ) (S : zS), RM ma Z' m S → z_D Z Z' → d0 + j ≤ 61 → 61 < d0 + j + w → (∀ d, d < d0 ∨ d0 + j ≤ d → d ≤ 60 → z_day Z' d = z_day Z d) → (∀ d, d0 ≤ d → d < d0 + j → z_day Z' d = (z_day Z d).filter (z_fit Z)) → p_X11_drops_L7 E K Q X w m (nI (z_cnt Z d0 j)) (nI (d0 + j)) S
  | 0, j, Z', S, h, hD, h1, h2, h3, h4 => by omega
  | w + 1, j, Z', S, h, hD, h1, h2, h3, h4 => by
    refine pk_lt 60 (d0 + j) (fun h5 => ?_) (fun h5 => ⟨h.1, ?_⟩)
    · have e : j = 61 - d0 := by omega
      subst e
      exact k0 Z' S h hD (fun d hd => h3 d (Or.inl hd) (by omega)) (fun d hd hd2 => h4 d hd (by omega))
    · refine h.ij 21 (d0 + j) rfl (by show _ < 61; omega) ?_
      rw [h.a 21, Int32.sub_eq_add_neg]
      have hP' := z_D_P hD hP (fun d hd => by
        by_cases a : d0 ≤ d ∧ d < d0 + j
        · exact Or.inr (h4 d a.1 a.2)
        · exact Or.inl (h3 d (by omega) hd))
      have hC := z_D_C hD
      have e18 : Z' 18 = Z 18 := hD 18 (by decide)
      have e19 : Z' 19 = Z 19 := hD 19 (by decide)
      have ef := z_fit_congr hC e18 e19
      have ed := h3 (d0 + j) (by omega) (by omega)
      have h6 := m_drops_L22 (E := E) (X := X) (Q := Q) (K := fun (a0 : Nat) (l1 : Int32) (l2 : Int32) (S : zS) => p_X11_drops_L7 E K Q X w a0 l1 (l2 + 1) S) (n0 := z_cnt Z d0 j) (z_C_M hC hM) (z_C_TT hC hT) (z_B_congr e18 e19 hB) hP' (show d0 + j ≤ 60 by omega) (fun Z2 S2 g2 hD2 h7 h8 => by
        show p_X11_drops_L7 E K Q X w m _ (nI (d0 + j) + 1) S2
        rw [ef, ed, nI_1]
        rw [ef, ed] at h8
        refine m_drops_L7 hM hT hB hP hd0 k0 w (j + 1) Z2 S2 g2 (z_D_trans hD hD2) (by omega) (by omega) (fun d a b => ?_) (fun d a b => ?_)
        · rw [h7 d (by omega) b, h3 d (by omega) b]
        · by_cases e : d = d0 + j
          · rw [e]
            exact h8
          · rw [h7 d e (by omega), h4 d a (by omega)]) 6 (z_day Z' (d0 + j)).length Z' S h (fun _ _ => rfl) (fun _ _ _ => rfl) (Nat.le_refl _) (by
          have := (hP' (d0 + j) (by omega)).1
          rw [z_day_len]
          omega) (by rw [List.take_length, List.drop_length]; exact (List.append_nil _).symm)
      rw [List.drop_length, z_day_len] at h6
      exact ⟨6, h6⟩
/-- what the drops leave -/
def z_dr (Z Z' : zZ) : Prop := (∀ f, f ∉ [13, 14, 21, 22, 23] → Z' f = Z f) ∧ nI (Z' 23 0) = nI (Z 23 0) + nI (z_cnt Z (Z 20 0) (61 - Z 20 0)) ∧ (∀ d, d < Z 20 0 → z_day Z' d = z_day Z d) ∧ ∀ d, Z 20 0 ≤ d → d ≤ 60 → z_day Z' d = (z_day Z d).filter (z_fit Z)
theorem z_up_day {Z : zZ} {f i v : Nat} (h1 : f ≠ 21) (h2 : f ≠ 22) (d : Nat) : z_day (up Z f i v) d = z_day Z d := by
  unfold z_day
  rw [up_f (Ne.symm h1), up_f (Ne.symm h2)]
theorem m_drops {Q : Int32 → zS → Prop} (h : RM ma Z m S) (hM : z_M Z) (hT : z_TT Z) (hB : z_B Z) (hP : z_P Z) (hd : Z 20 0 ≤ 60) (k : ∀ Z' S', RM ma Z' m S' → z_dr Z Z' → Q (nI (z_cnt Z (Z 20 0) (61 - Z 20 0))) S') : p_X11_drops E m S Q X := by
  refine ⟨h.1, 62, ?_⟩
  have := h.i 20
  rw [this]
  refine m_drops_L7 hM hT hB hP hd (fun Z' S' g hD h1 h2 => ⟨g.1, ?_⟩) 62 0 Z S h (fun _ _ => rfl) (by omega) (by omega) (fun _ _ _ => rfl) (fun d a b => by omega)
  have e23 : gI S' 1123 m = nI (Z' 23 0) := g.i 23
  rw [e23, hD 23 (by decide), nI_add]
  refine g.wI 23 (Z 23 0 + z_cnt Z (Z 20 0) (61 - Z 20 0)) rfl (fun S2 g2 => k _ S2 g2 ⟨fun f hf => ?_, ?_, fun d hd => ?_, fun d hd hd2 => ?_⟩)
  · rw [up_f (fun e => hf (by rw [e]; decide))]
    exact hD f (fun h9 => hf (by
      simp only [List.mem_cons, List.not_mem_nil, or_false] at h9 ⊢
      omega))
  · rw [up_s, nI_add]
  · rw [z_up_day (by decide) (by decide)]
    exact h1 d hd
  · rw [z_up_day (by decide) (by decide)]
    exact h2 d hd hd2
end MG
