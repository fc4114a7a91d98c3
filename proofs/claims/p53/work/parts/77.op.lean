/-! lead -/
section OPK
variable {E : zE} {ma : Nat → Nat} {Z : zZ} {m : Nat} {S : zS} {X : String → zS → Prop}
theorem m_st0 {v : Nat} (h : RM ma (up Z 0 0 v) m S) : gI S 1100 m = nI v := by
  have := h.i 0
  rw [up_s] at this
  exact this
theorem RM.iz (h : RM ma Z m S) (f i : Nat) {P : Prop} (hi : i < rm_n f) (k : P) : (i < gN S (ma f) ∧ gN S (ma f) < 2 ^ 31) ∧ P :=
  ⟨⟨by rw [(h.2.1 f (by omega)).2.2]; exact hi, by rw [(h.2.1 f (by omega)).2.2]; exact rm_n_lt f⟩, k⟩
theorem m_leadX {Q : Int32 → zS → Prop} {l1 l2 : Int32} {j : Nat} (h : RM ma Z m S) (hj : 1 ≤ j ∧ j ≤ 3) (k : ∀ S', RM ma (up Z 0 0 j) m S' → Q 0 S') : p_X11_lead_J79 E Q X m l1 l2 (nI j) m S := by
  refine ⟨h.1, h.wI 0 j rfl (fun S1 g1 => ⟨g1.1, ?_⟩)⟩
  rw [m_st0 g1]
  exact ⟨fun x => absurd x (nI_nle (by omega) (by omega)), fun _ => k S1 g1⟩
theorem m_leadN {Q : Int32 → zS → Prop} {l1 l2 : Int32} {j : Nat} (h : RM ma Z m S) (hj : 1 ≤ j ∧ j ≤ 3) (k : ∀ S', RM ma (up Z 0 0 j) m S' → Q 0 S') : p_X11_lead_J25 E Q X m l1 l2 (nI j) m S := by
  refine ⟨h.1, h.wI 0 j rfl (fun S1 g1 => ⟨g1.1, ?_⟩)⟩
  unfold p_X11_lead_J82
  rw [m_st0 g1]
  exact ⟨fun _ => ⟨g1.1, fun x => absurd x (nI_nle (by omega) (by omega)), fun _ => k S1 g1⟩, fun x => absurd x (nI_ne0 (by omega) (by omega))⟩
theorem m_lead {Q : Int32 → zS → Prop} {i c : Nat} (h : RM ma Z m S) (hM : z_M Z) (hi : i < Z 3 0) (hc : c < 3) (h8 : Z 8 0 ≤ 20) (h9 : 0 < Z 8 0 → Z 9 0 / 3 < Z 3 0)
    (k3 : ¬ (Z 8 0 < 20 ∧ (0 < Z 8 0 → Z 4 i = Z 4 (Z 9 0 / 3))) → ∀ Z' S', RM ma Z' m S' → z_scr Z Z' → Z' 0 0 = 3 → Q 0 S')
    (k0 : Z 8 0 < 20 → (0 < Z 8 0 → Z 4 i = Z 4 (Z 9 0 / 3)) → ∀ Z' S', RM ma (up (up Z' 9 (Z 8 0) (3 * i + c)) 8 0 (Z 8 0 + 1)) m S' → z_scr Z Z' → Z' 0 0 = 0 → Q (nI (Z 8 0 + 1)) S') : p_X11_lead E m (nI i) (nI c) S Q X := by
  have b := z_M_n hM hi
  refine ⟨h.1, m_isM1 h hi hM ⟨fun _ => w1_isCall1 hc ⟨fun _ => ⟨h.1, h.wI 0 0 rfl (fun S1 g1 => ⟨g1.1, ?_⟩)⟩, fun x => absurd x (by decide)⟩, fun x => absurd x (by decide)⟩⟩
  have e8 : gI S1 1108 m = nI (Z 8 0) := g1.i 8
  have bad : ¬ (Z 8 0 < 20 ∧ (0 < Z 8 0 → Z 4 i = Z 4 (Z 9 0 / 3))) → p_X11_lead_J74 E Q X m (nI i) (nI c) m S1 := fun no => m_leadX (j := 3) g1 (by omega) (fun S2 g2 => k3 no _ S2 g2 (s0.up (by decide)) (up_s _ _ _ _))
  have good : Z 8 0 < 20 → (0 < Z 8 0 → Z 4 i = Z 4 (Z 9 0 / 3)) → p_X11_lead_J78 E Q X m (nI i) (nI c) m S1 := by
    intro h1 h2
    refine ⟨g1.1, g1.wI 0 0 rfl (fun S2 g2 => ⟨g2.1, ?_⟩)⟩
    have f8 : gI S2 1108 m = nI (Z 8 0) := g2.i 8
    rw [m_st0 g2, f8]
    refine ⟨fun _ => g2.ij 9 (Z 8 0) rfl (by show Z 8 0 < 20; exact h1) (g2.wA 9 (Z 8 0) (3 * i + c) ?_ (fun S3 g3 => g3.wI 8 (Z 8 0 + 1) ?_ (fun S4 g4 => ?_))), fun x => absurd (by decide) x⟩
    · rw [show (3 : Int32) * nI i = nI (3 * i) from pk_mul 3 i, nI_add]
    · have f8 : gI S3 1108 m = nI (Z 8 0) := g3.i 8
      rw [f8]
      exact nI_1 _
    · have e4 : gI S4 1108 m = nI (Z 8 0 + 1) := (g4.i 8).trans (by rw [up_s])
      rw [e4]
      exact k0 h1 h2 _ S4 g4 (s0.up (by decide)) (up_s _ _ _ _)
  rw [m_st0 g1, e8]
  refine ⟨fun x => absurd rfl x, fun _ => ⟨fun x => bad (fun y => ?_), fun x => ?_⟩⟩
  · have : Z 8 0 = 20 := (nI_eq (b := 20) (by omega) (by decide)).mp x
    omega
  · have n20 : Z 8 0 ≠ 20 := fun e => x (by rw [e]; rfl)
    by_cases z8 : Z 8 0 = 0
    · rw [z8]
      refine ⟨fun _ => good (by omega) (fun y => by omega), fun x => absurd (by decide) x⟩
    · have h9' := h9 (by omega)
      have b9 := z_M_n hM h9'
      refine ⟨fun x => absurd x (nI_nle (by omega) (by omega)), fun _ => g1.ex 9 (g1.iz 9 0 (by decide) (g1.ij 4 (Z 9 0 / 3) ?_ (by show _ < 8; omega) (g1.ij 4 i rfl (by show i < 8; omega) ?_)))⟩
      · rw [g1.a 9]
        exact pk_div (d := 3) (by show Z 9 0 < 2 ^ 31; omega) (by decide) (by decide)
      · rw [g1.a 4, g1.a 4]
        have e : nI (up Z 0 0 0 4 (Z 9 0 / 3)) = nI (up Z 0 0 0 4 i) ↔ Z 4 (Z 9 0 / 3) = Z 4 i := nI_eq (by show Z 4 _ < _; omega) (by show Z 4 _ < _; omega)
        rw [e]
        exact ⟨fun x => good (by omega) (fun _ => x.symm), fun x => bad (fun y => x (y.2 (by omega)).symm)⟩
end OPK
section OPL
variable {E : zE} {x m : Nat}
end OPL
