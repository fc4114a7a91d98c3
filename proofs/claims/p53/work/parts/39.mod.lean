/-! what is worn out newly -/
def z_lim (i : Nat) : Int32 := if i < 6 then 300 else 200
def z_nw (Z : zZ) (i : Nat) : Bool := Z 18 i == 0 && !decide (nI (Z 17 i) < z_lim i)
def z_nv (Z : zZ) (i : Nat) : Nat := if z_nw Z i = true then 1 else Z 18 i
def z_any (Z : zZ) : Nat → Bool
  | 0 => false
  | b + 1 => (z_any Z b || z_nw Z b) || z_nw Z (6 + b)
section MH
variable {E : zE} {ma : Nat → Nat} {Z : zZ} {m : Nat} {S : zS} {X : String → zS → Prop}
theorem z_or3 (a b c : Bool) : zb ((a || b) || c) = if a = true ∨ b = true ∨ c = true then 1 else 0 := by cases a <;> cases b <;> cases c <;> rfl
theorem m_lk_end {B : Nat → Int32 → Int32 → zS → Prop} {is r c : Bool} {l : Int32} {S : zS} (k : B m (zb ((is || r) || c)) l S) : ((¬ zb is = 0 → B m 1 l S) ∧ (zb is = 0 → (¬ zb r = 0 → B m 1 l S) ∧ (zb r = 0 → (zb c = 0 → B m 0 l S) ∧ (¬ zb c = 0 → B m 1 l S)))) := by
  refine zb_d (fun h => ?_) (fun h => zb_d (fun h2 => ?_) (fun h2 => zb_c (fun h3 => ?_) (fun h3 => ?_)))
  · rw [h] at k; exact k
  · rw [h, h2] at k; exact k
  · rw [h, h2, h3] at k; exact k
  · rw [h, h2, h3] at k; exact k
theorem m_J120 {B : Nat → Int32 → Int32 → zS → Prop} {Q : zS → Prop} {is r c : Bool} {b : Nat} (h : RM ma Z m S) (hb : b < 6) (k : ∀ S', RM ma (up Z 18 (6 + b) 1) m S' → B m (zb ((is || r) || c)) (nI (b + 1)) S') : p_X11_looks_J120 E B Q X m (zb is) (nI b) (zb r) (zb c) (6 + nI b) (ma 18) S := by
  refine ⟨(h.2.1 18 (by decide)).2.1, h.ix 18 (6 + b) (nI_add 6 b) (by show _ < 12; omega) ⟨Or.inr rfl, h.wA 18 (6 + b) 1 rfl (fun S1 g1 => ?_)⟩⟩
  rw [nI_1]
  exact m_lk_end (k S1 g1)
theorem m_J94 {B : Nat → Int32 → Int32 → zS → Prop} {Q : zS → Prop} {is r c : Bool} {b v : Nat} (h : RM ma Z m S) (hb : b < 6) (hv : v = 0 ∨ v = 1) (h18 : Z 18 (6 + b) < 2) (k : ∀ S', RM ma (up (up Z 18 b v) 18 (6 + b) (if c = true then 1 else Z 18 (6 + b))) m S' → B m (zb ((is || r) || c)) (nI (b + 1)) S') : p_X11_looks_J94 E B Q X m (zb is) (nI b) (zb r) (zb c) (nI v) (nI b) (ma 18) S := by
  refine ⟨(h.2.1 18 (by decide)).2.1, h.ix 18 b rfl (by show _ < 12; omega) ⟨by rcases hv with rfl | rfl <;> decide, h.wA 18 b v rfl (fun S1 g1 => ⟨g1.1, ?_⟩)⟩⟩
  have e0 : up Z 18 b v 18 (6 + b) = Z 18 (6 + b) := up_i (by omega)
  refine g1.ij 18 (6 + b) (nI_add 6 b) (by show _ < 12; omega) ?_
  rw [g1.a 18, e0, ri_0 h18]
  refine ⟨fun h1 => ?_, fun h1 => zb_c (fun h2 => ?_) (fun h2 => ?_)⟩
  · refine m_J120 g1 hb (fun S2 g2 => k S2 ?_)
    have : (if c = true then 1 else Z 18 (6 + b)) = 1 := by split <;> omega
    rw [this]
    exact g2
  · refine g1.ix 18 (6 + b) (nI_add 6 b) (by show _ < 12; omega) ⟨Or.inl rfl, g1.wA 18 (6 + b) 0 rfl (fun S2 g2 => ?_)⟩
    rw [nI_1]
    have : (if c = true then 1 else Z 18 (6 + b)) = 0 := by rw [if_neg (by rw [h2]; decide)]; exact h1
    rw [this] at k
    have k2 := k S2 g2
    have h9 := m_lk_end (B := B) (is := is) (r := r) (c := c) k2
    rw [h2] at h9 ⊢
    exact h9
  · refine m_J120 g1 hb (fun S2 g2 => k S2 ?_)
    rw [if_pos h2]
    exact g2
theorem m_J69 {B : Nat → Int32 → Int32 → zS → Prop} {Q : zS → Prop} {is r c : Bool} {b : Nat} (h : RM ma Z m S) (hb : b < 6) (h18 : Z 18 b < 2) (h19 : Z 18 (6 + b) < 2) (k : ∀ S', RM ma (up (up Z 18 b (if r = true then 1 else Z 18 b)) 18 (6 + b) (if c = true then 1 else Z 18 (6 + b))) m S' → B m (zb ((is || r) || c)) (nI (b + 1)) S') : p_X11_looks_J69 E B Q X m (zb is) (nI b) (zb r) (zb c) S := by
  refine ⟨h.1, h.ij 18 b rfl (by show _ < 12; omega) ?_⟩
  rw [h.a 18, ri_0 h18]
  refine ⟨fun h1 => ?_, fun h1 => zb_c (fun h2 => ?_) (fun h2 => ?_)⟩
  · have : (if r = true then 1 else Z 18 b) = 1 := by split <;> omega
    rw [this] at k
    exact m_J94 h hb (Or.inr rfl) h19 k
  · have : (if r = true then 1 else Z 18 b) = 0 := by rw [if_neg (by rw [h2]; decide)]; exact h1
    rw [this] at k
    exact m_J94 h hb (Or.inl rfl) h19 k
  · rw [if_pos h2] at k
    exact m_J94 h hb (Or.inr rfl) h19 k
theorem m_J36 {B : Nat → Int32 → Int32 → zS → Prop} {Q : zS → Prop} {is r : Bool} {b : Nat} (h : RM ma Z m S) (hb : b < 6) (h18 : Z 18 b < 2) (h19 : Z 18 (6 + b) < 2) (k : ∀ S', RM ma (up (up Z 18 b (if r = true then 1 else Z 18 b)) 18 (6 + b) (z_nv Z (6 + b))) m S' → B m (zb ((is || r) || z_nw Z (6 + b))) (nI (b + 1)) S') : p_X11_looks_J36 E B Q X m (zb is) (nI b) (zb r) S := by
  have el : z_lim (6 + b) = 200 := if_neg (by omega)
  refine ⟨h.1, h.ij 17 (6 + b) (nI_add 6 b) (by show _ < 12; omega) ?_⟩
  rw [h.a 17]
  refine ⟨fun h1 => ?_, fun h1 => h.ij 18 (6 + b) (nI_add 6 b) (by show _ < 12; omega) ?_⟩
  · have e : z_nw Z (6 + b) = false := by unfold z_nw; rw [el]; simp [h1]
    unfold z_nv at k
    rw [e] at k
    exact m_J69 h hb h18 h19 k
  · rw [h.a 18, ri_0 h19]
    refine ⟨fun h2 => ?_, fun h2 => ?_⟩
    · have e : z_nw Z (6 + b) = false := by unfold z_nw; simp [h2]
      unfold z_nv at k
      rw [e] at k
      exact m_J69 h hb h18 h19 k
    · have e : z_nw Z (6 + b) = true := by unfold z_nw; rw [el]; simp [h1, h2]
      unfold z_nv at k
      rw [e] at k
      exact m_J69 (c := true) h hb h18 h19 k
/-- what looking leaves, the drops aside -/
def z_lk (Z Z' : zZ) : Prop := (∀ f, f ≠ 18 → Z' f = Z f) ∧ ∀ i, i < 12 → Z' 18 i = z_nv Z i
theorem m_looks_L {K : Nat → Int32 → zS → Prop} {Q : zS → Prop} (hB : z_B Z) (k : ∀ Z' S', RM ma Z' m S' → z_lk Z Z' → K m (zb (z_any Z 6)) S') :
    ∀ (w b : Nat) (Z' : zZ) (S : zS), RM ma Z' m S → b ≤ 6 → 6 < b + w → (∀ f, f ≠ 18 → Z' f = Z f) → (∀ i, i < 12 → Z' 18 i = if i < b ∨ (6 ≤ i ∧ i < 6 + b) then z_nv Z i else Z 18 i) → p_X11_looks_L4 E K Q X w m (zb (z_any Z b)) (nI b) S
  | 0, b, Z', S, h, h1, h2, h3, h4 => by omega
  | w + 1, b, Z', S, h, h1, h2, h3, h4 => by
    refine pk_le 6 b (fun h5 => ?_) (fun h5 => ⟨h.1, h.ij 17 b rfl (by show _ < 12; omega) ?_⟩)
    · have e : b = 6 := by omega
      subst e
      exact k Z' S h ⟨h3, fun i hi => by rw [h4 i hi, if_pos (by omega)]⟩
    · have e17 : Z' 17 = Z 17 := h3 17 (by decide)
      have ea : Z' 18 b = Z 18 b := by rw [h4 b (by omega), if_neg (by omega)]
      have ec : Z' 18 (6 + b) = Z 18 (6 + b) := by rw [h4 _ (by omega), if_neg (by omega)]
      have b1 := hB.2 b (by omega)
      have b2 := hB.2 (6 + b) (by omega)
      have en : z_nw Z' (6 + b) = z_nw Z (6 + b) := by unfold z_nw; rw [ec, e17]
      have ev : z_nv Z' (6 + b) = z_nv Z (6 + b) := by unfold z_nv; rw [ec, en]
      have el : z_lim b = 300 := if_pos (by omega)
      have go : ∀ r : Bool, r = z_nw Z b → p_X11_looks_J36 E (fun (a0 : Nat) (l1 : Int32) (l2 : Int32) (S : zS) => p_X11_looks_L4 E K Q X w a0 l1 l2 S) Q X m (zb (z_any Z b)) (nI b) (zb r) S := by
        intro r er
        refine m_J36 h (by omega) (by rw [ea]; exact b1) (by rw [ec]; exact b2) (fun S2 g2 => ?_)
        rw [en, er]
        rw [ev, er, ea] at g2
        refine m_looks_L hB k w (b + 1) _ S2 g2 (by omega) (by omega) (fun f hf => by rw [up_f hf, up_f hf, h3 f hf]) (fun i hi => ?_)
        by_cases e1 : i = 6 + b
        · subst e1
          rw [up_s, if_pos (by omega)]
        · rw [up_i e1]
          by_cases e2 : i = b
          · subst e2
            rw [up_s]
            show z_nv Z i = _
            rw [if_pos (by omega)]
          · rw [up_i e2, h4 i hi]
            by_cases e3 : i < b ∨ (6 ≤ i ∧ i < 6 + b)
            · rw [if_pos e3, if_pos (by omega)]
            · rw [if_neg e3, if_neg (by omega)]
      rw [h.a 17, e17]
      refine ⟨fun h6 => go false ?_, fun h6 => h.ij 18 b rfl (by show _ < 12; omega) ?_⟩
      · unfold z_nw
        rw [el]
        simp [h6]
      · rw [h.a 18, ea, ri_0 b1]
        refine ⟨fun h7 => go false ?_, fun h7 => go true ?_⟩
        · unfold z_nw
          simp [h7]
        · unfold z_nw
          rw [el]
          simp [h6, h7]
theorem z_lk_B {Z Z' : zZ} (h : z_lk Z Z') (hB : z_B Z) : z_B Z' := by
  refine ⟨fun b hb => by rw [h.1 19 (by decide)]; exact hB.1 b hb, fun b hb => ?_⟩
  rw [h.2 b hb]
  unfold z_nv
  split
  · omega
  · exact hB.2 b hb
theorem z_lk_C {Z Z' : zZ} (h : z_lk Z Z') : z_C Z Z' := fun f hf => h.1 f (fun e => by subst e; exact absurd hf (by decide))
theorem z_lk_P {Z Z' : zZ} (h : z_lk Z Z') (hP : z_P Z) : z_P Z' := by
  intro d hd
  have := hP d hd
  unfold z_day at this ⊢
  rw [h.1 21 (by decide), h.1 22 (by decide), h.1 10 (by decide)]
  exact this
theorem m_looks {Q : zS → Prop} (h : RM ma Z m S) (hM : z_M Z) (hT : z_TT Z) (hB : z_B Z) (hP : z_P Z) (hd : Z 20 0 ≤ 60)
    (k0 : z_any Z 6 = false → ∀ Z' S', RM ma Z' m S' → z_lk Z Z' → Q S') (k1 : z_any Z 6 = true → ∀ Z1 Z' S', z_lk Z Z1 → RM ma Z' m S' → z_dr Z1 Z' → Q S') : p_X11_looks E m S Q X := by
  refine ⟨7, m_looks_L (Z := Z) hB (fun Z' S' g hl => zb_c (fun h1 => k0 h1 Z' S' g hl) (fun h1 => ⟨g.1, ?_⟩)) 7 0 Z S h (by omega) (by omega) (fun _ _ => rfl) (fun i hi => by rw [if_neg (by omega)])⟩
  exact m_drops g (z_C_M (z_lk_C hl) hM) (z_C_TT (z_lk_C hl) hT) (z_lk_B hl hB) (z_lk_P hl hP) (by rw [hl.1 20 (by decide)]; exact hd) (fun Z2 S2 g2 hdr => k1 h1 Z' Z2 S2 hl g2 hdr)
end MH
