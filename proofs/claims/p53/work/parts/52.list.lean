/-! lists: cleared, an element taken out -/
def vrem (V : vV) (f i j : Nat) : vV := fun g a b => if g = f ∧ a = i ∧ b = 0 then V f i 0 - 1 else if g = f + 2000 ∧ a = i ∧ j ≤ b then V (f + 2000) i (b + 1) else V g a b
section LMs
variable {E : zE} {ad la : Nat → Nat → Nat} {n : Nat → Nat} {V : vV} {S : zS} {X : String → zS → Prop}
theorem l2_id (la : Nat → Nat → Nat) (f i : Nat) : l2 la f i (la f i) = la := by
  funext g j
  unfold l2
  by_cases e : g = f ∧ j = i
  · rw [if_pos e, e.1, e.2]
  · rw [if_neg e]
/-- what may have changed: the list's own fields, its array's elements -/
def Pl (S S' : zS) (a0 b : Nat) : Prop := gL S' = gL S ∧ gK S' = gK S ∧ (∀ g a, a ≠ a0 → gI S' g a = gI S g a) ∧ gR S' = gR S ∧ gN S' = gN S ∧ gA S' = gA S ∧ ∀ a, a ≠ b → gQ S' a = gQ S a
theorem RC.lj (h : RC E ad la n V S) {f i : Nat} (hf : f ∈ cL) (hi : i < n f) {S' : zS} {V' : vV} (p : Pl S S' (ad f i) (la f i)) (h0 : V (f + 4000) i 0 = 0 → gQ S' = gQ S)
    (hV : ∀ g j, ¬ ((g = f ∨ g = f + 2000 ∨ g = f + 4000) ∧ j = i) → V' g j = V g j) (h4 : V' (f + 4000) i 0 = V (f + 4000) i 0) (new : LI E ad la n V' S' f i) : RC E ad la n V' S' := by
  obtain ⟨q1, q2, q3, q4, q5, q6, q7⟩ := p
  have := h.li (b := la f i) hf hi (S' := S') (V' := V') (fun a ha => ⟨by rw [q1]; exact ha, by rw [q2]⟩) (fun g a ha hne => ⟨q3 g a hne, by rw [q4]⟩) (fun a ha hno => ⟨by rw [q5], by rw [q6], ?_⟩) (fun hz => Or.inr ⟨by rw [← h4]; exact hz, rfl⟩) hV (by rw [l2_id]; exact new)
  · rw [l2_id] at this
    exact this
  · by_cases e : V (f + 4000) i 0 = 0
    · rw [h0 e]
    · exact q7 a (fun x => hno ⟨e, x⟩)
theorem u3_own (V : vV) (f i v g j : Nat) (h : ¬ ((g = f ∨ g = f + 2000 ∨ g = f + 4000) ∧ j = i)) : u3 V f i 0 v g j = V g j :=
  funext fun b => if_neg (fun e => h ⟨Or.inl e.1, e.2.1⟩)
theorem c_clear_L {K Q : zS → Prop} {f i : Nat} (h : RC E ad la n V S) (hf : f ∈ cL) (hi : i < n f) (hc : V (f + 4000) i 0 ≠ 0) (k : ∀ S', RC E ad la n (u3 V f i 0 0) S' → K S') :
    ∀ (w j : Nat) (S' : zS), j ≤ V f i 0 → V f i 0 < j + w → Pl S S' (ad f i) (la f i) → gI S' 2 (ad f i) = nI 0 → p_Jx4a65c_clear_da8c8_L27 E K Q X w (some (la f i)) (nI (V f i 0)) (nI j) S'
  | 0, j, S', h1, h2, _, _ => by omega
  | w + 1, j, S', h1, h2, p, p2 => by
    have hz := h.sz f i hi hf
    have l := h.lI hf hi
    rcases l.2 with a | ⟨p1, p2', p3, p4, p5, p6⟩
    · exact absurd a.1 hc
    · refine pk_le (V f i 0) j (fun h3 => k S' ?_) (fun h3 => ⟨la f i, rfl, ⟨by rw [p.1]; exact p4.1, by rw [p.2.1]; exact p4.2⟩, j, ⟨rfl, by rw [p.2.2.2.2.1, p5]; omega, by rw [p.2.2.2.2.1, p5]; omega⟩, ?_⟩)
      · refine h.lj hf hi p (fun x => absurd x hc) (fun g j hg => u3_own V f i 0 g j hg) (by rw [u3_f (by omega)]) ?_
        unfold LI
        rw [u3_s, u3_f (show f + 4000 ≠ f by omega), u3_f (show f + 2000 ≠ f by omega), p2, p.1, p.2.1, p.2.2.2.1, p.2.2.2.2.1]
        exact ⟨rfl, Or.inr ⟨p1, Nat.zero_le _, p3, p4, p5, fun j hj => by omega⟩⟩
      · rintro _ rfl
        rw [nI_1]
        refine c_clear_L h hf hi hc k w (j + 1) _ (by omega) (by omega) ⟨p.1, p.2.1, p.2.2.1, p.2.2.2.1, p.2.2.2.2.1, p.2.2.2.2.2.1, fun a ha => ?_⟩ p2
        rw [← p.2.2.2.2.2.2 a ha]
        funext b
        rw [gQ_sQ, if_neg (fun e => ha e.1)]
theorem c_clear {Q : zS → Prop} (h : RC E ad la n V S) (f i : Nat) (hi : i < n f) (k : ∀ S', RC E ad la n (u3 V f i 0 0) S' → Q S') (hf : f ∈ cL := by decide) : p_Jx4a65c_clear_da8c8 E (ad f i) S Q X := by
  have o := h.oL hf hi
  have l := h.lI hf hi
  refine ⟨o, ?_⟩
  rintro _ rfl
  rintro _ rfl
  have i2 : gI (sI S 0 (ad f i) (gI S 0 (ad f i) + 1)) 2 (ad f i) = nI (V f i 0) := by
    rw [gI_sI, if_neg (fun x => absurd x.1 (by decide))]
    exact l.1
  have P : Pl S (sI (sI S 0 (ad f i) (gI S 0 (ad f i) + 1)) 2 (ad f i) 0) (ad f i) (la f i) := ⟨rfl, rfl, fun g a hne => by rw [gI_sI, if_neg (fun x => hne x.2), gI_sI, if_neg (fun x => hne x.2)], rfl, rfl, rfl, fun a _ => rfl⟩
  have P2 : gI (sI (sI S 0 (ad f i) (gI S 0 (ad f i) + 1)) 2 (ad f i) 0) 2 (ad f i) = nI 0 := by
    rw [gI_sI, if_pos ⟨rfl, rfl⟩]
    rfl
  rw [i2]
  rcases l.2 with ⟨a1, a2, a3⟩ | ⟨p1, p2, p3, p4, p5, p6⟩
  · refine ⟨1, ?_⟩
    rw [a2]
    refine ⟨fun _ => k _ ?_, fun x => absurd (by decide) x⟩
    refine h.lj hf hi P (fun _ => rfl) (fun g j hg => u3_own V f i 0 g j hg) (by rw [u3_f (by omega)]) ?_
    unfold LI
    rw [u3_s, u3_f (show f + 4000 ≠ f by omega), P2]
    exact ⟨rfl, Or.inl ⟨a1, rfl, a3⟩⟩
  · refine ⟨V f i 0 + 1, ?_⟩
    rw [show gR (sI S 0 (ad f i) (gI S 0 (ad f i) + 1)) 1 (ad f i) = some (la f i) from p3]
    exact c_clear_L h hf hi (by omega) k (V f i 0 + 1) 0 _ (by omega) (by omega) P P2
theorem vrem_0 (V : vV) (f i j : Nat) : vrem V f i j f i 0 = V f i 0 - 1 := if_pos ⟨rfl, rfl, rfl⟩
theorem vrem_e (V : vV) (f i j b : Nat) : vrem V f i j (f + 2000) i b = if j ≤ b then V (f + 2000) i (b + 1) else V (f + 2000) i b := by
  unfold vrem
  rw [if_neg (fun e => by omega)]
  by_cases x : j ≤ b
  · rw [if_pos ⟨rfl, rfl, x⟩, if_pos x]
  · rw [if_neg (fun e => x e.2.2), if_neg x]
theorem vrem_f {V : vV} {f i j g : Nat} (h1 : g ≠ f) (h2 : g ≠ f + 2000) : vrem V f i j g = V g := funext fun a => funext fun b => by
  unfold vrem
  rw [if_neg (fun e => h1 e.1), if_neg (fun e => h2 e.1)]
theorem vrem_i {V : vV} {f i j g a : Nat} (h1 : a ≠ i) : vrem V f i j g a = V g a := funext fun b => by
  unfold vrem
  rw [if_neg (fun e => h1 e.2.1), if_neg (fun e => h1 e.2.1)]
theorem c_rem_end (h : RC E ad la n V S) {f i j : Nat} (hf : f ∈ cL) (hi : i < n f) (hj : j < V f i 0) {S' : zS} (p : Pl S S' (ad f i) (la f i)) (p2 : gI S' 2 (ad f i) = nI (V f i 0 - 1))
    (hq : ∀ b, b < V f i 0 - 1 → gQ S' (la f i) b = gQ S (la f i) (if j ≤ b then b + 1 else b)) : RC E ad la n (vrem V f i j) S' := by
  rcases (h.lI hf hi).2 with a | ⟨p1, p2', p3, p4, p5, p6⟩
  · omega
  · refine h.lj hf hi p (fun x => by omega) (fun g a hg => ?_) (by rw [vrem_f (by omega) (by omega)]) ?_
    · funext b
      unfold vrem
      rw [if_neg (fun e => hg ⟨Or.inl e.1, e.2.1⟩), if_neg (fun e => hg ⟨Or.inr (Or.inl e.1), e.2.1⟩)]
    · unfold LI
      rw [vrem_0, vrem_f (show f + 4000 ≠ f by omega) (show f + 4000 ≠ f + 2000 by omega), p2, p.1, p.2.1, p.2.2.2.1, p.2.2.2.2.1]
      refine ⟨rfl, Or.inr ⟨p1, by omega, p3, p4, p5, fun b hb => ?_⟩⟩
      rw [vrem_e, hq b hb]
      by_cases x : j ≤ b
      · rw [if_pos x, if_pos x]
        exact p6 (b + 1) (by omega)
      · rw [if_neg x, if_neg x]
        exact p6 b (by omega)
theorem c_remove {Q : Option Nat → zS → Prop} (h : RC E ad la n V S) (f i j : Nat) (hi : i < n f) (hj : j < V f i 0) (k : ∀ r S', RC E ad la n (vrem V f i j) S' → Q r S') (hf : f ∈ cL := by decide) : p_Jx4a65c_remove_915e3 E (ad f i) (nI j) S Q X := by
  have hz := h.sz f i hi hf
  have o := h.oL hf hi
  have cf := cL_el f hf
  have l := h.lI hf hi
  refine ⟨o, ?_⟩
  rw [l.1]
  rcases l.2 with a | ⟨p1, p2, p3, p4, p5, p6⟩
  · omega
  · refine c_check hj (by omega) ⟨o, la f i, p3, ⟨p4.1, by rw [p4.2]; decide, by rw [p4.2]; decide⟩, j, ⟨rfl, by rw [p5]; omega, by rw [p5]; omega⟩, o, ?_⟩
    rintro _ rfl
    have i2 : gI (sI S 0 (ad f i) (gI S 0 (ad f i) + 1)) 2 (ad f i) = nI (V f i 0) := by
      rw [gI_sI, if_neg (fun x => absurd x.1 (by decide))]
      exact l.1
    rw [i2, show nI (V f i 0) - 1 = nI (V f i 0 - 1) from pk_sub (b := 1) (by omega)]
    refine pk_le (V f i 0 - 1) j (fun h3 => ?_) (fun h3 => ?_)
    · rintro _ rfl
      refine ⟨p4, V f i 0 - 1, ⟨rfl, by show _ < gN S (la f i); rw [p5]; omega, by show gN S (la f i) < _; rw [p5]; omega⟩, ?_⟩
      rintro _ rfl
      refine k _ _ (c_rem_end h hf hi hj ⟨rfl, rfl, fun g a hne => ?_, rfl, rfl, rfl, fun a ha => ?_⟩ ?_ (fun b hb => ?_))
      · rw [gI_sQ, gI_sI, if_neg (fun x => hne x.2), gI_sI, if_neg (fun x => hne x.2)]
      · funext b
        rw [gQ_sQ, if_neg (fun x => ha x.1)]
        rfl
      · rw [gI_sQ, gI_sI, if_pos ⟨rfl, rfl⟩]
      · rw [gQ_sQ, if_neg (fun x => by omega), if_neg (show ¬ j ≤ b by omega)]
        rfl
    · refine ⟨p4, j + 1, j, V f i 0 - 1 - j, el f, ⟨nI_1 j, rfl, pk_sub (by omega), by show _ ≤ gN S (la f i); rw [p5]; omega, by show _ ≤ gN S (la f i); rw [p5]; omega, by show gN S (la f i) < _; rw [p5]; omega, by show gN S (la f i) < _; rw [p5]; omega, cf.2.2, fun b hb y hy => ?_⟩, ?_⟩
      · have w := p6 (j + 1 + b) (by omega)
        have hy' : gQ S (la f i) (j + 1 + b) = some y := hy
        rw [w.2] at hy'
        cases hy'
        have w2 := h.1.1 (el f) _ cf.1 w.1
        exact ⟨w2.1, w2.2.trans cf.2.1⟩
      · rintro _ rfl
        rintro _ rfl
        refine ⟨V f i 0 - 1, ⟨rfl, by show _ < gN S (la f i); rw [p5]; omega, by show gN S (la f i) < _; rw [p5]; omega⟩, ?_⟩
        rintro _ rfl
        refine k _ _ (c_rem_end h hf hi hj ⟨rfl, rfl, fun g a hne => ?_, rfl, rfl, rfl, fun a ha => ?_⟩ ?_ (fun b hb => ?_))
        · rw [gI_sQ, gI_sI, if_neg (fun x => hne x.2), gI_sC, gI_sI, if_neg (fun x => hne x.2)]
        · funext b
          rw [gQ_sQ, if_neg (fun x => ha x.1), gQ_sI, gQ_sC, if_neg ha]
          rfl
        · rw [gI_sQ, gI_sI, if_pos ⟨rfl, rfl⟩]
        · rw [gQ_sQ, if_neg (fun x => by omega), gQ_sI, gQ_sC, if_pos rfl]
          by_cases x : j ≤ b
          · rw [if_pos x, pk_cpy_in x (by omega), show j + 1 + (b - j) = b + 1 by omega]
            rfl
          · rw [if_neg x, pk_cpy_out (Or.inl (by omega))]
            rfl
end LMs
