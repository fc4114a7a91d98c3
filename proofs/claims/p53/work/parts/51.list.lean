/-! lists -/
def l2 (la : Nat → Nat → Nat) (f i b : Nat) : Nat → Nat → Nat := fun g j => if g = f ∧ j = i then b else la g j
def vadd (V : vV) (f i c e : Nat) : vV := u3 (u3 (u3 V (f + 4000) i 0 c) (f + 2000) i (V f i 0) e) f i 0 (V f i 0 + 1)
section LLs
variable {E : zE} {ad la : Nat → Nat → Nat} {n : Nat → Nat} {V : vV} {S : zS} {X : String → zS → Prop}
theorem cI_own : ∀ f, f ∈ cI → f / 100 < 11 := by decide +kernel
theorem cR_own : ∀ f, f ∈ cR → f / 100 < 11 := by decide +kernel
theorem cS_own : ∀ p, p ∈ cS → p.1 / 100 < 11 := by decide +kernel
theorem cV_own : ∀ f, f ∈ cV → f / 100 < 11 := by decide +kernel
theorem cL_own : ∀ f, f ∈ cL → 400 ≤ f ∧ f < 2000 := by decide +kernel
theorem sK_no0 : ∀ f, f ∈ cL → ∀ g, g ∈ cI ++ (cA ++ (cV ++ [1009])) → g ≠ f ∧ g ≠ f + 2000 ∧ g ≠ f + 4000 := by decide +kernel
theorem sK_no : ∀ f, f ∈ cL → ∀ g, g ∈ cI ∨ g ∈ cA ∨ g ∈ cV ∨ g = 1009 → g ≠ f ∧ g ≠ f + 2000 ∧ g ≠ f + 4000 := by
  intro f hf g hg
  refine sK_no0 f hf g ?_
  rw [List.mem_append, List.mem_append, List.mem_append, List.mem_singleton]
  exact hg
/-- one list is written anew -/
theorem RC.li (h : RC E ad la n V S) {f i b : Nat} (hf : f ∈ cL) (hi : i < n f) {S' : zS} {V' : vV}
    (fr : ∀ a, a ∈ gL S → a ∈ gL S' ∧ gK S' a = gK S a) (f1 : ∀ g a, a ∈ gL S → a ≠ ad f i → gI S' g a = gI S g a ∧ gR S' g a = gR S g a)
    (f3 : ∀ a, a ∈ gL S → ¬ (V (f + 4000) i 0 ≠ 0 ∧ a = la f i) → gN S' a = gN S a ∧ gA S' a = gA S a ∧ gQ S' a = gQ S a)
    (hq : V' (f + 4000) i 0 ≠ 0 → b ∉ gL S ∨ (V (f + 4000) i 0 ≠ 0 ∧ b = la f i)) (hV : ∀ g j, ¬ ((g = f ∨ g = f + 2000 ∨ g = f + 4000) ∧ j = i) → V' g j = V g j)
    (new : LI E ad (l2 la f i b) n V' S' f i) : RC E ad (l2 la f i b) n V' S' := by
  obtain ⟨⟨a1, a2, a3, a4, a5, a6, a7, a8, a9, a10, a11⟩, d1, d2⟩ := h
  have cf := cL_so f hf
  have co := cL_own f hf
  have o1 : ∀ s j, so s = true → s ≠ f → j < n s → ad s j ≠ ad f i := fun s j hs hne hj e => hne (a2 s j f i hs cf hj hi e).1
  have no : ∀ s j, so s = true → j < n s → ¬ (V (f + 4000) i 0 ≠ 0 ∧ ad s j = la f i) := by
    intro s j hs hj ⟨e1, e2⟩
    rcases (a10 f i hf hi).2 with ⟨e, _⟩ | ⟨_, _, _, e, _⟩
    · exact e1 e
    · have := (a1 s j hs hj).2
      rw [e2, e.2] at this
      exact kd_lt s hs this.symm
  have vk : ∀ g, g ∈ cI ∨ g ∈ cA ∨ g ∈ cV ∨ g = 1009 → V' g = V g := fun g hg => funext fun j => hV g j (fun e => by
    have := sK_no f hf g hg
    rcases e.1 with e | e | e
    · exact this.1 e
    · exact this.2.1 e
    · exact this.2.2 e)
  have vl : ∀ g j, g ∈ cL → ¬ (g = f ∧ j = i) → V' g j = V g j ∧ V' (g + 2000) j = V (g + 2000) j ∧ V' (g + 4000) j = V (g + 4000) j := by
    intro g j hg hne
    have c := cL_ne f hf g hg
    refine ⟨hV g j (fun e => ?_), hV _ j (fun e => ?_), hV _ j (fun e => ?_)⟩
    · rcases e.1 with e1 | e1 | e1
      · exact hne ⟨e1, e.2⟩
      · exact c.1 e1
      · exact c.2.1 e1
    · rcases e.1 with e1 | e1 | e1
      · exact c.2.2.1 e1
      · exact hne ⟨by omega, e.2⟩
      · exact c.2.2.2.1 e1
    · rcases e.1 with e1 | e1 | e1
      · exact c.2.2.2.2.1 e1
      · exact c.2.2.2.2.2 e1
      · exact hne ⟨by omega, e.2⟩
  refine ⟨⟨fun s j hs hj => ?_, a2, fun g j hg hj => ?_, fun p hp hp2 => ?_, fun g hg hj => ?_, fun hn => ?_, fun hn => ?_, fun hn => ?_, fun hn => ?_, fun g j hg hj => ?_, fun g j g' j' hg hg' hj hj' => ?_⟩, fun g j hg hj => ?_, fun g j hg hj => ?_⟩
  · have := fr _ (a1 s j hs hj).1
    exact ⟨this.1, this.2.trans (a1 s j hs hj).2⟩
  · have := a3 g j hg hj
    have w := cR_ok g hg
    have := cR_own g hg
    rw [(f1 g _ (a1 _ j w.2.1 (a3 g j hg hj).1).1 (o1 _ j w.2.1 (by omega) (a3 g j hg hj).1)).2]
    exact a3 g j hg hj
  · have g := a4 p hp hp2
    have w := cS_ok p hp
    have := cS_own p hp
    rw [(f1 p.1 _ (a1 _ 0 w.2.1 g.1.2).1 (o1 _ 0 w.2.1 (by omega) g.1.2)).2]
    exact g
  · have g1 := a5 g hg hj
    have w := cV_ok g hg
    have := cV_own g hg
    rw [(f1 g _ (a1 _ 0 w.1 g1.1.2).1 (o1 _ 0 w.1 (by omega) g1.1.2)).2, vk g (Or.inr (Or.inr (Or.inl hg)))]
    exact g1
  · have g1 := a6 hn
    rw [(f1 1009 _ (a1 10 0 rfl g1.1).1 (o1 10 0 rfl (by omega) g1.1)).2, vk 1009 (Or.inr (Or.inr (Or.inr rfl)))]
    exact g1
  · have g1 := a7 hn
    rw [(f1 703 _ (a1 7 0 rfl g1.1.1).1 (o1 7 0 rfl (by omega) g1.1.1)).2]
    exact g1
  · have w := f3 _ (a1 100 0 rfl hn).1 (no 100 0 rfl hn)
    rw [w.1, w.2.2]
    exact a8 hn
  · have w := f3 _ (a1 801 0 rfl hn).1 (no 801 0 rfl hn)
    rw [w.1, w.2.2]
    exact a9 hn
  · by_cases e : g = f ∧ j = i
    · obtain ⟨e1, e2⟩ := e
      subst e1
      subst e2
      exact new
    · have c := cL_so g hg
      have v := vl g j hg e
      have old := a10 g j hg hj
      have ne : ad g j ≠ ad f i := fun x => e (a2 g j f i c cf hj hi x)
      have w := fun q => f1 q _ (a1 g j c hj).1 ne
      have hla : l2 la f i b g j = la g j := if_neg e
      unfold LI
      rw [v.1, v.2.1, v.2.2, hla, (w 2).1, (w 1).2]
      refine ⟨old.1, ?_⟩
      rcases old.2 with o | ⟨p1, p2, p3, p4, p5, p6⟩
      · exact Or.inl o
      · have nl : ¬ (V (f + 4000) i 0 ≠ 0 ∧ la g j = la f i) := fun x => e (a11 g j f i hg hf hj hi (by omega) x.1 x.2)
        have z := f3 _ p4.1 nl
        have y := fr _ p4.1
        refine Or.inr ⟨p1, p2, p3, ⟨y.1, y.2.trans p4.2⟩, by rw [z.1]; exact p5, by rw [z.2.2]; exact p6⟩
  · have key : ∀ g j, g ∈ cL → j < n g → V' (g + 4000) j 0 ≠ 0 → ¬ (g = f ∧ j = i) → la g j ∈ gL S ∧ ¬ (V (f + 4000) i 0 ≠ 0 ∧ la g j = la f i) := by
      intro g j hg hj hc e
      rw [(vl g j hg e).2.2] at hc
      rcases (a10 g j hg hj).2 with o | ⟨p1, p2, p3, p4, p5, p6⟩
      · exact absurd o.1 hc
      · exact ⟨p4.1, fun x => e (a11 g j f i hg hf hj hi hc x.1 x.2)⟩
    have bad : V' (f + 4000) i 0 ≠ 0 → ∀ g j, g ∈ cL → j < n g → V' (g + 4000) j 0 ≠ 0 → ¬ (g = f ∧ j = i) → la g j ≠ b := by
      intro hz g j hg hj hc e x
      have y := key g j hg hj hc e
      rcases hq hz with z | z
      · exact z (x ▸ y.1)
      · exact y.2 ⟨z.1, x.trans z.2⟩
    intro hc hc' e
    by_cases e1 : g = f ∧ j = i
    · by_cases e2 : g' = f ∧ j' = i
      · exact ⟨e1.1.trans e2.1.symm, e1.2.trans e2.2.symm⟩
      · rw [show l2 la f i b g j = b from if_pos e1, show l2 la f i b g' j' = la g' j' from if_neg e2] at e
        exact absurd e.symm (bad (by rw [← e1.1, ← e1.2]; exact hc) g' j' hg' hj' hc' e2)
    · by_cases e2 : g' = f ∧ j' = i
      · rw [show l2 la f i b g' j' = b from if_pos e2, show l2 la f i b g j = la g j from if_neg e1] at e
        exact absurd e (bad (by rw [← e2.1, ← e2.2]; exact hc') g j hg hj hc e1)
      · rw [show l2 la f i b g j = la g j from if_neg e1, show l2 la f i b g' j' = la g' j' from if_neg e2] at e
        rw [(vl g j hg e1).2.2] at hc
        rw [(vl g' j' hg' e2).2.2] at hc'
        exact a11 g j g' j' hg hg' hj hj' hc hc' e
  · have w := cI_ok g hg
    have := cI_own g hg
    rw [(f1 g _ (a1 _ j w.1 hj).1 (o1 _ j w.1 (by omega) hj)).1, vk g (Or.inl hg)]
    exact d1 g j hg hj
  · have w := cA_ok g hg
    have z := f3 _ (a1 g j w.1 hj).1 (no g j w.1 hj)
    rw [z.1, z.2.1, vk g (Or.inr (Or.inl hg))]
    exact d2 g j hg hj
theorem RC.oL (h : RC E ad la n V S) {f i : Nat} (hf : f ∈ cL) (hi : i < n f) : ad f i ∈ gL S ∧ gK S (ad f i) = 0 := by
  have := h.1.1 f i (cL_so f hf) hi
  rw [cL_kd f hf] at this
  exact this
theorem RC.lI (h : RC E ad la n V S) {f i : Nat} (hf : f ∈ cL) (hi : i < n f) : LI E ad la n V S f i := h.1.2.2.2.2.2.2.2.2.2.1 f i hf hi
theorem c_size {Q : Int32 → zS → Prop} (h : RC E ad la n V S) (f i : Nat) (hi : i < n f) (k : Q (nI (V f i 0)) S) (hf : f ∈ cL := by decide) : p_Jx4a65c_size_8abf5 E (ad f i) S Q X := by
  refine ⟨h.oL hf hi, ?_⟩
  rw [(h.lI hf hi).1]
  exact k
theorem RC.sz (h : RC E ad la n V S) (f i : Nat) (hi : i < n f) (hf : f ∈ cL := by decide) : V f i 0 ≤ 22 := by
  rcases (h.lI hf hi).2 with a | a
  · omega
  · omega
theorem c_isEmpty {Q : Int32 → zS → Prop} (h : RC E ad la n V S) (f i : Nat) (hi : i < n f) (k : Q (if V f i 0 = 0 then 1 else 0) S) (hf : f ∈ cL := by decide) : p_Jx4a65c_isEmpty_aae02 E (ad f i) S Q X := by
  have hz := h.sz f i hi hf
  refine ⟨h.oL hf hi, ?_⟩
  rw [(h.lI hf hi).1]
  refine ⟨fun e => ⟨Or.inl rfl, ?_⟩, fun e => ⟨Or.inr rfl, ?_⟩⟩
  · rw [if_neg (fun x => e (by rw [x]; rfl))] at k
    exact k
  · by_cases x : V f i 0 = 0
    · rw [if_pos x] at k
      exact k
    · exact absurd e (nI_ne0 (by omega) (by omega))
theorem c_check {Q : Int32 → zS → Prop} {j m : Nat} (hi : j < m) (hn : m < 2 ^ 31) (k : Q (nI j) S) : p_J15_checkIndex_7cf53 E (nI j) (nI m) S Q X :=
  ⟨fun h => absurd h (nI_pos (by omega)), fun _ => ⟨fun _ => k, fun h => absurd (nI_lt hi hn) h⟩⟩
theorem c_get {Q : Option Nat → zS → Prop} (h : RC E ad la n V S) (f i j : Nat) {g t : Nat} (hi : i < n f) (hj : j < V f i 0) (k : V g i j < n t → Q (some (ad t (V g i j))) S) (hg : f + 2000 = g := by rfl) (ht : el f = t := by rfl) (hf : f ∈ cL := by decide) : p_Jx4a65c_get_915e3 E (ad f i) (nI j) S Q X := by
  subst hg
  subst ht
  have hz := h.sz f i hi hf
  have o := h.oL hf hi
  refine ⟨o, ?_⟩
  have l := h.lI hf hi
  rw [l.1]
  rcases l.2 with a | ⟨p1, p2, p3, p4, p5, p6⟩
  · omega
  · refine c_check hj (by omega) ⟨o, o, la f i, p3, ⟨p4.1, by rw [p4.2]; decide, by rw [p4.2]; decide⟩, j, ⟨rfl, by rw [p5]; omega, by rw [p5]; omega⟩, ?_⟩
    rw [(p6 j hj).2]
    exact k (p6 j hj).1
def P3 (S S3 : zS) (a0 b c sz : Nat) (old : Nat → Prop) (els : Nat → Nat) : Prop :=
  (∀ a, a ∈ gL S → a ∈ gL S3 ∧ gK S3 a = gK S a) ∧ (∀ g a, a ∈ gL S → a ≠ a0 → gI S3 g a = gI S g a ∧ gR S3 g a = gR S g a) ∧
  (gI S3 2 a0 = nI sz ∧ gR S3 1 a0 = some b) ∧ (∀ a, a ∈ gL S → ¬ old a → gN S3 a = gN S a ∧ gA S3 a = gA S a ∧ gQ S3 a = gQ S a) ∧
  (b ∈ gL S3 ∧ gK S3 b = 16) ∧ gN S3 b = c ∧ (c = 10 ∨ c = 15 ∨ c = 22) ∧ sz < c ∧ (∀ j, j < sz → gQ S3 b j = some (els j)) ∧ (b ∉ gL S ∨ old b)
theorem c_put (h : RC E ad la n V S) {f i e b c : Nat} {S3 : zS} (hf : f ∈ cL) (hi : i < n f) (he : e < n (el f))
    (p : P3 S S3 (ad f i) b c (V f i 0) (fun a => V (f + 4000) i 0 ≠ 0 ∧ a = la f i) (fun j => ad (el f) (V (f + 2000) i j))) :
    RC E ad (l2 la f i b) n (vadd V f i c e) (sI (sQ S3 b (V f i 0) (some (ad (el f) e))) 2 (ad f i) (nI (V f i 0) + 1)) := by
  obtain ⟨q1, q2, q3, q4, q5, q6, q7, q8, q9, q10⟩ := p
  have c1 := cL_ne f hf f hf
  refine h.li hf hi q1 (fun g a ha hne => ?_) (fun a ha hno => ?_) (fun _ => q10) (fun g j hgj => ?_) ?_
  · rw [gI_sI, if_neg (fun x => hne x.2)]
    exact q2 g a ha hne
  · have z := q4 a ha hno
    have hb : a ≠ b := fun x => by
      rcases q10 with y | y
      · exact y (x ▸ ha)
      · exact hno (x ▸ y)
    refine ⟨z.1, z.2.1, funext fun j => ?_⟩
    rw [gQ_sI, gQ_sQ, if_neg (fun x => hb x.1)]
    exact congrFun z.2.2 j
  · have a1 : ¬ (g = f ∧ j = i) := fun x => hgj ⟨Or.inl x.1, x.2⟩
    have a2 : ¬ (g = f + 2000 ∧ j = i) := fun x => hgj ⟨Or.inr (Or.inl x.1), x.2⟩
    have a3 : ¬ (g = f + 4000 ∧ j = i) := fun x => hgj ⟨Or.inr (Or.inr x.1), x.2⟩
    funext d
    unfold vadd u3
    rw [if_neg (fun x => a1 ⟨x.1, x.2.1⟩), if_neg (fun x => a2 ⟨x.1, x.2.1⟩), if_neg (fun x => a3 ⟨x.1, x.2.1⟩)]
  · have e1 : vadd V f i c e f i 0 = V f i 0 + 1 := u3_s _ _ _ _ _
    have e2 : vadd V f i c e (f + 4000) i 0 = c := by
      unfold vadd
      rw [u3_f (by omega), u3_f (by omega), u3_s]
    have e3 : vadd V f i c e (f + 2000) i = fun j => if j = V f i 0 then e else V (f + 2000) i j := by
      unfold vadd
      rw [u3_f (by omega)]
      funext j
      by_cases x : j = V f i 0
      · subst x
        rw [u3_s, if_pos rfl]
      · rw [u3_j x, if_neg x, u3_f (by omega)]
    have el2 : l2 la f i b f i = b := if_pos ⟨rfl, rfl⟩
    unfold LI
    rw [e1, e2, e3, el2]
    refine ⟨by rw [gI_sI, if_pos ⟨rfl, rfl⟩, nI_1], Or.inr ⟨q7, q8, q3.2, q5, q6, fun j hj => ?_⟩⟩
    show (if j = V f i 0 then e else V (f + 2000) i j) < n (el f) ∧ gQ (sQ S3 b (V f i 0) (some (ad (el f) e))) b j = some (ad (el f) (if j = V f i 0 then e else V (f + 2000) i j))
    rw [gQ_sQ]
    by_cases x : j = V f i 0
    · rw [if_pos x, if_pos ⟨rfl, x⟩]
      exact ⟨he, rfl⟩
    · rw [if_neg x, if_neg (fun y => x y.2)]
      refine ⟨?_, q9 j (by omega)⟩
      rcases (h.lI hf hi).2 with y | ⟨_, _, _, _, _, y⟩
      · omega
      · exact (y j (by omega)).1
theorem c_nl {Q : Int32 → zS → Prop} {m c : Nat} (hm : (m = 10 ∧ c = 15) ∨ (m = 15 ∧ c = 22)) (k : Q (nI c) S) : p_J8_newLength_cabcc E (nI m) (nI m + 1 - nI m) (nI m >>> (1 &&& 31)) S Q X := by
  rcases hm with ⟨rfl, rfl⟩ | ⟨rfl, rfl⟩
  · have e : (nI 10 + (if (nI 10 + 1 - nI 10) < (nI 10 >>> ((1 : Int32) &&& 31)) then (nI 10 >>> ((1 : Int32) &&& 31)) else (nI 10 + 1 - nI 10) : Int32)) = nI 15 := by decide +kernel
    unfold p_J8_newLength_cabcc
    rw [e]
    exact ⟨fun x => absurd x (by decide), fun _ => ⟨fun x => absurd x (by decide), fun _ => k⟩⟩
  · have e : (nI 15 + (if (nI 15 + 1 - nI 15) < (nI 15 >>> ((1 : Int32) &&& 31)) then (nI 15 >>> ((1 : Int32) &&& 31)) else (nI 15 + 1 - nI 15) : Int32)) = nI 22 := by decide +kernel
    unfold p_J8_newLength_cabcc
    rw [e]
    exact ⟨fun x => absurd x (by decide), fun _ => ⟨fun x => absurd x (by decide), fun _ => k⟩⟩
theorem c_mn {m c : Nat} (hm : (m = 10 ∧ c = 15) ∨ (m = 15 ∧ c = 22)) : (if nI c < nI m then nI c else nI m) = nI m := by
  rcases hm with ⟨rfl, rfl⟩ | ⟨rfl, rfl⟩ <;> decide +kernel
theorem c_grow0 {Q : Option Nat → zS → Prop} {a0 : Nat} (o : a0 ∈ gL S ∧ gK S a0 = 0) (h1 : gR S 1 a0 = some E.2.2.2.2.1) (h2 : gI S 2 a0 = nI 0) (k : ∀ q, q ∉ gL S → Q (some q) (sR (nA S q 16 10) 1 a0 (some q))) : p_Jx4a65c_grow_d5877 E a0 S Q X := by
  refine ⟨o, o, E.2.2.2.2.1, h1, Or.inl ⟨rfl, fun x => absurd x (by decide), fun _ => ⟨fun _ => ⟨10, ⟨by rw [h2]; decide +kernel, by decide⟩, ?_⟩, fun x => absurd h1 x⟩⟩⟩
  rintro q hq _ rfl
  have ne : a0 ≠ q := fun e => hq (e ▸ o.1)
  refine ⟨⟨by rw [gL_nA]; exact List.mem_append_left _ o.1, by rw [gK_nA, va_up_ne _ _ ne]; exact o.2⟩, ?_⟩
  rintro _ rfl
  exact k q hq
theorem c_growN {Q : Option Nat → zS → Prop} {a0 b m c : Nat} {ci : Nat} (hci : ci = 9 ∨ ci = 5) (hm : (m = 10 ∧ c = 15) ∨ (m = 15 ∧ c = 22)) (o : a0 ∈ gL S ∧ gK S a0 = 0) (h1 : gR S 1 a0 = some b) (hb : b ∈ gL S ∧ gK S b = 16) (hN : gN S b = m) (h2 : gI S 2 a0 = nI m) (he : ∀ j, j < m → ∀ y, gQ S b j = some y → y ∈ gL S ∧ gK S y = ci)
    (k : ∀ q, q ∉ gL S → Q (some q) (sR (sC (nA S q 16 c) q (va_cpy (gQ S b) (gQ (nA S q 16 c) q) 0 0 m)) 1 a0 (some q))) : p_Jx4a65c_grow_d5877 E a0 S Q X := by
  have hm2 : m < 2 ^ 31 ∧ 0 < m ∧ c ≤ 22 ∧ m ≤ c := by omega
  refine ⟨o, o, b, h1, Or.inr ⟨⟨hb.1, by rw [hb.2]; decide, by rw [hb.2]; decide⟩, fun _ => ?_, fun x => ?_⟩⟩
  · rw [h2, hN]
    refine c_nl hm ⟨o, b, h1, hb, fun x => absurd rfl x, fun _ => ⟨c, ⟨rfl, by omega⟩, ?_⟩⟩
    rintro q hq _ rfl
    have nb : b ≠ q := fun e => hq (e ▸ hb.1)
    have na : a0 ≠ q := fun e => hq (e ▸ o.1)
    have kb : b ∈ gL (nA S q 16 c) ∧ gK (nA S q 16 c) b = 16 := ⟨by rw [gL_nA]; exact List.mem_append_left _ hb.1, by rw [gK_nA, va_up_ne _ _ nb]; exact hb.2⟩
    have kq : q ∈ gL (nA S q 16 c) ∧ gK (nA S q 16 c) q = 16 := ⟨by rw [gL_nA]; exact List.mem_append_right _ (List.mem_singleton.mpr rfl), by rw [gK_nA, va_up_self]⟩
    have nN : gN (nA S q 16 c) b = m := by rw [gN_nA, va_up_ne _ _ nb]; exact hN
    have nq : gN (nA S q 16 c) q = c := by rw [gN_nA, va_up_self]
    have qb : gQ (nA S q 16 c) b = gQ S b := funext fun j => by rw [gQ_nA, if_neg nb]
    refine Or.inr ⟨⟨kb.1, by rw [kb.2]; decide, by rw [kb.2]; decide⟩, kb, kq, 0, 0, m, ci, ⟨rfl, rfl, ?_, by rw [nN]; omega, by rw [nq]; omega, by rw [nN]; omega, by rw [nq]; omega, hci, fun j hj y hy => ?_⟩, ?_⟩
    · rw [nN]
      exact c_mn hm
    · rw [qb, Nat.zero_add] at hy
      have w := he j hj y hy
      have ny : y ≠ q := fun e => hq (e ▸ w.1)
      exact ⟨by rw [gL_nA]; exact List.mem_append_left _ w.1, by rw [gK_nA, va_up_ne _ _ ny]; exact w.2⟩
    · rintro _ rfl
      rw [qb]
      refine ⟨⟨by rw [gL_sC, gL_nA]; exact List.mem_append_left _ o.1, by rw [gK_sC, gK_nA, va_up_ne _ _ na]; exact o.2⟩, ?_⟩
      rintro _ rfl
      exact k q hq
  · rw [hN] at x
    exact absurd (nI_lt (a := 0) hm2.2.1 hm2.1) x
theorem c_add {Q : Int32 → zS → Prop} (h : RC E ad la n V S) (f i e : Nat) {t : Nat} (hi : i < n f) (he : e < n t) (hs : V f i 0 ≤ 21) (k : ∀ la' c S', RC E ad la' n (vadd V f i c e) S' → Q 1 S') (ht : el f = t := by rfl) (hf : f ∈ cL := by decide) : p_Jx4a65c_add_9ea2d E (ad f i) (ad t e) S Q X := by
  subst ht
  have o := h.oL hf hi
  have cf := cL_el f hf
  have l := h.lI hf hi
  have oe := h.1.1 (el f) e cf.1 he
  have oe2 : gK S (ad (el f) e) = 9 ∨ gK S (ad (el f) e) = 5 := by
    rw [oe.2, cf.2.1]
    exact cf.2.2
  refine ⟨o, ?_⟩
  rintro _ rfl
  have i2 : gI (sI S 0 (ad f i) (gI S 0 (ad f i) + 1)) 2 (ad f i) = nI (V f i 0) := by
    rw [gI_sI, if_neg (fun x => absurd x.1 (by decide))]
    exact l.1
  have i2' : ∀ g a, a ≠ ad f i → gI (sI S 0 (ad f i) (gI S 0 (ad f i) + 1)) g a = gI S g a := fun g a hne => by rw [gI_sI, if_neg (fun x => hne x.2)]
  rcases l.2 with ⟨c0, s0, r0⟩ | ⟨p1, p2, p3, p4, p5, p6⟩
  · refine ⟨E.2.2.2.2.1, r0, Or.inl ⟨rfl, fun x => ?_, fun _ => ⟨o, ?_⟩⟩⟩
    · rw [i2, s0] at x
      exact absurd rfl x
    · refine c_grow0 o r0 (by rw [i2, s0]) (fun q hq => ?_)
      have hq' : q ∉ gL S := hq
      have na : ad f i ≠ q := fun x => hq' (x ▸ o.1)
      have nae : ∀ a, a ∈ gL S → a ≠ q := fun a ha x => hq' (x ▸ ha)
      have P : P3 S (sR (nA (sI S 0 (ad f i) (gI S 0 (ad f i) + 1)) q 16 10) 1 (ad f i) (some q)) (ad f i) q 10 (V f i 0) (fun a => V (f + 4000) i 0 ≠ 0 ∧ a = la f i) (fun j => ad (el f) (V (f + 2000) i j)) := by
        refine ⟨fun a ha => ⟨by rw [gL_sR, gL_nA]; exact List.mem_append_left _ ha, by rw [gK_sR, gK_nA, va_up_ne _ _ (nae a ha)]; rfl⟩, fun g a ha hne => ⟨i2' g a hne, by rw [gR_sR, if_neg (fun x => hne x.2)]; rfl⟩, ⟨i2, by rw [gR_sR, if_pos ⟨rfl, rfl⟩]⟩, fun a ha _ => ⟨by rw [gN_sR, gN_nA, va_up_ne _ _ (nae a ha)]; rfl, funext fun j => by rw [gA_sR, gA_nA, if_neg (nae a ha)]; rfl, funext fun j => by rw [gQ_sR, gQ_nA, if_neg (nae a ha)]; rfl⟩, ⟨by rw [gL_sR, gL_nA]; exact List.mem_append_right _ (List.mem_singleton.mpr rfl), by rw [gK_sR, gK_nA, va_up_self]⟩, by rw [gN_sR, gN_nA, va_up_self], Or.inl rfl, by omega, fun j hj => by omega, Or.inl hq'⟩
      refine ⟨q, rfl, P.2.2.2.2.1, V f i 0, ⟨i2, by rw [P.2.2.2.2.2.1]; omega, by rw [P.2.2.2.2.2.1]; decide⟩, ⟨(P.1 _ oe.1).1, by rw [(P.1 _ oe.1).2]; exact oe2⟩, ?_⟩
      rintro _ rfl
      refine ⟨⟨(P.1 _ o.1).1, (P.1 _ o.1).2.trans o.2⟩, ?_⟩
      rintro _ rfl
      refine ⟨Or.inr rfl, ?_⟩
      rw [i2]
      exact k _ _ _ (c_put h hf hi he P)
  · refine ⟨la f i, p3, Or.inr ⟨⟨p4.1, by rw [show gK (sI S 0 (ad f i) (gI S 0 (ad f i) + 1)) = gK S from rfl, p4.2]; decide, by rw [show gK (sI S 0 (ad f i) (gI S 0 (ad f i) + 1)) = gK S from rfl, p4.2]; decide⟩, fun x => ?_, fun x => ⟨o, ?_⟩⟩⟩
    · rw [i2, show gN (sI S 0 (ad f i) (gI S 0 (ad f i) + 1)) (la f i) = V (f + 4000) i 0 from p5] at x
      have lt : V f i 0 < V (f + 4000) i 0 := by
        rcases Nat.lt_or_eq_of_le p2 with y | y
        · exact y
        · exact absurd (by rw [y]) x
      have P : P3 S (sI S 0 (ad f i) (gI S 0 (ad f i) + 1)) (ad f i) (la f i) (V (f + 4000) i 0) (V f i 0) (fun a => V (f + 4000) i 0 ≠ 0 ∧ a = la f i) (fun j => ad (el f) (V (f + 2000) i j)) :=
        ⟨fun a ha => ⟨ha, rfl⟩, fun g a ha hne => ⟨i2' g a hne, rfl⟩, ⟨i2, p3⟩, fun a ha _ => ⟨rfl, rfl, rfl⟩, p4, p5, p1, lt, fun j hj => (p6 j hj).2, Or.inr ⟨by omega, rfl⟩⟩
      refine ⟨p4, V f i 0, ⟨i2, by rw [P.2.2.2.2.2.1]; exact lt, by rw [P.2.2.2.2.2.1]; omega⟩, ⟨oe.1, oe2⟩, ?_⟩
      rintro _ rfl
      refine ⟨o, ?_⟩
      rintro _ rfl
      refine ⟨Or.inr rfl, ?_⟩
      rw [i2]
      exact k _ _ _ (c_put h hf hi he P)
    · rw [i2, show gN (sI S 0 (ad f i) (gI S 0 (ad f i) + 1)) (la f i) = V (f + 4000) i 0 from p5] at x
      have eq : V f i 0 = V (f + 4000) i 0 := (nI_eq (by omega) (by omega)).mp x
      have hm : ∃ c, (V (f + 4000) i 0 = 10 ∧ c = 15) ∨ (V (f + 4000) i 0 = 15 ∧ c = 22) := by
        rcases p1 with y | y | y
        · exact ⟨15, Or.inl ⟨y, rfl⟩⟩
        · exact ⟨22, Or.inr ⟨y, rfl⟩⟩
        · omega
      obtain ⟨c, hm⟩ := hm
      refine c_growN (ci := el f) cf.2.2 hm o p3 p4 p5 (by rw [i2, eq]) (fun j hj y hy => ?_) (fun q hq => ?_)
      · have w := p6 j (by omega)
        have hy' : gQ S (la f i) j = some y := hy
        rw [w.2] at hy'
        cases hy'
        have w2 := h.1.1 (el f) _ cf.1 w.1
        exact ⟨w2.1, w2.2.trans cf.2.1⟩
      · have hq' : q ∉ gL S := hq
        have na : ad f i ≠ q := fun x => hq' (x ▸ o.1)
        have nae : ∀ a, a ∈ gL S → a ≠ q := fun a ha x => hq' (x ▸ ha)
        have P : P3 S (sR (sC (nA (sI S 0 (ad f i) (gI S 0 (ad f i) + 1)) q 16 c) q (va_cpy (gQ (sI S 0 (ad f i) (gI S 0 (ad f i) + 1)) (la f i)) (gQ (nA (sI S 0 (ad f i) (gI S 0 (ad f i) + 1)) q 16 c) q) 0 0 (V (f + 4000) i 0))) 1 (ad f i) (some q)) (ad f i) q c (V f i 0) (fun a => V (f + 4000) i 0 ≠ 0 ∧ a = la f i) (fun j => ad (el f) (V (f + 2000) i j)) := by
          refine ⟨fun a ha => ⟨by rw [gL_sR, gL_sC, gL_nA]; exact List.mem_append_left _ ha, by rw [gK_sR, gK_sC, gK_nA, va_up_ne _ _ (nae a ha)]; rfl⟩, fun g a ha hne => ⟨i2' g a hne, by rw [gR_sR, if_neg (fun x => hne x.2)]; rfl⟩, ⟨i2, by rw [gR_sR, if_pos ⟨rfl, rfl⟩]⟩, fun a ha _ => ⟨by rw [gN_sR, gN_sC, gN_nA, va_up_ne _ _ (nae a ha)]; rfl, funext fun j => by rw [gA_sR, gA_sC, gA_nA, if_neg (nae a ha)]; rfl, funext fun j => by rw [gQ_sR, gQ_sC, if_neg (nae a ha), gQ_nA, if_neg (nae a ha)]; rfl⟩, ⟨by rw [gL_sR, gL_sC, gL_nA]; exact List.mem_append_right _ (List.mem_singleton.mpr rfl), by rw [gK_sR, gK_sC, gK_nA, va_up_self]⟩, by rw [gN_sR, gN_sC, gN_nA, va_up_self], by omega, by omega, fun j hj => ?_, Or.inl hq'⟩
          rw [gQ_sR, gQ_sC, if_pos rfl, pk_cpy_in (by omega) (by omega)]
          rw [show 0 + (j - 0) = j by omega]
          exact (p6 j hj).2
        refine ⟨q, rfl, P.2.2.2.2.1, V f i 0, ⟨i2, by rw [P.2.2.2.2.2.1]; omega, by rw [P.2.2.2.2.2.1]; omega⟩, ⟨(P.1 _ oe.1).1, by rw [(P.1 _ oe.1).2]; exact oe2⟩, ?_⟩
        rintro _ rfl
        refine ⟨⟨(P.1 _ o.1).1, (P.1 _ o.1).2.trans o.2⟩, ?_⟩
        rintro _ rfl
        refine ⟨Or.inr rfl, ?_⟩
        rw [i2]
        exact k _ _ _ (c_put h hf hi he P)
end LLs
