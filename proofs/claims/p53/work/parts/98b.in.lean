/-! the reference's new object -/
def ZI : zZ := fun f i => if f = 24 then (if i < 4 then 6 else 0) else if f = 26 ∨ f = 41 then (if i = 0 then 4294967295 else 0) else if f = 33 then (if i = 0 then 200 else 0) else 0
theorem ZI_0 {f i : Nat} (h : f ≠ 24 ∧ f ≠ 26 ∧ f ≠ 41 ∧ f ≠ 33) : ZI f i = 0 := by
  unfold ZI
  rw [if_neg h.1, if_neg (by omega), if_neg h.2.2.2]
def DL (l : List Nat) (g : Nat) : Bool := l.contains g || (rm_n g == 0 && (g != 26 && (g != 33 && g != 41)))
def RMp (l : List Nat) (ma : Nat → Nat) (m : Nat) (S : zS) : Prop :=
  (m ∈ gL S ∧ gK S m = 11) ∧ (∀ f, 0 < rm_n f → DL l f = true → gR S (1100 + f) m = some (ma f) ∧ (ma f ∈ gL S ∧ gK S (ma f) = rm_k f) ∧ gN S (ma f) = rm_n f) ∧
  (∀ f g, 0 < rm_n f → 0 < rm_n g → DL l f = true → DL l g = true → ma f = ma g → f = g) ∧ (∀ f, rm_n f = 0 → DL l f = true → gI S (1100 + f) m = nI (ZI f 0)) ∧ (∀ f i, 0 < rm_n f → DL l f = true → gA S (ma f) i = nI (ZI f i))
theorem DL_c {l : List Nat} {f g : Nat} : DL (f :: l) g = true ↔ g = f ∨ DL l g = true := by
  unfold DL
  rw [List.contains_cons, Bool.or_assoc, Bool.or_eq_true, beq_iff_eq]
def mq (ma : Nat → Nat) (f q : Nat) : Nat → Nat := fun g => if g = f then q else ma g
theorem mq_s {ma : Nat → Nat} {f q g : Nat} (h : g = f) : mq ma f q g = q := if_pos h
theorem mq_f {ma : Nat → Nat} {f q g : Nat} (h : g ≠ f) : mq ma f q g = ma g := if_neg h
section RP
variable {l : List Nat} {ma : Nat → Nat} {m : Nat} {S : zS}
theorem RMp.mkA (h : RMp l ma m S) {q : Nat} (hq : q ∉ gL S) (k n : Nat) : RMp l ma m (nA S q k n) := by
  have ne : ∀ a, a ∈ gL S → a ≠ q := fun a ha e => hq (e ▸ ha)
  obtain ⟨h1, h2, h3, h4, h5⟩ := h
  refine ⟨⟨by rw [gL_nA]; exact List.mem_append_left _ h1.1, by rw [gK_nA, va_up_ne _ _ (ne m h1.1)]; exact h1.2⟩, fun f hf hd => ?_, h3, h4, fun f i hf hd => ?_⟩
  · have w := h2 f hf hd
    refine ⟨w.1, ⟨by rw [gL_nA]; exact List.mem_append_left _ w.2.1.1, by rw [gK_nA, va_up_ne _ _ (ne _ w.2.1.1)]; exact w.2.1.2⟩, ?_⟩
    rw [gN_nA, va_up_ne _ _ (ne _ w.2.1.1)]
    exact w.2.2
  · rw [gA_nA, if_neg (ne _ (h2 f hf hd).2.1.1)]
    exact h5 f i hf hd
theorem RMp.dA (h : RMp l ma m S) {q : Nat} (hq : ∀ f, 0 < rm_n f → DL l f = true → ma f ≠ q) (j : Nat) (v : Int32) : RMp l ma m (sA S q j v) := by
  obtain ⟨h1, h2, h3, h4, h5⟩ := h
  refine ⟨h1, h2, h3, h4, fun f i hf hd => ?_⟩
  rw [gA_sA, if_neg (fun e => hq f hf hd e.1)]
  exact h5 f i hf hd
theorem RMp.nm (h : RMp l ma m S) {f q : Nat} (hf : 0 < rm_n f) (hd : DL l f = false) (hq : ∀ g, 0 < rm_n g → DL l g = true → ma g ≠ q) (o : q ∈ gL S ∧ gK S q = rm_k f) (hn : gN S q = rm_n f) (ha : ∀ i, gA S q i = nI (ZI f i)) : RMp (f :: l) (mq ma f q) m (sR S (1100 + f) m (some q)) := by
  obtain ⟨h1, h2, h3, h4, h5⟩ := h
  refine ⟨h1, fun g hg hd2 => ?_, fun a b ha' hb' hda hdb e => ?_, fun g hg hd2 => ?_, fun g i hg hd2 => ?_⟩
  · rcases DL_c.mp hd2 with e | e
    · subst e
      rw [mq_s rfl, gR_sR, if_pos ⟨rfl, rfl⟩]
      exact ⟨rfl, o, hn⟩
    · have ne : g ≠ f := fun x => by rw [x, hd] at e; cases e
      rw [mq_f ne, gR_sR, if_neg (fun x => ne (by omega))]
      exact h2 g hg e
  · rcases DL_c.mp hda with e1 | e1
    · rcases DL_c.mp hdb with e2 | e2
      · rw [e1, e2]
      · have ne : b ≠ f := fun x => by rw [x, hd] at e2; cases e2
        rw [mq_s e1, mq_f ne] at e
        exact absurd e.symm (hq b hb' e2)
    · have na : a ≠ f := fun x => by rw [x, hd] at e1; cases e1
      rcases DL_c.mp hdb with e2 | e2
      · rw [mq_f na, mq_s e2] at e
        exact absurd e (hq a ha' e1)
      · have nb : b ≠ f := fun x => by rw [x, hd] at e2; cases e2
        rw [mq_f na, mq_f nb] at e
        exact h3 a b ha' hb' e1 e2 e
  · rcases DL_c.mp hd2 with e | e
    · rw [e] at hg
      omega
    · exact h4 g hg e
  · rcases DL_c.mp hd2 with e | e
    · subst e
      rw [mq_s rfl]
      exact ha i
    · have ne : g ≠ f := fun x => by rw [x, hd] at e; cases e
      rw [mq_f ne]
      exact h5 g i hg e
theorem RMp.q (h : RMp l ma m S) {q : Nat} (hq : q ∉ gL S) : ∀ g, 0 < rm_n g → DL l g = true → ma g ≠ q := fun g hg hd e => hq (e ▸ (h.2.1 g hg hd).2.1.1)
theorem RMp.nwA (h : RMp l ma m S) (f : Nat) {k n : Nat} {P : zS → Prop} (kk : ∀ ma' S', RMp (f :: l) ma' m S' → P S') (hf : 0 < rm_n f := by decide) (hd : DL l f = false := by decide) (hz : f ≠ 24 ∧ f ≠ 26 ∧ f ≠ 41 ∧ f ≠ 33 := by decide) (hk : rm_k f = k := by rfl) (hn : rm_n f = n := by rfl) :
    ∀ q, q ∉ gL S → ∀ S3, S3 = nA S q k n → (m ∈ gL S3 ∧ gK S3 m = 11) ∧ ∀ S8, S8 = sR S3 (1100 + f) m (some q) → P S8 := by
  rintro q hq _ rfl
  have g := h.mkA hq k n
  refine ⟨g.1, ?_⟩
  rintro _ rfl
  refine kk _ _ (g.nm hf hd (h.q hq) ⟨by rw [gL_nA]; exact List.mem_append_right _ (List.mem_singleton.mpr rfl), by rw [gK_nA, va_up_self, hk]⟩ (by rw [gN_nA, va_up_self, hn]) (fun i => ?_))
  rw [gA_nA, if_pos rfl, ZI_0 hz]
  rfl
theorem RMp.wI (h : RMp l ma m S) (f : Nat) {v : Int32} {P : zS → Prop} (e : v = nI (ZI f 0)) (kk : ∀ S', RMp (f :: l) ma m S' → P S') (hf : rm_n f = 0 := by rfl) : ∀ S', S' = sI S (1100 + f) m v → P S' := by
  rintro _ rfl
  obtain ⟨h1, h2, h3, h4, h5⟩ := h
  have nf : ∀ g, 0 < rm_n g → DL (f :: l) g = true → DL l g = true := fun g hg hd => by
    rcases DL_c.mp hd with x | x
    · rw [x] at hg
      omega
    · exact x
  refine kk _ ⟨h1, fun g hg hd => h2 g hg (nf g hg hd), fun a b ha hb hda hdb => h3 a b ha hb (nf a ha hda) (nf b hb hdb), fun g hg hd => ?_, fun g i hg hd => h5 g i hg (nf g hg hd)⟩
  rw [gI_sI]
  by_cases x : g = f
  · rw [if_pos ⟨by rw [x], rfl⟩, x]
    exact e
  · rw [if_neg (fun y => x (by omega))]
    rcases DL_c.mp hd with y | y
    · exact absurd y x
    · exact h4 g hg y
end RP
theorem rm_init {E : zE} {X : String → zS → Prop} {P : zS → Prop} (m : Nat) (kk : ∀ ma S', RM ma ZI m S' → P S') : p_X11_init E m (nO zS0 m 11) P X := by
  have h0 : RMp [] (fun _ => 0) m (nO zS0 m 11) := by
    have d0 : ∀ f, DL [] f = true → rm_n f = 0 ∧ f ≠ 26 ∧ f ≠ 33 ∧ f ≠ 41 := fun f hd => by
      unfold DL at hd
      simpa [Bool.and_eq_true] using hd
    refine ⟨⟨List.mem_append_right _ (List.mem_singleton.mpr rfl), va_up_self _ _ _⟩, fun f hf hd => ?_, fun f g hf _ hd => ?_, fun f hf hd => ?_, fun f i hf hd => ?_⟩
    · have := (d0 f hd).1
      omega
    · have := (d0 f hd).1
      omega
    · have w := d0 f hd
      have n24 : f ≠ 24 := fun e => by rw [e] at hf; exact absurd hf (by decide)
      rw [gI_nO, if_pos rfl, ZI_0 ⟨n24, w.2.1, w.2.2.2, w.2.2.1⟩]
      rfl
    · have := (d0 f hd).1
      omega
  refine h0.nwA 2 (fun _ _ h => h.nwA 4 (fun _ _ h => h.nwA 5 (fun _ _ h => h.nwA 6 (fun _ _ h => h.nwA 7 (fun _ _ h => h.nwA 9 (fun _ _ h => h.nwA 11 (fun _ _ h => h.nwA 12 (fun _ _ h => h.nwA 14 (fun _ _ h => h.nwA 15 (fun _ _ h => h.nwA 16 (fun _ _ h => h.nwA 17 (fun _ _ h => h.nwA 18 (fun _ _ h => h.nwA 19 (fun _ _ h => h.nwA 21 (fun _ _ h => h.nwA 22 (fun ma1 S1 h => ?_))))))))))))))))
  rintro q hq _ rfl
  have g0 := h.mkA hq 12 4
  have nq := h.q hq
  have oq : q ∈ gL (nA S1 q 12 4) ∧ gK (nA S1 q 12 4) q = 12 := ⟨by rw [gL_nA]; exact List.mem_append_right _ (List.mem_singleton.mpr rfl), by rw [gK_nA, va_up_self]⟩
  have nn : gN (nA S1 q 12 4) q = 4 := by rw [gN_nA, va_up_self]
  have lt : ∀ j, j < 4 → j < gN (nA S1 q 12 4) q ∧ gN (nA S1 q 12 4) q < 2 ^ 31 := fun j hj => by
    rw [nn]
    exact ⟨hj, by decide⟩
  refine ⟨oq, lt 0 (by decide), ?_⟩
  rintro _ rfl
  refine ⟨lt 1 (by decide), ?_⟩
  rintro _ rfl
  refine ⟨lt 2 (by decide), ?_⟩
  rintro _ rfl
  refine ⟨lt 3 (by decide), ?_⟩
  rintro _ rfl
  have g4 := (((g0.dA nq 0 6).dA nq 1 6).dA nq 2 6).dA nq 3 6
  refine ⟨g4.1, ?_⟩
  rintro _ rfl
  have g5 := g4.nm (f := 24) (by decide) (by decide) nq oq nn (fun i => by
    rw [gA_sA, gA_sA, gA_sA, gA_sA, gA_nA, if_pos rfl]
    show _ = nI (if i < 4 then 6 else 0)
    by_cases c3 : i = 3
    · subst c3
      rw [if_pos ⟨rfl, rfl⟩]
      rfl
    · rw [if_neg (fun x => c3 x.2)]
      by_cases c2 : i = 2
      · subst c2
        rw [if_pos ⟨rfl, rfl⟩]
        rfl
      · rw [if_neg (fun x => c2 x.2)]
        by_cases c1 : i = 1
        · subst c1
          rw [if_pos ⟨rfl, rfl⟩]
          rfl
        · rw [if_neg (fun x => c1 x.2)]
          by_cases c0 : i = 0
          · subst c0
            rw [if_pos ⟨rfl, rfl⟩]
            rfl
          · rw [if_neg (fun x => c0 x.2), if_neg (by omega)]
            rfl)
  refine g5.wI 26 cm1 (fun S2 h => h.wI 33 rfl (fun S3 h => h.nwA 34 (fun _ _ h => h.nwA 35 (fun _ _ h => h.nwA 36 (fun _ _ h => h.nwA 37 (fun _ _ h => h.nwA 38 (fun ma9 S9 h => h.wI 41 cm1 (fun S10 h => ?_))))))))
  have all : ∀ f, DL [41, 38, 37, 36, 35, 34, 33, 26, 24, 22, 21, 19, 18, 17, 16, 15, 14, 12, 11, 9, 7, 6, 5, 4, 2] f = true := by
    intro f
    by_cases c : f < 42
    · have : ∀ f, f < 42 → DL [41, 38, 37, 36, 35, 34, 33, 26, 24, 22, 21, 19, 18, 17, 16, 15, 14, 12, 11, 9, 7, 6, 5, 4, 2] f = true := by decide
      exact this f c
    · have e : rm_n f = 0 := by
        unfold rm_n
        rw [List.getD_eq_getElem?_getD, List.getElem?_eq_none (show 42 ≤ f by omega)]
        rfl
      unfold DL
      rw [Bool.or_eq_true]
      refine Or.inr ?_
      rw [e]
      have h26 : f ≠ 26 := by omega
      have h33 : f ≠ 33 := by omega
      have h41 : f ≠ 41 := by omega
      simp [h26, h33, h41]
  exact kk ma9 S10 ⟨h.1, fun f hf => h.2.1 f hf (all f), fun f g hf hg => h.2.2.1 f g hf hg (all f) (all g), fun f hf => h.2.2.2.1 f hf (all f), fun f i hf => h.2.2.2.2 f i hf (all f)⟩
