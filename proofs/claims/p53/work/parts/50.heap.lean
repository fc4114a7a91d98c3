/-! the class's heap as named cells: sorts of objects and arrays, how many of each, their contents V -/
abbrev vV : Type := Nat → Nat → Nat → Nat
def u3 (V : vV) (f i j v : Nat) : vV := fun g a b => if g = f ∧ a = i ∧ b = j then v else V g a b
theorem u3_s (V : vV) (f i j v : Nat) : u3 V f i j v f i j = v := if_pos ⟨rfl, rfl, rfl⟩
theorem u3_f {V : vV} {f i j v g : Nat} (h : g ≠ f) : u3 V f i j v g = V g := funext fun a => funext fun b => if_neg (fun e => h e.1)
theorem u3_i {V : vV} {f i j v g a : Nat} (h : a ≠ i) : u3 V f i j v g a = V g a := funext fun b => if_neg (fun e => h e.2.1)
theorem u3_j {V : vV} {f i j v g a b : Nat} (h : b ≠ j) : u3 V f i j v g a b = V g a b := if_neg (fun e => h e.2.2)
def so (s : Nat) : Bool := [1, 2, 3, 4, 5, 6, 7, 8, 9, 10, 1000, 1003, 906, 400, 1001, 504, 505, 506, 600, 907, 908, 205, 206, 207, 800, 100, 801].contains s
def kd (s : Nat) : Nat := if s < 100 then s else if s = 206 then 13 else if s = 100 then 14 else if s = 801 then 15 else if (s == 1000 || (s == 1003 || (s == 906 || s == 400))) = true then 0 else 12
def cI : List Nat := [200, 201, 202, 203, 204, 500, 501, 502, 503, 701, 702, 704, 705, 802, 803, 804, 805, 900, 901, 902, 903, 904, 905, 1002, 1010, 1011, 1012, 1013]
def cA : List Nat := [1001, 504, 505, 506, 600, 907, 908, 205, 206, 207, 800]
def cR : List Nat := [1001, 504, 505, 506, 600, 907, 908, 205, 206, 207, 800, 100, 801, 1000, 1003, 906, 400]
def cS : List (Nat × Nat) := [(1004, 6), (1005, 3), (1007, 1), (1008, 8), (300, 6)]
def cV : List Nat := [1006, 301, 700]
def cL : List Nat := [1000, 1003, 906, 400]
def sK : List Nat := [1006, 301, 700, 1009, 1000, 1003, 906, 400, 3000, 3003, 2906, 2400, 5000, 5003, 4906, 4400]
def ln (f : Nat) : Nat := if f = 1001 then 12 else if f = 504 then 12 else if f = 505 then 3 else if f = 506 then 132 else if f = 600 then 720 else if f = 907 then 20 else if f = 908 then 240 else if f = 205 then 2 else if f = 206 then 2 else if f = 207 then 240 else 4
theorem ln_lt (f : Nat) : ln f < 2 ^ 31 := by
  unfold ln
  repeat' split
  all_goals decide
def el (f : Nat) : Nat := if f = 1000 then 5 else if f = 906 then 5 else 9
def LI (E : zE) (ad la : Nat → Nat → Nat) (n : Nat → Nat) (V : vV) (S : zS) (f i : Nat) : Prop :=
  gI S 2 (ad f i) = nI (V f i 0) ∧ ((V (f + 4000) i 0 = 0 ∧ V f i 0 = 0 ∧ gR S 1 (ad f i) = some E.2.2.2.2.1) ∨
    ((V (f + 4000) i 0 = 10 ∨ V (f + 4000) i 0 = 15 ∨ V (f + 4000) i 0 = 22) ∧ V f i 0 ≤ V (f + 4000) i 0 ∧ gR S 1 (ad f i) = some (la f i) ∧ (la f i ∈ gL S ∧ gK S (la f i) = 16) ∧ gN S (la f i) = V (f + 4000) i 0 ∧
      ∀ j, j < V f i 0 → V (f + 2000) i j < n (el f) ∧ gQ S (la f i) j = some (ad (el f) (V (f + 2000) i j))))
def RS (E : zE) (ad la : Nat → Nat → Nat) (n : Nat → Nat) (V : vV) (S : zS) : Prop :=
  (∀ s i, so s = true → i < n s → ad s i ∈ gL S ∧ gK S (ad s i) = kd s) ∧
  (∀ s i t j, so s = true → so t = true → i < n s → j < n t → ad s i = ad t j → s = t ∧ i = j) ∧
  (∀ f i, f ∈ cR → i < n f → i < n (f / 100) ∧ gR S f (ad (f / 100) i) = some (ad f i)) ∧
  (∀ p, p ∈ cS → 0 < n p.1 → (0 < n p.2 ∧ 0 < n (p.1 / 100)) ∧ gR S p.1 (ad (p.1 / 100) 0) = some (ad p.2 0)) ∧
  (∀ f, f ∈ cV → 0 < n f → (V f 0 0 < n 9 ∧ 0 < n (f / 100)) ∧ gR S f (ad (f / 100) 0) = some (ad 9 (V f 0 0))) ∧
  (0 < n 1009 → 0 < n 10 ∧ ((V 1009 0 0 = 0 ∧ gR S 1009 (ad 10 0) = none) ∨ (V 1009 0 0 = 1 ∧ 0 < n 7 ∧ gR S 1009 (ad 10 0) = some (ad 7 0)))) ∧
  (0 < n 703 → (0 < n 7 ∧ 0 < n 100) ∧ gR S 703 (ad 7 0) = some (ad 100 0)) ∧
  (0 < n 100 → gN S (ad 100 0) = 6 ∧ ∀ j, j < n 12002 → j < n 2 ∧ gQ S (ad 100 0) j = some (ad 2 j)) ∧
  (0 < n 801 → gN S (ad 801 0) = 61 ∧ ∀ j, j < n 12004 → j < n 4 ∧ gQ S (ad 801 0) j = some (ad 4 j)) ∧
  (∀ f i, f ∈ cL → i < n f → LI E ad la n V S f i) ∧
  (∀ f i g j, f ∈ cL → g ∈ cL → i < n f → j < n g → V (f + 4000) i 0 ≠ 0 → V (g + 4000) j 0 ≠ 0 → la f i = la g j → f = g ∧ i = j)
def RD (ad : Nat → Nat → Nat) (n : Nat → Nat) (V : vV) (S : zS) : Prop :=
  (∀ f i, f ∈ cI → i < n (f / 100) → gI S f (ad (f / 100) i) = nI (V f i 0)) ∧
  (∀ f i, f ∈ cA → i < n f → gN S (ad f i) = ln f ∧ ∀ j, gA S (ad f i) j = nI (V f i j))
def RC (E : zE) (ad la : Nat → Nat → Nat) (n : Nat → Nat) (V : vV) (S : zS) : Prop := RS E ad la n V S ∧ RD ad n V S
theorem cI_ok : ∀ f, f ∈ cI → so (f / 100) = true ∧ f ∉ sK ∧ f ∉ cA ∧ f ≠ 2 := by decide +kernel
theorem cA_ok : ∀ f, f ∈ cA → so f = true ∧ f ∉ sK ∧ f ∉ cI ∧ f ∈ cR ∧ (kd f = 12 ∨ kd f = 13) := by decide +kernel
theorem cL_sK : ∀ f, f ∈ cL → f ∈ sK ∧ f + 2000 ∈ sK ∧ f + 4000 ∈ sK := by decide +kernel
theorem cL_so : ∀ f, f ∈ cL → so f = true := by decide +kernel
theorem cL_kd : ∀ f, f ∈ cL → kd f = 0 := by decide +kernel
theorem cL_el : ∀ f, f ∈ cL → so (el f) = true ∧ kd (el f) = el f ∧ (el f = 9 ∨ el f = 5) := by decide +kernel
theorem cL_ne : ∀ f, f ∈ cL → ∀ g, g ∈ cL → g ≠ f + 2000 ∧ g ≠ f + 4000 ∧ g + 2000 ≠ f ∧ g + 2000 ≠ f + 4000 ∧ g + 4000 ≠ f ∧ g + 4000 ≠ f + 2000 := by decide +kernel
theorem cR_ok : ∀ f, f ∈ cR → so f = true ∧ so (f / 100) = true ∧ kd f ≠ 16 ∧ f ≠ 1 ∧ f ∉ cV ∧ f ≠ 1009 ∧ f ≠ 703 := by decide +kernel
theorem cS_ok : ∀ p, p ∈ cS → so p.2 = true ∧ so (p.1 / 100) = true ∧ p.1 ≠ 1 ∧ p.1 ∉ cV ∧ p.1 ≠ 1009 := by decide +kernel
theorem cV_ok : ∀ f, f ∈ cV → so (f / 100) = true ∧ f ≠ 1 ∧ f ∉ cI ∧ f ∉ cA ∧ f ∈ sK ∧ f ∉ cR ∧ f ∉ cS.map Prod.fst ∧ f ≠ 1009 ∧ f ≠ 703 ∧ f ∉ cL ∧ f ∉ cL.map (· + 2000) ∧ f ∉ cL.map (· + 4000) := by decide +kernel
theorem kd_lt (s : Nat) (h : so s = true) : kd s ≠ 16 := by
  have : ∀ s, s ∈ [1, 2, 3, 4, 5, 6, 7, 8, 9, 10, 1000, 1003, 906, 400, 1001, 504, 505, 506, 600, 907, 908, 205, 206, 207, 800, 100, 801] → kd s ≠ 16 := by decide +kernel
  exact this s (by simpa [so] using h)
theorem LI.same {E : zE} {ad la : Nat → Nat → Nat} {n : Nat → Nat} {V V' : vV} {S S' : zS} {f i : Nat} (h : LI E ad la n V S f i) (hL : gL S' = gL S) (hK : gK S' = gK S) (hR : gR S' 1 = gR S 1) (hN : gN S' = gN S) (hQ : gQ S' = gQ S) (h2 : gI S' 2 = gI S 2) (v1 : V' f = V f) (v2 : V' (f + 2000) = V (f + 2000)) (v3 : V' (f + 4000) = V (f + 4000)) : LI E ad la n V' S' f i := by
  unfold LI
  rw [hL, hK, hR, hN, hQ, h2, v1, v2, v3]
  exact h
theorem RS.same {E : zE} {ad la : Nat → Nat → Nat} {n : Nat → Nat} {V V' : vV} {S S' : zS} (h : RS E ad la n V S) (hL : gL S' = gL S) (hK : gK S' = gK S) (hR : gR S' = gR S) (hN : gN S' = gN S) (hQ : gQ S' = gQ S) (h2 : gI S' 2 = gI S 2) (hV : ∀ f, f ∈ sK → V' f = V f) : RS E ad la n V' S' := by
  obtain ⟨a1, a2, a3, a4, a5, a6, a7, a8, a9, a10, a11⟩ := h
  unfold RS
  rw [hL, hK, hR, hN, hQ, hV 1009 (by decide)]
  refine ⟨a1, a2, a3, a4, fun f hf => ?_, a6, a7, a8, a9, fun f i hf hi => ?_, fun f i g j hf hg => ?_⟩
  · rw [hV f ((cV_ok f hf).2.2.2.2.1)]
    exact a5 f hf
  · have c := cL_sK f hf
    exact (a10 f i hf hi).same hL hK (by rw [hR]) hN hQ h2 (hV f c.1) (hV _ c.2.1) (hV _ c.2.2)
  · rw [hV _ (cL_sK f hf).2.2, hV _ (cL_sK g hg).2.2]
    exact a11 f i g j hf hg
section RCs
variable {E : zE} {ad la : Nat → Nat → Nat} {n : Nat → Nat} {V : vV} {S : zS}
theorem RC.o (h : RC E ad la n V S) (s i : Nat) (hi : i < n s) {k : Nat} (hk : kd s = k := by rfl) (hs : so s = true := by rfl) : ad s i ∈ gL S ∧ gK S (ad s i) = k := by
  rw [← hk]
  exact h.1.1 s i hs hi
theorem RC.gi (h : RC E ad la n V S) (f c i : Nat) (hi : i < n c) (hc : f / 100 = c := by rfl) (hf : f ∈ cI := by decide) : gI S f (ad c i) = nI (V f i 0) := by
  subst hc
  exact h.2.1 f i hf hi
theorem RC.ga (h : RC E ad la n V S) (f i j : Nat) (hi : i < n f) (hf : f ∈ cA := by decide) : gA S (ad f i) j = nI (V f i j) := (h.2.2 f i hf hi).2 j
theorem RC.ix (h : RC E ad la n V S) (f i j : Nat) {l : Int32} {P : Nat → Prop} (hi : i < n f) (e : l = nI j) (hj : j < ln f) (k : P j) (hf : f ∈ cA := by decide) : ∃ j, (l = nI j ∧ j < gN S (ad f i) ∧ gN S (ad f i) < 2 ^ 31) ∧ P j := by
  have g := (h.2.2 f i hf hi).1
  exact ⟨j, ⟨e, by rw [g]; exact hj, by rw [g]; exact ln_lt f⟩, k⟩
theorem RC.iz (h : RC E ad la n V S) (f i j : Nat) {P : Prop} (hi : i < n f) (hj : j < ln f) (k : P) (hf : f ∈ cA := by decide) : (j < gN S (ad f i) ∧ gN S (ad f i) < 2 ^ 31) ∧ P := by
  have g := (h.2.2 f i hf hi).1
  exact ⟨⟨by rw [g]; exact hj, by rw [g]; exact ln_lt f⟩, k⟩
theorem RC.ex (h : RC E ad la n V S) (f i : Nat) {c k : Nat} {P : Nat → Prop} (hi : i < n f) (hP : P (ad f i)) (hc : f / 100 = c := by rfl) (hk : kd f = k := by rfl) (hf : f ∈ cR := by decide) : ∃ b, gR S f (ad c i) = some b ∧ (b ∈ gL S ∧ gK S b = k) ∧ P b := by
  subst hc
  subst hk
  exact ⟨ad f i, (h.1.2.2.1 f i hf hi).2, h.1.1 f i (cR_ok f hf).1 hi, hP⟩
theorem RC.ij (h : RC E ad la n V S) (f i j : Nat) {c k : Nat} {l : Int32} {P : Nat → Nat → Prop} (hi : i < n f) (e : l = nI j) (hj : j < ln f) (hP : P (ad f i) j) (hc : f / 100 = c := by rfl) (hk : kd f = k := by rfl) (hf : f ∈ cA := by decide) : ∃ b, gR S f (ad c i) = some b ∧ (b ∈ gL S ∧ gK S b = k) ∧ ∃ j, (l = nI j ∧ j < gN S b ∧ gN S b < 2 ^ 31) ∧ P b j :=
  h.ex f i (P := fun b => ∃ j, (l = nI j ∧ j < gN S b ∧ gN S b < 2 ^ 31) ∧ P b j) hi (h.ix f i j hi e hj hP hf) hc hk (cA_ok f hf).2.2.2.1
theorem RC.sg (h : RC E ad la n V S) (f t : Nat) {c k : Nat} {P : Nat → Prop} (hi : 0 < n f) (hP : P (ad t 0)) (hc : f / 100 = c := by rfl) (hk : kd t = k := by rfl) (hf : (f, t) ∈ cS := by decide) : ∃ b, gR S f (ad c 0) = some b ∧ (b ∈ gL S ∧ gK S b = k) ∧ P b := by
  subst hc
  subst hk
  have g := h.1.2.2.2.1 (f, t) hf hi
  exact ⟨ad t 0, g.2, h.1.1 t 0 (cS_ok _ hf).1 g.1.1, hP⟩
theorem RC.sgR (h : RC E ad la n V S) (f t : Nat) {c : Nat} (hi : 0 < n f) (hc : f / 100 = c := by rfl) (hf : (f, t) ∈ cS := by decide) : gR S f (ad c 0) = some (ad t 0) := by
  subst hc
  exact (h.1.2.2.2.1 (f, t) hf hi).2
theorem RC.vr (h : RC E ad la n V S) (f : Nat) {c : Nat} {P : Nat → Prop} (hi : 0 < n f) (hP : V f 0 0 < n 9 → P (ad 9 (V f 0 0))) (hc : f / 100 = c := by rfl) (hf : f ∈ cV := by decide) : ∃ b, gR S f (ad c 0) = some b ∧ (b ∈ gL S ∧ gK S b = 9) ∧ P b := by
  subst hc
  have g := h.1.2.2.2.2.1 f hf hi
  exact ⟨_, g.2, h.1.1 9 _ rfl g.1.1, hP g.1.1⟩
theorem RC.vrR (h : RC E ad la n V S) (f : Nat) {c : Nat} (hi : 0 < n f) (hc : f / 100 = c := by rfl) (hf : f ∈ cV := by decide) : V f 0 0 < n 9 ∧ gR S f (ad c 0) = some (ad 9 (V f 0 0)) := by
  subst hc
  have g := h.1.2.2.2.2.1 f hf hi
  exact ⟨g.1.1, g.2⟩
theorem RC.r9 (h : RC E ad la n V S) (hi : 0 < n 1009) {A : Prop} {B : Nat → Prop} (k0 : V 1009 0 0 = 0 → A) (k1 : V 1009 0 0 = 1 → 0 < n 7 → B (ad 7 0)) : (gR S 1009 (ad 10 0) = none → A) ∧ (∀ b, gR S 1009 (ad 10 0) = some b → B b) := by
  rcases (h.1.2.2.2.2.2.1 hi).2 with ⟨a, b⟩ | ⟨a, c, b⟩
  · exact ⟨fun _ => k0 a, fun q e => absurd (b.symm.trans e) (by simp)⟩
  · refine ⟨fun e => absurd (b.symm.trans e) (by simp), fun q e => ?_⟩
    rw [b] at e
    cases e
    exact k1 a c
theorem RC.bel (h : RC E ad la n V S) (b : Nat) {l : Int32} {a : Nat} {P : Nat → Prop} (h1 : 0 < n 100) (hb : b < n 12002) (h6 : b < 6) (ea : a = ad 100 0) (e : l = nI b) (hP : P (ad 2 b)) : (a ∈ gL S ∧ 14 ≤ gK S a ∧ gK S a < 17) ∧ ∃ j, (l = nI j ∧ j < gN S a ∧ gN S a < 2 ^ 31) ∧ ∃ q, gQ S a j = some q ∧ (q ∈ gL S ∧ gK S q = 2) ∧ P q := by
  subst ea
  have g := h.1.2.2.2.2.2.2.2.1 h1
  have o := h.1.1 100 0 rfl h1
  have o2 : gK S (ad 100 0) = 14 := o.2
  refine ⟨⟨o.1, by rw [o2]; decide, by rw [o2]; decide⟩, b, ⟨e, by rw [g.1]; exact h6, by rw [g.1]; decide⟩, ad 2 b, (g.2 b hb).2, h.1.1 2 b rfl (g.2 b hb).1, hP⟩
theorem RC.dy (h : RC E ad la n V S) (b : Nat) {l : Int32} {a : Nat} {P : Nat → Prop} (h1 : 0 < n 801) (hb : b < n 12004) (h6 : b < 61) (ea : a = ad 801 0) (e : l = nI b) (hP : P (ad 4 b)) : (a ∈ gL S ∧ 14 ≤ gK S a ∧ gK S a < 17) ∧ ∃ j, (l = nI j ∧ j < gN S a ∧ gN S a < 2 ^ 31) ∧ ∃ q, gQ S a j = some q ∧ (q ∈ gL S ∧ gK S q = 4) ∧ P q := by
  subst ea
  have g := h.1.2.2.2.2.2.2.2.2.1 h1
  have o := h.1.1 801 0 rfl h1
  have o2 : gK S (ad 801 0) = 15 := o.2
  refine ⟨⟨o.1, by rw [o2]; decide, by rw [o2]; decide⟩, b, ⟨e, by rw [g.1]; exact h6, by rw [g.1]; decide⟩, ad 4 b, (g.2 b hb).2, h.1.1 4 b rfl (g.2 b hb).1, hP⟩
theorem RC.wI (h : RC E ad la n V S) (f i v : Nat) (hf : f ∈ cI) (hi : i < n (f / 100)) : RC E ad la n (u3 V f i 0 v) (sI S f (ad (f / 100) i) (nI v)) := by
  have c := cI_ok f hf
  refine ⟨h.1.same rfl rfl rfl rfl rfl (funext fun b => ?_) (fun g hg => u3_f (fun e => c.2.1 (e ▸ hg))), fun g j hg hj => ?_, fun g j hg hj => ?_⟩
  · rw [gI_sI, if_neg (fun e => c.2.2.2 e.1.symm)]
  · rw [gI_sI]
    by_cases e : g = f
    · subst e
      by_cases e2 : j = i
      · subst e2
        rw [if_pos ⟨rfl, rfl⟩, u3_s]
      · rw [if_neg (fun x => e2 (h.1.2.1 _ _ _ _ c.1 c.1 hj hi x.2).2), u3_i e2]
        exact h.2.1 g j hg hj
    · rw [if_neg (fun x => e x.1), u3_f e]
      exact h.2.1 g j hg hj
  · rw [u3_f (show g ≠ f from fun e => c.2.2.1 (e ▸ hg))]
    exact h.2.2 g j hg hj
theorem RC.wA (h : RC E ad la n V S) (f i j v : Nat) (hf : f ∈ cA) (hi : i < n f) : RC E ad la n (u3 V f i j v) (sA S (ad f i) j (nI v)) := by
  have c := cA_ok f hf
  refine ⟨h.1.same rfl rfl rfl rfl rfl rfl (fun g hg => u3_f (fun e => c.2.1 (e ▸ hg))), fun g q hg hq => ?_, fun g q hg hq => ⟨(h.2.2 g q hg hq).1, fun b => ?_⟩⟩
  · rw [u3_f (show g ≠ f from fun e => c.2.2.1 (e ▸ hg))]
    exact h.2.1 g q hg hq
  · rw [gA_sA]
    by_cases e : g = f
    · subst e
      by_cases e2 : q = i
      · subst e2
        by_cases e3 : b = j
        · subst e3
          rw [if_pos ⟨rfl, rfl⟩, u3_s]
        · rw [if_neg (fun x => e3 x.2), u3_j e3]
          exact (h.2.2 g q hg hq).2 b
      · rw [if_neg (fun x => e2 (h.1.2.1 _ _ _ _ c.1 c.1 hq hi x.1).2), u3_i e2]
        exact (h.2.2 g q hg hq).2 b
    · rw [if_neg (fun x => e (h.1.2.1 _ _ _ _ (cA_ok g hg).1 c.1 hq hi x.1).1), u3_f e]
      exact (h.2.2 g q hg hq).2 b
theorem RC.uI (h : RC E ad la n V S) (f c i v : Nat) {l : Int32} {P : zS → Prop} (hi : i < n c) (e : l = nI v) (k : ∀ S', RC E ad la n (u3 V f i 0 v) S' → P S') (hc : f / 100 = c := by rfl) (hf : f ∈ cI := by decide) : ∀ S', S' = sI S f (ad c i) l → P S' := by
  rintro _ rfl
  subst hc
  rw [e]
  exact k _ (h.wI f i v hf hi)
theorem RC.uA (h : RC E ad la n V S) (f i j v : Nat) {l : Int32} {P : zS → Prop} (hi : i < n f) (e : l = nI v) (k : ∀ S', RC E ad la n (u3 V f i j v) S' → P S') (hf : f ∈ cA := by decide) : ∀ S', S' = sA S (ad f i) j l → P S' := by
  rintro _ rfl
  rw [e]
  exact k _ (h.wA f i j v hf hi)
/-- the reference fields that change -/
theorem RC.wV (h : RC E ad la n V S) (f v : Nat) (hf : f ∈ cV) (hi : 0 < n f) (hv : v < n 9) : RC E ad la n (u3 V f 0 0 v) (sR S f (ad (f / 100) 0) (some (ad 9 v))) := by
  have c := cV_ok f hf
  obtain ⟨⟨a1, a2, a3, a4, a5, a6, a7, a8, a9, a10, a11⟩, d1, d2⟩ := h
  have k1 : ∀ g, g ≠ f → gR (sR S f (ad (f / 100) 0) (some (ad 9 v))) g = gR S g := fun g hg => funext fun b => by rw [gR_sR, if_neg (fun e => hg e.1)]
  have k2 : ∀ g, g ≠ f → u3 V f 0 0 v g = V g := fun g hg => u3_f hg
  have cl : ∀ g, g ∈ cL → g ≠ f ∧ g + 2000 ≠ f ∧ g + 4000 ≠ f := fun g hg => ⟨fun e => c.2.2.2.2.2.2.2.2.2.1 (e ▸ hg), fun e => c.2.2.2.2.2.2.2.2.2.2.1 (e ▸ List.mem_map.mpr ⟨g, hg, rfl⟩), fun e => c.2.2.2.2.2.2.2.2.2.2.2 (e ▸ List.mem_map.mpr ⟨g, hg, rfl⟩)⟩
  refine ⟨⟨a1, a2, fun g i hg hi => ?_, fun p hp hi => ?_, fun g hg hi => ?_, fun hi => ?_, fun hi => ?_, a8, a9, fun g i hg hi => ?_, fun g i g' j hg hg' => ?_⟩, fun g i hg hi => ?_, fun g i hg hi => ?_⟩
  · rw [k1 g (fun e => c.2.2.2.2.2.1 (e ▸ hg))]
    exact a3 g i hg hi
  · rw [k1 p.1 (fun e => c.2.2.2.2.2.2.1 (e ▸ List.mem_map.mpr ⟨p, hp, rfl⟩))]
    exact a4 p hp hi
  · by_cases e : g = f
    · subst e
      rw [gR_sR, if_pos ⟨rfl, rfl⟩, u3_s]
      exact ⟨⟨hv, (a5 g hg hi).1.2⟩, rfl⟩
    · rw [k1 g e, k2 g e]
      exact a5 g hg hi
  · rw [k1 1009 (fun e => c.2.2.2.2.2.2.2.1 e.symm), k2 1009 (fun e => c.2.2.2.2.2.2.2.1 e.symm)]
    exact a6 hi
  · rw [k1 703 (fun e => c.2.2.2.2.2.2.2.2.1 e.symm)]
    exact a7 hi
  · exact (a10 g i hg hi).same rfl rfl (k1 1 (fun e => c.2.1 e.symm)) rfl rfl rfl (k2 g (cl g hg).1) (k2 _ (cl g hg).2.1) (k2 _ (cl g hg).2.2)
  · rw [k2 _ (cl g hg).2.2, k2 _ (cl g' hg').2.2]
    exact a11 g i g' j hg hg'
  · rw [k2 g (fun e => c.2.2.1 (e ▸ hg))]
    exact d1 g i hg hi
  · rw [k2 g (fun e => c.2.2.2.1 (e ▸ hg))]
    exact d2 g i hg hi
theorem RC.w9 (h : RC E ad la n V S) (v : Nat) (hi : 0 < n 1009) (hv : v = 0 ∨ (v = 1 ∧ 0 < n 7)) : RC E ad la n (u3 V 1009 0 0 v) (sR S 1009 (ad 10 0) (if v = 0 then none else some (ad 7 0))) := by
  obtain ⟨⟨a1, a2, a3, a4, a5, a6, a7, a8, a9, a10, a11⟩, d1, d2⟩ := h
  have k1 : ∀ g, g ≠ 1009 → gR (sR S 1009 (ad 10 0) (if v = 0 then none else some (ad 7 0))) g = gR S g := fun g hg => funext fun b => by rw [gR_sR, if_neg (fun e => hg e.1)]
  have k2 : ∀ g, g ≠ 1009 → u3 V 1009 0 0 v g = V g := fun g hg => u3_f hg
  have cl : ∀ g, g ∈ cL → g ≠ 1009 ∧ g + 2000 ≠ 1009 ∧ g + 4000 ≠ 1009 := by decide +kernel
  refine ⟨⟨a1, a2, fun g i hg hi => ?_, fun p hp hi => ?_, fun g hg hi => ?_, fun hi => ⟨(a6 hi).1, ?_⟩, fun hi => ?_, a8, a9, fun g i hg hi => ?_, fun g i g' j hg hg' => ?_⟩, fun g i hg hi => ?_, fun g i hg hi => ?_⟩
  · rw [k1 g (cR_ok g hg).2.2.2.2.2.1]
    exact a3 g i hg hi
  · rw [k1 p.1 (cS_ok p hp).2.2.2.2]
    exact a4 p hp hi
  · rw [k1 g (cV_ok g hg).2.2.2.2.2.2.2.1, k2 g (cV_ok g hg).2.2.2.2.2.2.2.1]
    exact a5 g hg hi
  · rw [gR_sR, if_pos ⟨rfl, rfl⟩, u3_s]
    rcases hv with e | ⟨e, e2⟩ <;> subst e
    · exact Or.inl ⟨rfl, if_pos rfl⟩
    · exact Or.inr ⟨rfl, e2, if_neg (by decide)⟩
  · rw [k1 703 (by decide)]
    exact a7 hi
  · exact (a10 g i hg hi).same rfl rfl (k1 1 (by decide)) rfl rfl rfl (k2 g (cl g hg).1) (k2 _ (cl g hg).2.1) (k2 _ (cl g hg).2.2)
  · rw [k2 _ (cl g hg).2.2, k2 _ (cl g' hg').2.2]
    exact a11 g i g' j hg hg'
  · rw [k2 g (fun e => by subst e; exact absurd hg (by decide))]
    exact d1 g i hg hi
  · rw [k2 g (fun e => by subst e; exact absurd hg (by decide))]
    exact d2 g i hg hi
theorem RC.u9 (h : RC E ad la n V S) (v : Nat) {o : Option Nat} {P : zS → Prop} (hi : 0 < n 1009) (hv : v = 0 ∨ (v = 1 ∧ 0 < n 7)) (e : o = if v = 0 then none else some (ad 7 0)) (k : ∀ S', RC E ad la n (u3 V 1009 0 0 v) S' → P S') : ∀ S', S' = sR S 1009 (ad 10 0) o → P S' := by
  rintro _ rfl
  rw [e]
  exact k _ (h.w9 v hi hv)
end RCs
/-- how many there are: methods, touches, ringings -/
def sc (M T R c : Nat) : Nat := if c = 5 then M else if c = 9 then T else if c = 7 then R else if c = 2 then 6 else if c = 4 then 61 else if c = 0 then 0 else if c < 11 then 1 else 0
def sd (M T R s : Nat) : Nat := sc M T R (if s < 100 then s else if s < 2000 then s / 100 else s - 12000)
