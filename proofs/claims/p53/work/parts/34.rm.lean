/-! the reference's state as naturals: the field f at the index i, each int by a natural that stands for it -/
abbrev zZ : Type := Nat → Nat → Nat
def up (Z : zZ) (f i v : Nat) : zZ := fun g j => if g = f ∧ j = i then v else Z g j
theorem up_s (Z : zZ) (f i v : Nat) : up Z f i v f i = v := if_pos ⟨rfl, rfl⟩
theorem up_f {Z : zZ} {f i v g : Nat} (h : g ≠ f) : up Z f i v g = Z g := funext (fun j => if_neg (fun e => h e.1))
theorem up_i {Z : zZ} {f i v g j : Nat} (h : j ≠ i) : up Z f i v g j = Z g j := if_neg (fun e => h e.2)
def rm_n (f : Nat) : Nat := [0, 0, 12, 0, 8, 8, 96, 16, 0, 20, 0, 12, 240, 0, 240, 12, 6, 12, 12, 6, 0, 61, 244, 0, 4, 0, 0, 0, 0, 0, 0, 0, 0, 0, 6, 1440, 6, 6, 6, 0, 0, 0].getD f 0
def rm_k (f : Nat) : Nat := if f = 18 ∨ f = 19 then 13 else 12
theorem rm_n_lt (f : Nat) : rm_n f < 2 ^ 31 := by
  by_cases h : f < 42
  · revert f
    decide +kernel
  · have : rm_n f = 0 := by
      unfold rm_n
      rw [List.getD_eq_getElem?_getD, List.getElem?_eq_none (show 42 ≤ f by omega)]
      rfl
    omega
def RM (ma : Nat → Nat) (Z : zZ) (m : Nat) (S : zS) : Prop :=
  (m ∈ gL S ∧ gK S m = 11) ∧ (∀ f, 0 < rm_n f → gR S (1100 + f) m = some (ma f) ∧ (ma f ∈ gL S ∧ gK S (ma f) = rm_k f) ∧ gN S (ma f) = rm_n f) ∧
  (∀ f g, 0 < rm_n f → 0 < rm_n g → ma f = ma g → f = g) ∧ (∀ f, rm_n f = 0 → gI S (1100 + f) m = nI (Z f 0)) ∧ (∀ f i, 0 < rm_n f → gA S (ma f) i = nI (Z f i))
section RMs
variable {ma : Nat → Nat} {Z : zZ} {m : Nat} {S : zS}
theorem RM.i (h : RM ma Z m S) (f : Nat) (hf : rm_n f = 0 := by rfl) : gI S (1100 + f) m = nI (Z f 0) := h.2.2.2.1 f hf
theorem RM.a (h : RM ma Z m S) (f i : Nat) (hf : 0 < rm_n f := by decide) : gA S (ma f) i = nI (Z f i) := h.2.2.2.2 f i hf
theorem RM.ex (h : RM ma Z m S) (f : Nat) {P : Nat → Prop} (k : P (ma f)) (hf : 0 < rm_n f := by decide) : ∃ b, gR S (1100 + f) m = some b ∧ (b ∈ gL S ∧ gK S b = rm_k f) ∧ P b :=
  ⟨ma f, (h.2.1 f hf).1, (h.2.1 f hf).2.1, k⟩
theorem RM.ix (h : RM ma Z m S) (f i : Nat) {l : Int32} {P : Nat → Prop} (e : l = nI i) (hi : i < rm_n f) (k : P i) : ∃ j, (l = nI j ∧ j < gN S (ma f) ∧ gN S (ma f) < 2 ^ 31) ∧ P j :=
  ⟨i, ⟨e, by rw [(h.2.1 f (by omega)).2.2]; exact hi, by rw [(h.2.1 f (by omega)).2.2]; exact rm_n_lt f⟩, k⟩
theorem RM.ij (h : RM ma Z m S) (f i : Nat) {l : Int32} {P : Nat → Nat → Prop} (e : l = nI i) (hi : i < rm_n f) (k : P (ma f) i) (hf : 0 < rm_n f := by decide) : ∃ b, gR S (1100 + f) m = some b ∧ (b ∈ gL S ∧ gK S b = rm_k f) ∧ ∃ j, (l = nI j ∧ j < gN S b ∧ gN S b < 2 ^ 31) ∧ P b j :=
  h.ex f (P := fun b => ∃ j, (l = nI j ∧ j < gN S b ∧ gN S b < 2 ^ 31) ∧ P b j) (h.ix f i e hi k) hf
theorem RM.uI (h : RM ma Z m S) (f v : Nat) (hf : rm_n f = 0) : RM ma (up Z f 0 v) m (sI S (1100 + f) m (nI v)) := by
  refine ⟨h.1, h.2.1, h.2.2.1, fun g hg => ?_, fun g i hg => ?_⟩
  · rw [gI_sI]
    by_cases e : g = f
    · subst e
      rw [if_pos ⟨rfl, rfl⟩, up_s]
    · rw [if_neg (fun x => e (by have := x.1; omega)), up_f e]
      exact h.2.2.2.1 g hg
  · rw [up_f (fun e => by subst e; omega)]
    exact h.2.2.2.2 g i hg
theorem RM.uA (h : RM ma Z m S) (f i v : Nat) (hf : 0 < rm_n f) : RM ma (up Z f i v) m (sA S (ma f) i (nI v)) := by
  refine ⟨h.1, h.2.1, h.2.2.1, fun g hg => ?_, fun g j hg => ?_⟩
  · rw [up_f (fun e => by subst e; omega)]
    exact h.2.2.2.1 g hg
  · rw [gA_sA]
    by_cases e : g = f
    · subst e
      by_cases e2 : j = i
      · rw [e2, if_pos ⟨rfl, rfl⟩, up_s]
      · rw [if_neg (fun x => e2 x.2), up_i e2]
        exact h.2.2.2.2 g j hg
    · rw [if_neg (fun x => e (h.2.2.1 g f hg hf x.1)), up_f e]
      exact h.2.2.2.2 g j hg
theorem RM.wI (h : RM ma Z m S) (f v : Nat) {l : Int32} {P : zS → Prop} (e : l = nI v) (k : ∀ S', RM ma (up Z f 0 v) m S' → P S') (hf : rm_n f = 0 := by rfl) : ∀ S', S' = sI S (1100 + f) m l → P S' := by
  rintro _ rfl
  rw [e]
  exact k _ (h.uI f v hf)
theorem RM.wA (h : RM ma Z m S) (f i v : Nat) {l : Int32} {P : zS → Prop} (e : l = nI v) (k : ∀ S', RM ma (up Z f i v) m S' → P S') (hf : 0 < rm_n f := by decide) : ∀ S', S' = sA S (ma f) i l → P S' := by
  rintro _ rfl
  rw [e]
  exact k _ (h.uA f i v hf)
end RMs
/-! touches and methods of a state -/
def z_mt (Z : zZ) (t k : Nat) : Nat := Z 12 (20 * t + k) / 3
def z_cl (Z : zZ) (t k : Nat) : Nat := Z 12 (20 * t + k) % 3
def z_st (Z : zZ) (t : Nat) : Nat := Z 4 (Z 12 (20 * t) / 3)
def z_ch (Z : zZ) (m c k : Nat) : Nat := if k = Z 5 m - 1 ∧ 0 < c then Z 7 (2 * m + c - 1) else Z 6 (12 * m + k)
def z_lc (Z : zZ) (m c : Nat) : List Nat := (List.range (Z 5 m)).map (z_ch Z m c)
def z_tc (Z : zZ) (t : Nat) : Nat → List Nat
  | 0 => []
  | k + 1 => z_tc Z t k ++ z_lc Z (z_mt Z t k) (z_cl Z t k)
def z_cs (Z : zZ) (t : Nat) : List Nat := z_tc Z t (Z 11 t)
def ro_ws (n : Nat) : Nat → List Nat → List Nat
  | _, [] => []
  | r, c :: cs => ro_af n c r :: ro_ws n (ro_af n c r) cs
def ro_la (n : Nat) : Nat → List Nat → Nat
  | r, [] => r
  | r, c :: cs => ro_la n (ro_af n c r) cs
theorem ro_la_app (n : Nat) : ∀ (cs : List Nat) (r : Nat) (ds : List Nat), ro_la n r (cs ++ ds) = ro_la n (ro_la n r cs) ds
  | [], r, ds => rfl
  | c :: cs, r, ds => ro_la_app n cs (ro_af n c r) ds
theorem ro_ws_app (n : Nat) : ∀ (cs : List Nat) (r : Nat) (ds : List Nat), ro_ws n r (cs ++ ds) = ro_ws n r cs ++ ro_ws n (ro_la n r cs) ds
  | [], r, ds => rfl
  | c :: cs, r, ds => congrArg (ro_af n c r :: ·) (ro_ws_app n cs (ro_af n c r) ds)
theorem ro_ws_len (n : Nat) : ∀ (cs : List Nat) (r : Nat), (ro_ws n r cs).length = cs.length
  | [], r => rfl
  | c :: cs, r => congrArg (· + 1) (ro_ws_len n cs (ro_af n c r))
theorem ro_la_V {n : Nat} (hN : ro_N n) : ∀ (cs : List Nat) (r : Nat), ro_V n r → (∀ c, c ∈ cs → ro_isC n c = true) → ro_V n (ro_la n r cs)
  | [], r, h, _ => h
  | c :: cs, r, h, hc => ro_la_V hN cs _ (ro_af_V hN h (hc c (List.mem_cons_self))).1 (fun d hd => hc d (List.mem_cons_of_mem _ hd))
theorem ro_ws_V {n : Nat} (hN : ro_N n) : ∀ (cs : List Nat) (r : Nat), ro_V n r → (∀ c, c ∈ cs → ro_isC n c = true) → ∀ x, x ∈ ro_ws n r cs → ro_V n x
  | [], r, h, _, x, hx => absurd hx (List.not_mem_nil)
  | c :: cs, r, h, hc, x, hx => by
    have h1 := (ro_af_V hN h (hc c (List.mem_cons_self))).1
    rcases List.mem_cons.mp hx with e | e
    · rw [e]
      exact h1
    · exact ro_ws_V hN cs _ h1 (fun d hd => hc d (List.mem_cons_of_mem _ hd)) x e
/-- the methods are methods; a touch is one -/
def z_M (Z : zZ) : Prop := Z 3 0 ≤ 8 ∧ ∀ m, m < Z 3 0 → ro_N (Z 4 m) ∧ 1 ≤ Z 5 m ∧ Z 5 m ≤ 12 ∧ (∀ k, k < Z 5 m → ro_isC (Z 4 m) (Z 6 (12 * m + k)) = true) ∧ ∀ c, c < 2 → ro_isC (Z 4 m) (Z 7 (2 * m + c)) = true
def z_T (Z : zZ) (t : Nat) : Prop := t < 12 ∧ 1 ≤ Z 11 t ∧ Z 11 t ≤ 20 ∧ ∀ k, k < Z 11 t → z_mt Z t k < Z 3 0 ∧ Z 4 (z_mt Z t k) = z_st Z t
theorem z_M_ch {Z : zZ} (h : z_M Z) {m c k : Nat} (hm : m < Z 3 0) (hc : c < 3) (hk : k < Z 5 m) : ro_isC (Z 4 m) (z_ch Z m c k) = true := by
  unfold z_ch
  have h1 := (h.2 m hm).2.2.2
  split
  · rename_i h2
    have := h1.2 (c - 1) (by omega)
    rw [show 2 * m + (c - 1) = 2 * m + c - 1 by omega] at this
    exact this
  · exact h1.1 k hk
theorem z_M_lc {Z : zZ} (h : z_M Z) {m c : Nat} (hm : m < Z 3 0) (hc : c < 3) : ∀ x, x ∈ z_lc Z m c → ro_isC (Z 4 m) x = true := by
  intro x hx
  obtain ⟨k, hk, e⟩ := List.mem_map.mp hx
  rw [← e]
  exact z_M_ch h hm hc (List.mem_range.mp hk)
theorem z_lc_len (Z : zZ) (m c : Nat) : (z_lc Z m c).length = Z 5 m := by
  unfold z_lc
  rw [List.length_map, List.length_range]
theorem z_T_tc {Z : zZ} (h : z_M Z) {t : Nat} (ht : z_T Z t) : ∀ k, k ≤ Z 11 t → (∀ x, x ∈ z_tc Z t k → ro_isC (z_st Z t) x = true) ∧ (z_tc Z t k).length ≤ 12 * k ∧ k ≤ (z_tc Z t k).length
  | 0, _ => ⟨fun x hx => absurd hx (List.not_mem_nil), Nat.le_refl _, Nat.le_refl _⟩
  | k + 1, hk => by
    have h1 := z_T_tc h ht k (by omega)
    have h2 := ht.2.2.2 k (by omega)
    have h3 := h.2 _ h2.1
    refine ⟨fun x hx => ?_, ?_, ?_⟩
    · rcases List.mem_append.mp hx with e | e
      · exact h1.1 x e
      · rw [← h2.2]
        exact z_M_lc h h2.1 (Nat.mod_lt _ (by decide)) x e
    · show (z_tc Z t k ++ z_lc Z (z_mt Z t k) (z_cl Z t k)).length ≤ _
      rw [List.length_append, z_lc_len]
      omega
    · show _ ≤ (z_tc Z t k ++ z_lc Z (z_mt Z t k) (z_cl Z t k)).length
      rw [List.length_append, z_lc_len]
      omega
theorem z_T_N {Z : zZ} (h : z_M Z) {t : Nat} (ht : z_T Z t) : ro_N (z_st Z t) := by
  have h1 := ht.2.2.2 0 (by have := ht.2.1; omega)
  rw [← h1.2]
  exact (h.2 _ h1.1).1
