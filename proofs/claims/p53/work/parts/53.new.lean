/-! new objects, arrays and lists among the named cells -/
def a2 (ad : Nat → Nat → Nat) (s i q : Nat) : Nat → Nat → Nat := fun t j => if t = s ∧ j = i then q else ad t j
theorem a2_s (ad : Nat → Nat → Nat) (s i q : Nat) : a2 ad s i q s i = q := if_pos ⟨rfl, rfl⟩
theorem a2_t {ad : Nat → Nat → Nat} {s i q t : Nat} (h : t ≠ s) : a2 ad s i q t = ad t := funext fun j => if_neg (fun e => h e.1)
theorem a2_i {ad : Nat → Nat → Nat} {s i q t j : Nat} (h : j ≠ i) : a2 ad s i q t j = ad t j := if_neg (fun e => h e.2)
def vz (V : vV) (c i : Nat) : vV := fun f a b => if f / 100 = c ∧ a = i ∧ b = 0 ∧ f ∈ cI then 0 else V f a b
theorem vz_no {V : vV} {c i f : Nat} (h : f ∉ cI) : vz V c i f = V f := funext fun a => funext fun b => if_neg (fun e => h e.2.2.2)
theorem vz_i {V : vV} {c i f a : Nat} (h : a ≠ i) : vz V c i f a = V f a := funext fun b => if_neg (fun e => h e.2.1)
theorem vz_c {V : vV} {c i f : Nat} (h : f / 100 ≠ c) : vz V c i f = V f := funext fun a => funext fun b => if_neg (fun e => h e.1)
def vA (V : vV) (f i : Nat) (W : Nat → Nat) : vV := fun g a b => if g = f ∧ a = i then W b else V g a b
theorem vA_f {V : vV} {f i g : Nat} {W : Nat → Nat} (h : g ≠ f) : vA V f i W g = V g := funext fun a => funext fun b => if_neg (fun e => h e.1)
theorem vA_i {V : vV} {f i g a : Nat} {W : Nat → Nat} (h : a ≠ i) : vA V f i W g a = V g a := funext fun b => if_neg (fun e => h e.2)
theorem vA_s (V : vV) (f i : Nat) (W : Nat → Nat) : vA V f i W f i = W := funext fun b => if_pos ⟨rfl, rfl⟩
theorem sK_cI : ∀ f, f ∈ sK → f ∉ cI ∧ f ∉ cA := by decide +kernel
section NEW
variable {E : zE} {ad la : Nat → Nat → Nat} {n : Nat → Nat} {V : vV} {S : zS}
theorem RC.ne (h : RC E ad la n V S) {q : Nat} (hq : q ∉ gL S) {s i : Nat} (hs : so s = true) (hi : i < n s) : ad s i ≠ q := fun e => hq (e ▸ (h.1.1 s i hs hi).1)
theorem RC.la_in (h : RC E ad la n V S) {f i : Nat} (hf : f ∈ cL) (hi : i < n f) (hc : V (f + 4000) i 0 ≠ 0) : la f i ∈ gL S ∧ gK S (la f i) = 16 := by
  rcases (h.1.2.2.2.2.2.2.2.2.2.1 f i hf hi).2 with a | ⟨p1, p2, p3, p4, p5, p6⟩
  · exact absurd a.1 hc
  · exact p4
/-- what an address is none of -/
def dd (ad la : Nat → Nat → Nat) (n : Nat → Nat) (V : vV) (q : Nat) : Prop := (∀ s i, so s = true → i < n s → ad s i ≠ q) ∧ ∀ f i, f ∈ cL → i < n f → V (f + 4000) i 0 ≠ 0 → la f i ≠ q
theorem RC.dq (h : RC E ad la n V S) {q : Nat} (hq : q ∉ gL S) : dd ad la n V q := ⟨fun _ _ hs hi => h.ne hq hs hi, fun _ _ hf hi hc e => hq (e ▸ (h.la_in hf hi hc).1)⟩
/-- nothing named has changed -/
theorem RC.kept (h : RC E ad la n V S) {S' : zS} (D : Nat → Prop) (hD : ∀ a, dd ad la n V a → D a) (hD2 : ∀ a, D a → dd ad la n V a)
    (f0 : ∀ a, a ∈ gL S → a ∈ gL S' ∧ gK S' a = gK S a) (f1 : ∀ a, a ∈ gL S → ¬ D a → (∀ g, gI S' g a = gI S g a ∧ gR S' g a = gR S g a) ∧ gN S' a = gN S a ∧ gA S' a = gA S a ∧ gQ S' a = gQ S a) : RC E ad la n V S' := by
  have F : ∀ s i, so s = true → i < n s → (∀ g, gI S' g (ad s i) = gI S g (ad s i) ∧ gR S' g (ad s i) = gR S g (ad s i)) ∧ gN S' (ad s i) = gN S (ad s i) ∧ gA S' (ad s i) = gA S (ad s i) ∧ gQ S' (ad s i) = gQ S (ad s i) :=
    fun s i hs hi => f1 _ (h.1.1 s i hs hi).1 (fun x => (hD2 _ x).1 s i hs hi rfl)
  obtain ⟨⟨a1, a2, a3, a4, a5, a6, a7, a8, a9, a10, a11⟩, d1, d2⟩ := id h
  refine ⟨⟨fun s i hs hi => ?_, a2, fun f i hf hi => ?_, fun p hp hp2 => ?_, fun f hf hi => ?_, fun hn => ?_, fun hn => ?_, fun hn => ?_, fun hn => ?_, fun f i hf hi => ?_, a11⟩, fun f i hf hi => ?_, fun f i hf hi => ?_⟩
  · have w := f0 _ (a1 s i hs hi).1
    exact ⟨w.1, w.2.trans (a1 s i hs hi).2⟩
  · have g := a3 f i hf hi
    rw [((F _ i (cR_ok f hf).2.1 g.1).1 f).2]
    exact g
  · have g := a4 p hp hp2
    rw [((F _ 0 (cS_ok p hp).2.1 g.1.2).1 p.1).2]
    exact g
  · have g := a5 f hf hi
    rw [((F _ 0 (cV_ok f hf).1 g.1.2).1 f).2]
    exact g
  · have g := a6 hn
    rw [((F 10 0 rfl g.1).1 1009).2]
    exact g
  · have g := a7 hn
    rw [((F 7 0 rfl g.1.1).1 703).2]
    exact g
  · rw [(F 100 0 rfl hn).2.1, (F 100 0 rfl hn).2.2.2]
    exact a8 hn
  · rw [(F 801 0 rfl hn).2.1, (F 801 0 rfl hn).2.2.2]
    exact a9 hn
  · have g := a10 f i hf hi
    have w := F f i (cL_so f hf) hi
    unfold LI
    rw [(w.1 2).1, (w.1 1).2]
    refine ⟨g.1, ?_⟩
    rcases g.2 with x | ⟨p1, p2, p3, p4, p5, p6⟩
    · exact Or.inl x
    · have y := f1 _ p4.1 (fun x => (hD2 _ x).2 f i hf hi (by omega) rfl)
      have z := f0 _ p4.1
      exact Or.inr ⟨p1, p2, p3, ⟨z.1, z.2.trans p4.2⟩, by rw [y.2.1]; exact p5, by rw [y.2.2.2]; exact p6⟩
  · rw [((F _ i (cI_ok f hf).1 hi).1 f).1]
    exact d1 f i hf hi
  · have w := F f i (cA_ok f hf).1 hi
    rw [w.2.1, w.2.2.1]
    exact d2 f i hf hi
/-- a new array or object that is none of the named ones -/
theorem RC.mkA (h : RC E ad la n V S) {q : Nat} (hq : q ∉ gL S) (k l : Nat) : RC E ad la n V (nA S q k l) := by
  have ne : ∀ a, a ∈ gL S → a ≠ q := fun a ha e => hq (e ▸ ha)
  exact h.kept (dd ad la n V) (fun _ x => x) (fun _ x => x) (fun a ha => ⟨by rw [gL_nA]; exact List.mem_append_left _ ha, by rw [gK_nA, va_up_ne _ _ (ne a ha)]⟩)
    (fun a ha _ => ⟨fun g => ⟨rfl, rfl⟩, by rw [gN_nA, va_up_ne _ _ (ne a ha)], funext fun j => by rw [gA_nA, if_neg (ne a ha)], funext fun j => by rw [gQ_nA, if_neg (ne a ha)]⟩)
theorem RC.mkO (h : RC E ad la n V S) {q : Nat} (hq : q ∉ gL S) (k : Nat) : RC E ad la n V (nO S q k) := by
  have ne : ∀ a, a ∈ gL S → a ≠ q := fun a ha e => hq (e ▸ ha)
  exact h.kept (dd ad la n V) (fun _ x => x) (fun _ x => x) (fun a ha => ⟨by rw [gL_nO]; exact List.mem_append_left _ ha, by rw [gK_nO, va_up_ne _ _ (ne a ha)]⟩)
    (fun a ha _ => ⟨fun g => ⟨by rw [gI_nO, if_neg (ne a ha)], by rw [gR_nO, if_neg (ne a ha)]⟩, rfl, rfl, rfl⟩)
theorem RC.dA (h : RC E ad la n V S) {q : Nat} (hd : dd ad la n V q) (j : Nat) (v : Int32) : RC E ad la n V (sA S q j v) :=
  h.kept (dd ad la n V) (fun _ x => x) (fun _ x => x) (fun a ha => ⟨ha, rfl⟩) (fun a ha hn => ⟨fun g => ⟨rfl, rfl⟩, rfl, funext fun b => by rw [gA_sA, if_neg (show ¬ (a = q ∧ b = j) from fun e => hn (by rw [e.1]; exact hd))], rfl⟩)
theorem RC.dI (h : RC E ad la n V S) {q : Nat} (hd : dd ad la n V q) (f : Nat) (v : Int32) : RC E ad la n V (sI S f q v) :=
  h.kept (dd ad la n V) (fun _ x => x) (fun _ x => x) (fun a ha => ⟨ha, rfl⟩) (fun a ha hn => ⟨fun g => ⟨by rw [gI_sI, if_neg (show ¬ (g = f ∧ a = q) from fun e => hn (by rw [e.2]; exact hd))], rfl⟩, rfl, rfl, rfl⟩)
theorem RC.dR (h : RC E ad la n V S) {q : Nat} (hd : dd ad la n V q) (f : Nat) (v : Option Nat) : RC E ad la n V (sR S f q v) :=
  h.kept (dd ad la n V) (fun _ x => x) (fun _ x => x) (fun a ha => ⟨ha, rfl⟩) (fun a ha hn => ⟨fun g => ⟨rfl, by rw [gR_sR, if_neg (show ¬ (g = f ∧ a = q) from fun e => hn (by rw [e.2]; exact hd))]⟩, rfl, rfl, rfl⟩)
/-- an object gets a name -/
theorem RC.nmO (h : RC E ad la n V S) {c q : Nat} (hc : 1 ≤ c ∧ c ≤ 10) (hd : dd ad la n V q) (hq : q ∈ gL S ∧ gK S q = c) (h0 : ∀ f, f ∈ cI → f / 100 = c → gI S f q = nI 0) (h9 : c = 10 → n 1009 = 0) :
    RC E (a2 ad c (n c) q) la (va_up n c (n c + 1)) (vz V c (n c)) S := by
  obtain ⟨⟨a1, a2', a3, a4, a5, a6, a7, a8, a9, a10, a11⟩, d1, d2⟩ := id h
  have kc : kd c = c := by
    have : ∀ c, c < 11 → kd c = c := by decide +kernel
    exact this c (by omega)
  have big : ∀ s, so s = true → s ≠ c → va_up n c (n c + 1) s = n s ∧ a2 ad c (n c) q s = ad s := fun s _ hne => ⟨va_up_ne _ _ hne, a2_t hne⟩
  have nge : ∀ s, n s ≤ va_up n c (n c + 1) s := by
    intro s
    by_cases e : s = c
    · rw [e, va_up_self]
      omega
    · rw [va_up_ne _ _ e]
      exact Nat.le_refl _
  have nbig : ∀ s, s ≠ c → va_up n c (n c + 1) s = n s := fun s hne => va_up_ne _ _ hne
  have adl : ∀ s i, i < n s → a2 ad c (n c) q s i = ad s i := by
    intro s i hi
    by_cases e : s = c
    · subst e
      exact a2_i (by omega)
    · rw [a2_t e]
  have vs : ∀ f, f ∈ sK → vz V c (n c) f = V f := fun f hf => vz_no (sK_cI f hf).1
  refine ⟨⟨fun s i hs hi => ?_, fun s i t j hs ht hi hj e => ?_, fun f i hf hi => ?_, fun p hp hp2 => ?_, fun f hf hi => ?_, fun hn => ?_, fun hn => ?_, fun hn => ?_, fun hn => ?_, fun f i hf hi => ?_, fun f i g j hf hg hi hj => ?_⟩, fun f i hf hi => ?_, fun f i hf hi => ?_⟩
  · by_cases e : i < n s
    · rw [adl s i e]
      exact a1 s i hs e
    · have es : s = c := by
        by_cases x : s = c
        · exact x
        · rw [nbig s x] at hi
          omega
      subst es
      rw [va_up_self] at hi
      have : i = n s := by omega
      subst this
      rw [a2_s, kc]
      exact hq
  · have K : ∀ s i, so s = true → i < va_up n c (n c + 1) s → (i < n s ∧ a2 ad c (n c) q s i = ad s i) ∨ (s = c ∧ i = n c ∧ a2 ad c (n c) q s i = q) := by
      intro s i hs hi
      by_cases e : i < n s
      · exact Or.inl ⟨e, adl s i e⟩
      · have es : s = c := by
          by_cases x : s = c
          · exact x
          · rw [nbig s x] at hi
            omega
        subst es
        rw [va_up_self] at hi
        have : i = n s := by omega
        subst this
        exact Or.inr ⟨rfl, rfl, a2_s _ _ _ _⟩
    rcases K s i hs hi with ⟨x1, x2⟩ | ⟨x1, x2, x3⟩
    · rcases K t j ht hj with ⟨y1, y2⟩ | ⟨y1, y2, y3⟩
      · rw [x2, y2] at e
        exact a2' s i t j hs ht x1 y1 e
      · rw [x2, y3] at e
        exact absurd e (hd.1 s i hs x1)
    · rcases K t j ht hj with ⟨y1, y2⟩ | ⟨y1, y2, y3⟩
      · rw [x3, y2] at e
        exact absurd e.symm (hd.1 t j ht y1)
      · exact ⟨x1.trans y1.symm, x2.trans y2.symm⟩
  · have hne : f ≠ c := by
      have : ∀ f, f ∈ cR → 100 ≤ f := by decide +kernel
      have := this f hf
      omega
    rw [nbig f hne] at hi
    have g := a3 f i hf hi
    rw [adl _ i g.1, a2_t hne]
    exact ⟨Nat.lt_of_lt_of_le g.1 (nge _), g.2⟩
  · have hne : p.1 ≠ c := by
      have : ∀ p, p ∈ cS → 100 ≤ p.1 := by decide +kernel
      have := this p hp
      omega
    rw [nbig _ hne] at hp2
    have g := a4 p hp hp2
    rw [adl _ 0 g.1.2, adl _ 0 g.1.1]
    exact ⟨⟨Nat.lt_of_lt_of_le g.1.1 (nge _), Nat.lt_of_lt_of_le g.1.2 (nge _)⟩, g.2⟩
  · have hne : f ≠ c := by
      have : ∀ f, f ∈ cV → 100 ≤ f := by decide +kernel
      have := this f hf
      omega
    rw [nbig f hne] at hi
    have g := a5 f hf hi
    rw [vs f (cV_ok f hf).2.2.2.2.1, adl _ 0 g.1.2, adl _ _ g.1.1]
    exact ⟨⟨Nat.lt_of_lt_of_le g.1.1 (nge _), Nat.lt_of_lt_of_le g.1.2 (nge _)⟩, g.2⟩
  · rw [nbig 1009 (by omega)] at hn
    have g := a6 hn
    rw [vs 1009 (by decide), adl 10 0 g.1]
    refine ⟨Nat.lt_of_lt_of_le g.1 (nge _), ?_⟩
    rcases g.2 with x | ⟨x1, x2, x3⟩
    · exact Or.inl x
    · rw [adl 7 0 x2]
      exact Or.inr ⟨x1, Nat.lt_of_lt_of_le x2 (nge _), x3⟩
  · rw [nbig 703 (by omega)] at hn
    have g := a7 hn
    rw [adl 7 0 g.1.1, adl 100 0 g.1.2]
    exact ⟨⟨Nat.lt_of_lt_of_le g.1.1 (nge _), Nat.lt_of_lt_of_le g.1.2 (nge _)⟩, g.2⟩
  · rw [nbig 100 (by omega)] at hn
    have g := a8 hn
    rw [adl 100 0 hn]
    refine ⟨g.1, fun j hj => ?_⟩
    rw [nbig 12002 (by omega)] at hj
    have w := g.2 j hj
    rw [adl 2 j w.1]
    exact ⟨Nat.lt_of_lt_of_le w.1 (nge _), w.2⟩
  · rw [nbig 801 (by omega)] at hn
    have g := a9 hn
    rw [adl 801 0 hn]
    refine ⟨g.1, fun j hj => ?_⟩
    rw [nbig 12004 (by omega)] at hj
    have w := g.2 j hj
    rw [adl 4 j w.1]
    exact ⟨Nat.lt_of_lt_of_le w.1 (nge _), w.2⟩
  · have hne : f ≠ c := by
      have := cL_own f hf
      omega
    rw [nbig f hne] at hi
    have g := a10 f i hf hi
    have k := cL_sK f hf
    unfold LI
    rw [vs f k.1, vs _ k.2.1, vs _ k.2.2, a2_t hne]
    refine ⟨g.1, ?_⟩
    rcases g.2 with x | ⟨p1, p2, p3, p4, p5, p6⟩
    · exact Or.inl x
    · refine Or.inr ⟨p1, p2, p3, p4, p5, fun j hj => ?_⟩
      have w := p6 j hj
      rw [adl _ _ w.1]
      exact ⟨Nat.lt_of_lt_of_le w.1 (nge _), w.2⟩
  · have k1 := cL_own f hf
    have k2 := cL_own g hg
    rw [nbig f (by omega)] at hi
    rw [nbig g (by omega)] at hj
    rw [vs _ (cL_sK f hf).2.2, vs _ (cL_sK g hg).2.2]
    exact a11 f i g j hf hg hi hj
  · by_cases e : i < n (f / 100)
    · rw [adl _ i e]
      by_cases x : f / 100 = c
      · rw [vz_i (by rw [← x]; omega)]
        exact d1 f i hf e
      · rw [vz_c x]
        exact d1 f i hf e
    · have es : f / 100 = c := by
        by_cases x : f / 100 = c
        · exact x
        · rw [nbig _ x] at hi
          omega
      rw [es, va_up_self] at hi
      rw [es] at e
      have : i = n c := by omega
      subst this
      rw [es, a2_s, show vz V c (n c) f (n c) 0 = 0 from if_pos ⟨es, rfl, rfl, hf⟩]
      exact h0 f hf es
  · have hne : f ≠ c := by
      have : ∀ f, f ∈ cA → 100 ≤ f := by decide +kernel
      have := this f hf
      omega
    rw [nbig f hne] at hi
    rw [a2_t hne, vz_no (cA_ok f hf).2.2.1]
    exact d2 f i hf hi
theorem RC.newO (h : RC E ad la n V S) {c q : Nat} (hc : 1 ≤ c ∧ c ≤ 10) (hq : q ∉ gL S) (h9 : c = 10 → n 1009 = 0) : RC E (a2 ad c (n c) q) la (va_up n c (n c + 1)) (vz V c (n c)) (nO S q c) :=
  (h.mkO hq c).nmO hc (h.dq hq) ⟨by rw [gL_nO]; exact List.mem_append_right _ (List.mem_singleton.mpr rfl), by rw [gK_nO, va_up_self]⟩ (fun f _ _ => by rw [gI_nO, if_pos rfl]; rfl) h9
end NEW
