/-! arrays and lists get their names -/
def vF (V : vV) (f i : Nat) (W : Nat → Nat) : vV := fun g a b => if (g = f ∨ g = f + 4000) ∧ a = i then W b else V g a b
theorem vF_f {V : vV} {f i g : Nat} {W : Nat → Nat} (h : g ≠ f) (h2 : g ≠ f + 4000) : vF V f i W g = V g := funext fun a => funext fun b => if_neg (fun e => by omega)
theorem vF_i {V : vV} {f i g a : Nat} {W : Nat → Nat} (h : a ≠ i) : vF V f i W g a = V g a := funext fun b => if_neg (fun e => h e.2)
theorem vF_s (V : vV) (f i : Nat) (W : Nat → Nat) : vF V f i W f i = W := funext fun b => if_pos ⟨Or.inl rfl, rfl⟩
theorem vF_4 (V : vV) (f i : Nat) (W : Nat → Nat) : vF V f i W (f + 4000) i = W := funext fun b => if_pos ⟨Or.inr rfl, rfl⟩
theorem cRL : ∀ f, f ∈ cR → ∀ g, g ∈ cL → g ≠ f + 4000 ∧ g + 2000 ≠ f ∧ g + 2000 ≠ f + 4000 ∧ g + 4000 ≠ f := by decide +kernel
theorem cRI : ∀ f, f ∈ cR → (∀ g, g ∈ cI → g ≠ f ∧ g ≠ f + 4000) ∧ (∀ g, g ∈ cA → g ≠ f + 4000) ∧ (∀ g, g ∈ cV → g ≠ f ∧ g ≠ f + 4000) ∧ (1009 ≠ f ∧ 1009 ≠ f + 4000) ∧ (∀ p, p ∈ cS → p.1 ≠ f ∧ p.2 ≠ f) ∧ 100 ≤ f ∧ f < 2000 := by decide +kernel
theorem cS_lt : ∀ p, p ∈ cS → p.2 < 100 := by decide +kernel
theorem el_lt (f : Nat) : el f < 100 := by
  unfold el
  split
  · decide
  · split <;> decide
section LNK
variable {E : zE} {ad la : Nat → Nat → Nat} {n : Nat → Nat} {V : vV} {S : zS}
theorem RC.nmF (h : RC E ad la n V S) {f q : Nat} {W : Nat → Nat} (hf : f ∈ cR) (h0 : n f < n (f / 100)) (hd : dd ad la n V q) (hq : q ∈ gL S ∧ gK S q = kd f)
    (tA : f ∈ cA → gN S q = ln f ∧ ∀ j, gA S q j = nI (W j)) (t1 : f = 100 → n 100 = 0 ∧ gN S q = 6 ∧ n 12002 = 0) (t8 : f = 801 → n 801 = 0 ∧ gN S q = 61 ∧ n 12004 = 0)
    (tL : f ∈ cL → gI S 2 q = nI 0 ∧ gR S 1 q = some E.2.2.2.2.1 ∧ W 0 = 0) :
    RC E (a2 ad f (n f) q) la (va_up n f (n f + 1)) (vF V f (n f) W) (sR S f (ad (f / 100) (n f)) (some q)) := by
  obtain ⟨⟨a1, a2', a3, a4, a5, a6, a7, a8, a9, a10, a11⟩, d1, d2⟩ := id h
  have cr := cR_ok f hf
  have ci := cRI f hf
  have own := cR_own f hf
  have nbig : ∀ s, s ≠ f → va_up n f (n f + 1) s = n s := fun s hne => va_up_ne _ _ hne
  have adl : ∀ s i, i < n s → a2 ad f (n f) q s i = ad s i := by
    intro s i hi
    by_cases e : s = f
    · subst e
      exact a2_i (by omega)
    · rw [a2_t e]
  have rR : ∀ g a, g ≠ f → gR (sR S f (ad (f / 100) (n f)) (some q)) g a = gR S g a := fun g a hne => by rw [gR_sR, if_neg (fun e => hne e.1)]
  have K : ∀ s i, i < va_up n f (n f + 1) s → (i < n s ∧ a2 ad f (n f) q s i = ad s i) ∨ (s = f ∧ i = n f ∧ a2 ad f (n f) q s i = q) := by
    intro s i hi
    by_cases e : i < n s
    · exact Or.inl ⟨e, adl s i e⟩
    · have es : s = f := by
        by_cases x : s = f
        · exact x
        · rw [nbig s x] at hi
          omega
      subst es
      rw [va_up_self] at hi
      have : i = n s := by omega
      subst this
      exact Or.inr ⟨rfl, rfl, a2_s _ _ _ _⟩
  refine ⟨⟨fun s i hs hi => ?_, fun s i t j hs ht hi hj e => ?_, fun g i hg hi => ?_, fun p hp hp2 => ?_, fun g hg hi => ?_, fun hn => ?_, fun hn => ?_, fun hn => ?_, fun hn => ?_, fun g i hg hi => ?_, fun g i g' j hg hg' hi hj => ?_⟩, fun g i hg hi => ?_, fun g i hg hi => ?_⟩
  · rcases K s i hi with ⟨x1, x2⟩ | ⟨x1, x2, x3⟩
    · rw [x2]
      exact a1 s i hs x1
    · rw [x3, x1]
      exact hq
  · rcases K s i hi with ⟨x1, x2⟩ | ⟨x1, x2, x3⟩
    · rcases K t j hj with ⟨y1, y2⟩ | ⟨y1, y2, y3⟩
      · rw [x2, y2] at e
        exact a2' s i t j hs ht x1 y1 e
      · rw [x2, y3] at e
        exact absurd e (hd.1 s i hs x1)
    · rcases K t j hj with ⟨y1, y2⟩ | ⟨y1, y2, y3⟩
      · rw [x3, y2] at e
        exact absurd e.symm (hd.1 t j ht y1)
      · exact ⟨x1.trans y1.symm, x2.trans y2.symm⟩
  · have og := cR_own g hg
    rw [a2_t (show g / 100 ≠ f by omega), nbig (g / 100) (by omega)]
    rcases K g i hi with ⟨x1, x2⟩ | ⟨x1, x2, x3⟩
    · have w := a3 g i hg x1
      rw [x2]
      refine ⟨w.1, ?_⟩
      rw [gR_sR, if_neg]
      · exact w.2
      · rintro ⟨e1, e2⟩
        subst e1
        have := (a2' _ _ _ _ cr.2.1 cr.2.1 w.1 h0 e2).2
        omega
    · subst x1
      rw [x3, x2]
      exact ⟨h0, by rw [gR_sR, if_pos ⟨rfl, rfl⟩]⟩
  · have c := ci.2.2.2.2.1 p hp
    have := cS_own p hp
    rw [nbig _ c.1] at hp2
    rw [nbig _ c.2, nbig _ (show p.1 / 100 ≠ f by omega), a2_t c.2, a2_t (show p.1 / 100 ≠ f by omega), rR _ _ c.1]
    exact a4 p hp hp2
  · have c := ci.2.2.1 g hg
    have := cV_own g hg
    rw [nbig _ c.1] at hi
    rw [nbig 9 (by omega), nbig _ (show g / 100 ≠ f by omega), a2_t (show 9 ≠ f by omega), a2_t (show g / 100 ≠ f by omega), rR _ _ c.1, vF_f c.1 c.2]
    exact a5 g hg hi
  · rw [nbig 1009 ci.2.2.2.1.1] at hn
    rw [nbig 10 (by omega), nbig 7 (by omega), a2_t (show 10 ≠ f by omega), a2_t (show 7 ≠ f by omega), rR _ _ ci.2.2.2.1.1, vF_f ci.2.2.2.1.1 ci.2.2.2.1.2]
    exact a6 hn
  · rw [nbig 703 (fun e => cr.2.2.2.2.2.2 e.symm)] at hn
    have g := a7 hn
    rw [nbig 7 (by omega), a2_t (show 7 ≠ f by omega), rR _ _ (fun e => cr.2.2.2.2.2.2 e.symm), adl 100 0 g.1.2]
    refine ⟨⟨g.1.1, ?_⟩, g.2⟩
    by_cases e : (100 : Nat) = f
    · rw [← e, va_up_self]
      omega
    · rw [nbig _ e]
      exact g.1.2
  · rw [nbig 12002 (by omega), nbig 2 (by omega), a2_t (show 2 ≠ f by omega)]
    by_cases e : f = 100
    · have w := t1 e
      subst e
      rw [w.1, a2_s, w.2.2]
      exact ⟨w.2.1, fun j hj => by omega⟩
    · rw [nbig 100 (fun x => e x.symm)] at hn
      rw [a2_t (fun x => e x.symm)]
      exact a8 hn
  · rw [nbig 12004 (by omega), nbig 4 (by omega), a2_t (show 4 ≠ f by omega)]
    by_cases e : f = 801
    · have w := t8 e
      subst e
      rw [w.1, a2_s, w.2.2]
      exact ⟨w.2.1, fun j hj => by omega⟩
    · rw [nbig 801 (fun x => e x.symm)] at hn
      rw [a2_t (fun x => e x.symm)]
      exact a9 hn
  · have k := cRL f hf g hg
    have r1 : ∀ a, gR (sR S f (ad (f / 100) (n f)) (some q)) 1 a = gR S 1 a := fun a => rR 1 a (by omega)
    have le := el_lt g
    rcases K g i hi with ⟨x1, x2⟩ | ⟨x1, x2, x3⟩
    · have w := a10 g i hg x1
      have v1 : vF V f (n f) W g i = V g i ∧ vF V f (n f) W (g + 2000) i = V (g + 2000) i ∧ vF V f (n f) W (g + 4000) i = V (g + 4000) i := by
        by_cases e : g = f
        · subst e
          have : i ≠ n g := by omega
          exact ⟨vF_i this, vF_i this, vF_i this⟩
        · exact ⟨by rw [vF_f e k.1], by rw [vF_f k.2.1 k.2.2.1], by rw [vF_f k.2.2.2 (by omega)]⟩
      unfold LI
      rw [v1.1, v1.2.1, v1.2.2, x2, r1, nbig (el g) (by omega), a2_t (show el g ≠ f by omega)]
      exact w
    · subst x1
      have w := tL hg
      unfold LI
      rw [x3, x2, vF_s, vF_4, r1, w.2.2]
      exact ⟨w.1, Or.inl ⟨rfl, rfl, w.2.1⟩⟩
  · have Z : ∀ g i, g ∈ cL → i < va_up n f (n f + 1) g → vF V f (n f) W (g + 4000) i 0 ≠ 0 → i < n g ∧ V (g + 4000) i 0 ≠ 0 := by
      intro g i hg hi hz
      have k := cRL f hf g hg
      rcases K g i hi with ⟨x1, x2⟩ | ⟨x1, x2, x3⟩
      · refine ⟨x1, ?_⟩
        by_cases e : g = f
        · subst e
          rw [vF_i (by omega)] at hz
          exact hz
        · rw [vF_f k.2.2.2 (by omega)] at hz
          exact hz
      · subst x1
        rw [x2, vF_4, (tL hg).2.2] at hz
        exact absurd rfl hz
    intro hz hz' e
    have w1 := Z g i hg hi hz
    have w2 := Z g' j hg' hj hz'
    exact a11 g i g' j hg hg' w1.1 w2.1 w1.2 w2.2 e
  · have := cI_own g hg
    have c := ci.1 g hg
    rw [nbig _ (show g / 100 ≠ f by omega)] at hi
    rw [a2_t (show g / 100 ≠ f by omega), vF_f c.1 c.2]
    exact d1 g i hg hi
  · rcases K g i hi with ⟨x1, x2⟩ | ⟨x1, x2, x3⟩
    · rw [x2]
      by_cases e : g = f
      · subst e
        rw [vF_i (show i ≠ n g by omega)]
        exact d2 g i hg x1
      · rw [vF_f e (ci.2.1 g hg)]
        exact d2 g i hg x1
    · subst x1
      rw [x3, x2, vF_s]
      exact tA hg
/-- counts that are the same -/
def sN : List Nat := [1, 2, 3, 4, 5, 6, 7, 8, 9, 10, 1000, 1003, 906, 400, 1001, 504, 505, 506, 600, 907, 908, 205, 206, 207, 800, 100, 801, 1004, 1005, 1007, 1008, 300, 1006, 301, 700, 1009, 703, 12002, 12004]
theorem sN_ok : (∀ f, f ∈ cI → f / 100 ∈ sN) ∧ (∀ f, f ∈ cR → f ∈ sN ∧ f / 100 ∈ sN) ∧ (∀ p, p ∈ cS → p.1 ∈ sN ∧ p.2 ∈ sN ∧ p.1 / 100 ∈ sN) ∧ (∀ f, f ∈ cV → f ∈ sN ∧ f / 100 ∈ sN) ∧ (∀ f, f ∈ cL → f ∈ sN ∧ el f ∈ sN) ∧ ∀ f, f ∈ cA → f ∈ sN := by decide +kernel
theorem so_sN (s : Nat) (h : so s = true) : s ∈ sN := by
  have : ∀ s, s ∈ [1, 2, 3, 4, 5, 6, 7, 8, 9, 10, 1000, 1003, 906, 400, 1001, 504, 505, 506, 600, 907, 908, 205, 206, 207, 800, 100, 801] → s ∈ sN := by decide +kernel
  exact this s (by simpa [so] using h)
theorem RC.cn {n' : Nat → Nat} (h : RC E ad la n V S) (e : ∀ s, s ∈ sN → n' s = n s) : RC E ad la n' V S := by
  obtain ⟨⟨a1, a2, a3, a4, a5, a6, a7, a8, a9, a10, a11⟩, d1, d2⟩ := h
  have k := sN_ok
  refine ⟨⟨fun s i hs hi => ?_, fun s i t j hs ht hi hj => ?_, fun f i hf hi => ?_, fun p hp hp2 => ?_, fun f hf hi => ?_, ?_, ?_, ?_, ?_, fun f i hf hi => ?_, fun f i g j hf hg hi hj => ?_⟩, fun f i hf hi => ?_, fun f i hf hi => ?_⟩
  · rw [e s (so_sN s hs)] at hi
    exact a1 s i hs hi
  · rw [e s (so_sN s hs)] at hi
    rw [e t (so_sN t ht)] at hj
    exact a2 s i t j hs ht hi hj
  · rw [e f (k.2.1 f hf).1] at hi
    rw [e _ (k.2.1 f hf).2]
    exact a3 f i hf hi
  · have w := k.2.2.1 p hp
    rw [e _ w.1] at hp2
    rw [e _ w.2.1, e _ w.2.2]
    exact a4 p hp hp2
  · have w := k.2.2.2.1 f hf
    rw [e _ w.1] at hi
    rw [e 9 (by decide), e _ w.2]
    exact a5 f hf hi
  · rw [e 1009 (by decide), e 10 (by decide), e 7 (by decide)]
    exact a6
  · rw [e 703 (by decide), e 7 (by decide), e 100 (by decide)]
    exact a7
  · rw [e 100 (by decide), e 12002 (by decide), e 2 (by decide)]
    exact a8
  · rw [e 801 (by decide), e 12004 (by decide), e 4 (by decide)]
    exact a9
  · have w := k.2.2.2.2.1 f hf
    rw [e f w.1] at hi
    have g := a10 f i hf hi
    unfold LI
    rw [e _ w.2]
    exact g
  · rw [e f (k.2.2.2.2.1 f hf).1] at hi
    rw [e g (k.2.2.2.2.1 g hg).1] at hj
    exact a11 f i g j hf hg hi hj
  · rw [e _ (k.1 f hf)] at hi
    exact d1 f i hf hi
  · rw [e _ (k.2.2.2.2.2 f hf)] at hi
    exact d2 f i hf hi
theorem RC.lk (h : RC E ad la n V S) {ad' : Nat → Nat → Nat} (e : ∀ s, ad' s = ad s) : RC E ad' la n V S := by
  rw [show ad' = ad from funext e]
  exact h
/-- a new array at a field -/
theorem RC.nwA (h : RC E ad la n V S) (f i : Nat) {o c k l : Nat} {P : zS → Prop} (ho : ad c i = o) (ei : n f = i) (hi : n f < n c) (kk : ∀ ad' S', (∀ s i, i < n s → ad' s i = ad s i) → RC E ad' la (va_up n f (i + 1)) (vF V f i (fun _ => 0)) S' → P S') (hc : f / 100 = c := by rfl) (hk : kd f = k := by rfl) (hl : ln f = l := by rfl) (hf : f ∈ cA := by decide) :
    ∀ q1, q1 ∉ gL S → ∀ S3, S3 = nA S q1 k l → (o ∈ gL S3 ∧ gK S3 o = c) ∧ ∀ S8, S8 = sR S3 f o (some q1) → P S8 := by
  rintro q hq _ rfl
  subst hc
  subst ho
  subst hk
  subst hl
  subst ei
  have own := cR_own f (cA_ok f hf).2.2.2.1
  have cr := cR_ok f (cA_ok f hf).2.2.2.1
  have h2 := h.mkA hq (kd f) (ln f)
  have o2 := h2.1.1 (f / 100) (n f) cr.2.1 hi
  refine ⟨⟨o2.1, by rw [o2.2]; unfold kd; rw [if_pos (by omega)]⟩, ?_⟩
  rintro _ rfl
  refine kk _ _ ?_ (h2.nmF (q := q) (W := fun _ => 0) (cA_ok f hf).2.2.2.1 hi (h.dq hq) ⟨by rw [gL_nA]; exact List.mem_append_right _ (List.mem_singleton.mpr rfl), by rw [gK_nA, va_up_self]⟩ (fun _ => ⟨by rw [gN_nA, va_up_self], fun j => by rw [gA_nA, if_pos rfl]; rfl⟩) (fun e => ?_) (fun e => ?_) (fun e => ?_))
  · intro s i hi
    by_cases e : s = f
    · subst e
      exact a2_i (by omega)
    · rw [a2_t e]
  · subst e
    exact absurd hf (by decide)
  · subst e
    exact absurd hf (by decide)
  · have : ∀ f, f ∈ cA → f ∉ cL := by decide +kernel
    exact absurd e (this f hf)
theorem RC.nwL {X : String → zS → Prop} (h : RC E ad la n V S) (f i : Nat) {o c : Nat} {P : zS → Prop} (ho : ad c i = o) (ei : n f = i) (hi : n f < n c) (kk : ∀ ad' S', (∀ s i, i < n s → ad' s i = ad s i) → RC E ad' la (va_up n f (i + 1)) (vF V f i (fun _ => 0)) S' → P S') (hc : f / 100 = c := by rfl) (hf : f ∈ cL := by decide) :
    ∀ q1, q1 ∉ gL S → ∀ S3, S3 = nO S q1 0 → p_Jx4a65c_init_da8c8 E q1 S3 (fun S5 => (o ∈ gL S5 ∧ gK S5 o = c) ∧ ∀ S8, S8 = sR S5 f o (some q1) → P S8) X := by
  rintro q hq _ rfl
  subst hc
  subst ho
  subst ei
  have hr : f ∈ cR := by
    have : ∀ f, f ∈ cL → f ∈ cR := by decide +kernel
    exact this f hf
  have own := cR_own f hr
  have cr := cR_ok f hr
  have hd := h.dq hq
  have h2 := ((h.mkO hq 0).dI hd 0 0).dR hd 1 (some E.2.2.2.2.1)
  have o2 := h2.1.1 (f / 100) (n f) cr.2.1 hi
  have oq : q ∈ gL (nO S q 0) ∧ gK (nO S q 0) q = 0 := ⟨by rw [gL_nO]; exact List.mem_append_right _ (List.mem_singleton.mpr rfl), by rw [gK_nO, va_up_self]⟩
  refine ⟨oq, ?_⟩
  rintro _ rfl
  refine ⟨oq, ?_⟩
  rintro _ rfl
  refine ⟨⟨o2.1, by rw [o2.2]; unfold kd; rw [if_pos (by omega)]⟩, ?_⟩
  rintro _ rfl
  refine kk _ _ ?_ (h2.nmF (q := q) (W := fun _ => 0) hr hi hd ⟨oq.1, by rw [cL_kd f hf]; exact oq.2⟩ (fun e => ?_) (fun e => ?_) (fun e => ?_) (fun _ => ⟨?_, ?_, rfl⟩))
  · intro s i hi
    by_cases e : s = f
    · subst e
      exact a2_i (by omega)
    · rw [a2_t e]
  · have : ∀ f, f ∈ cA → f ∉ cL := by decide +kernel
    exact absurd hf (this f e)
  · subst e
    exact absurd hf (by decide)
  · subst e
    exact absurd hf (by decide)
  · rw [gI_sR, gI_sI, if_neg (fun x => absurd x.1 (by decide)), gI_nO, if_pos rfl]
    rfl
  · rw [gR_sR, if_pos ⟨rfl, rfl⟩]
end LNK
