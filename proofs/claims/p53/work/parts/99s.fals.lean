/-! how many rows are false for a method -/
section LFM
variable {E : zE} {aa : Nat → Nat} {L Z : zZ} {S : zS} {X : String → zS → Prop} {Q : Int32 → zS → Prop}
theorem RA.new {q c n : Nat} (h : RA aa L S) (hq : q ∉ gL S) : RA aa L (nA S q c n) := by
  have ne : ∀ k, k < 11 → aa k ≠ q := fun k hk e => hq (e ▸ (h.1 k hk).1.1)
  refine ⟨fun k hk => ⟨⟨?_, ?_⟩, ?_⟩, h.2.1, fun k hk hj i => ?_, fun k hk hj i => ?_⟩
  · rw [gL_nA]
    exact List.mem_append_left _ (h.1 k hk).1.1
  · rw [gK_nA]
    show (if aa k = q then _ else _) = _
    rw [if_neg (ne k hk)]
    exact (h.1 k hk).1.2
  · rw [gN_nA]
    show (if aa k = q then _ else _) = _
    rw [if_neg (ne k hk)]
    exact (h.1 k hk).2
  · rw [gA_nA, if_neg (ne k hk)]
    exact h.2.2.1 k hk hj i
  · rw [gJ_nA, if_neg (ne k hk)]
    exact h.2.2.2 k hk hj i
theorem RA.oth {q i : Nat} {v : Int32} (h : RA aa L S) (ne : ∀ k, k < 11 → aa k ≠ q) : RA aa L (sA S q i v) := by
  refine ⟨h.1, h.2.1, fun k hk hj j => ?_, fun k hk hj j => ?_⟩
  · rw [gA_sA, if_neg (fun e => ne k hk e.1)]
    exact h.2.2.1 k hk hj j
  · rw [gJ_sA (ne k hk)]
    exact h.2.2.2 k hk hj j
def FS (aa : Nat → Nat) (q : Nat) (fs : List Nat) (S : zS) : Prop := (q ∈ gL S ∧ gK S q = 12) ∧ gN S q = 64 ∧ (∀ j x, fs[j]? = some x → gA S q j = nI x) ∧ ∀ k, k < 11 → aa k ≠ q
theorem cb0 : ∀ n, ro_cb (fun _ => false) n = 0
  | 0 => rfl
  | n + 1 => by
    show ro_cb (fun _ => false) n + _ = 0
    rw [cb0 n]
    rfl
theorem cb_l {n : Nat} (hN : ro_N n) : ∀ fs : List Nat, fs.Nodup → (∀ x, x ∈ fs → ro_V n x) → ro_cb (fun k => fs.any (fun x => ro_num n x 7 0 0 == k)) (ro_fac n) = fs.length
  | [], _, _ => cb0 _
  | x :: fs, hn, hV => by
    have hn' := List.nodup_cons.mp hn
    have vx := hV x List.mem_cons_self
    have ih := cb_l hN fs hn'.2 (fun y hy => hV y (List.mem_cons_of_mem _ hy))
    have u := ro_cb_u (P := fun k => fs.any (fun x => ro_num n x 7 0 0 == k)) (P' := fun k => (x :: fs).any (fun x => ro_num n x 7 0 0 == k)) (k0 := ro_num n x 7 0 0) (fun k hk => by
      show ((ro_num n x 7 0 0 == k) || _) = _
      rw [show (ro_num n x 7 0 0 == k) = false by simpa using Ne.symm hk, Bool.false_or]) (by
      show fs.any _ = false
      rw [List.any_eq_false]
      intro y hy
      have : ro_num n y 7 0 0 ≠ ro_num n x 7 0 0 := fun e => hn'.1 (by rw [← ro_num_inj hN (hV y (List.mem_cons_of_mem _ hy)) vx e]; exact hy)
      simpa using this) (by
      show ((ro_num n x 7 0 0 == ro_num n x 7 0 0) || _) = true
      simp) (ro_fac n)
    rw [u, ih, if_pos (ro_f1 hN vx).2.1]
    rfl
/-- the rows of a method's plain lead; the origins of its pairs -/
def fP (Z : zZ) (i a : Nat) : Nat := (z_pr Z i).getD a 0
def fO (Z : zZ) (i a b : Nat) : Nat := ro_org (Z 4 i) (fP Z i a) (fP Z i b) 7 0 0
def fI (Z : zZ) (i a b : Nat) (fs : List Nat) : Prop := (∀ x, x ∈ fs → x ≠ ro_rnd (Z 4 i) ∧ ∃ c d, c < Z 5 i ∧ d < Z 5 i ∧ x = fO Z i c d) ∧ (∀ c d, d < Z 5 i → (c < a ∨ (c = a ∧ d < b)) → fO Z i c d = ro_rnd (Z 4 i) ∨ fO Z i c d ∈ fs) ∧ fs.Nodup ∧ fs.length ≤ a * Z 5 i + b
theorem z_pr_len (Z : zZ) (i : Nat) : (z_pr Z i).length = Z 5 i := by
  unfold z_pr
  rw [ro_ws_len, z_lc_len]
theorem fP_mem {i a : Nat} (ha : a < Z 5 i) : fP Z i a ∈ z_pr Z i := by
  refine List.mem_of_getElem? (i := a) ?_
  unfold fP
  rw [List.getD_eq_getElem?_getD, List.getElem?_eq_getElem (by rw [z_pr_len]; exact ha)]
  rfl
theorem fP_V {i a : Nat} (hM : z_M Z) (hi : i < Z 3 0) (ha : a < Z 5 i) : ro_V (Z 4 i) (fP Z i a) :=
  ro_ws_V (hM.2 i hi).1 _ _ (ro_V_rnd (hM.2 i hi).1).1 (z_M_lc hM hi (by decide)) _ (fP_mem ha)
theorem fP_of {i x : Nat} (h : x ∈ z_pr Z i) : ∃ a, a < Z 5 i ∧ fP Z i a = x := by
  obtain ⟨a, ha⟩ := List.mem_iff_getElem?.mp h
  have := (List.getElem?_eq_some_iff.mp ha).1
  rw [z_pr_len] at this
  refine ⟨a, this, ?_⟩
  unfold fP
  rw [List.getD_eq_getElem?_getD, ha]
  rfl
theorem fO_V {i a b : Nat} (hM : z_M Z) (hi : i < Z 3 0) (ha : a < Z 5 i) (hb : b < Z 5 i) : ro_V (Z 4 i) (fO Z i a b) := (ro_org_V (hM.2 i hi).1 (fP_V hM hi ha) (fP_V hM hi hb)).1
theorem fI_end {i : Nat} {fs : List Nat} (hM : z_M Z) (hi : i < Z 3 0) (h : fI Z i (Z 5 i) 0 fs) : fs.length = ro_cb (z_fl Z i) (ro_fac (Z 4 i)) := by
  have hN := (hM.2 i hi).1
  obtain ⟨h1, h2, h3, h4⟩ := h
  have hV : ∀ x, x ∈ fs → ro_V (Z 4 i) x := fun x hx => by
    obtain ⟨_, c, d, hc, hd, e⟩ := h1 x hx
    rw [e]
    exact fO_V hM hi hc hd
  rw [← cb_l hN fs h3 hV]
  refine ro_cb_c _ (fun k hk => ?_)
  have iff := z_fl_iff hM hi hk
  show fs.any _ = z_fl Z i k
  cases e : z_fl Z i k with
  | true =>
    obtain ⟨k0, x, y, hx, hy, ek⟩ := iff.mp e
    obtain ⟨a, ha, rfl⟩ := fP_of hx
    obtain ⟨b, hb, rfl⟩ := fP_of hy
    rw [List.any_eq_true]
    rcases h2 a b hb (Or.inl ha) with r | r
    · have : ro_org (Z 4 i) (fP Z i a) (fP Z i b) 7 0 0 = ro_rnd (Z 4 i) := r
      rw [this, ro_num0 hN] at ek
      exact absurd ek.symm k0
    · exact ⟨_, r, by simpa [fO] using ek⟩
  | false =>
    rw [List.any_eq_false]
    intro x hx ex
    have ex : ro_num (Z 4 i) x 7 0 0 = k := by simpa using ex
    obtain ⟨n0, c, d, hc, hd, eo⟩ := h1 x hx
    have : z_fl Z i k = true := iff.mpr ⟨fun k0 => n0 (ro_num_inj hN (hV x hx) (ro_V_rnd hN).1 (by rw [ex, k0, ro_num0 hN])), _, _, fP_mem hc, fP_mem hd, by rw [← ex, eo]; rfl⟩
    rw [e] at this
    cases this
theorem lf_L89 {K : Int64 → Nat → Int32 → Nat → Int32 → Int32 → Int32 → Int32 → zS → Prop} {i a b q : Nat} {g0 : Int64} {l5 : Int32} {f : Nat → Nat} (h : RA aa (sr L f) S) (hM : z_M Z) (hi : i < Z 3 0) (h5 : Z 5 i ≤ 4) (ha : a < Z 5 i) (hb : b < Z 5 i) (hf : ∀ c, c < Z 5 i → f c = iv (Z 4 i) (fP Z i c))
    (k : K g0 (aa 9) (nI (Z 4 i)) q l5 (nI a) (nI b) (nI (fO Z i a b)) S) :
    ∀ (w p : Nat), p ≤ Z 4 i → Z 4 i < p + w → p_L_falseMany_L89 E K Q X w g0 (aa 9) (nI (Z 4 i)) q l5 (nI a) (nI b) (nI (ro_pk (fun p => ro_bl (fP Z i a) (ro_bl (iv (Z 4 i) (fP Z i b)) p)) p)) (nI p) S
  | 0, p, h1, h2 => by omega
  | w + 1, p, h1, h2 => by
    have hN := (hM.2 i hi).1
    have hn6 := ro_N6 hN
    have va := fP_V hM hi ha
    have vb := fP_V hM hi hb
    have ib := iv_V hN vb
    have la := iv_lt2 hN va
    have lb := iv_lt2 hN vb
    have F := ro_V_pk (n := Z 4 i) (f := fun p => ro_bl (fP Z i a) (ro_bl (iv (Z 4 i) (fP Z i b)) p)) (by omega) (fun p hp => va.2.1 _ (ib.1.2.1 p hp)) (fun p p' hp hp' e => ib.1.2.2 p p' hp hp' (va.2.2 _ _ (ib.1.2.1 p hp) (ib.1.2.1 p' hp') e))
    refine pk_le (Z 4 i) p (fun h3 => ?_) (fun h3 => ⟨h.o 9, h.ix 9 a rfl (by show _ < 16; omega) (h.ix 9 b rfl (by show _ < 16; omega) ?_)⟩)
    · have : p = Z 4 i := by omega
      subst this
      have e : ro_pk (fun p => ro_bl (fP Z i a) (ro_bl (iv (Z 4 i) (fP Z i b)) p)) (Z 4 i) = fO Z i a b := by
        refine ro_org_u hN va vb F.1 ?_
        have m := ro_V_mul hN F.1 vb
        refine ro_V_ext m.1 va (fun p hp => ?_)
        rw [m.2 p hp, F.2 _ (vb.2.1 p hp), iv_bl hN vb hp]
      rw [e]
      exact k
    · rw [h.a 9 a, h.a 9 b, show sr L f 9 a = f a from rfl, show sr L f 9 b = f b from rfl, hf a ha, hf b hb, ri_bell (by omega) (by omega)]
      refine l_bell hN va (ib.1.2.1 p h3) ?_
      have lt : ro_pk (fun p => ro_bl (fP Z i a) (ro_bl (iv (Z 4 i) (fP Z i b)) p)) p < 8 ^ p := ro_pk_lt (fun q hq => by
        have := va.2.1 _ (ib.1.2.1 q (by omega))
        omega)
      have b8 := ri_b8 (show ro_bl (fP Z i a) (ro_bl (iv (Z 4 i) (fP Z i b)) p) < 8 by have := va.2.1 _ (ib.1.2.1 p h3); omega) (show p ≤ 7 by omega)
      rw [ri_shl (by omega) (by omega), ri_sum _ lt, nI_1]
      exact lf_L89 h hM hi h5 ha hb hf k w (p + 1) (by omega) (by omega)
theorem lf_L150 {K : Int64 → Nat → Int32 → Nat → Int32 → Int32 → Int32 → Int32 → Int32 → zS → Prop} {q th : Nat} {g0 : Int64} {l3 l7 l8 : Int32} {fs : List Nat} {c0 : Bool} (h : FS aa q fs S) (hl : fs.length < 60) (ht : th < 2 ^ 31) (hx : ∀ x, x ∈ fs → x < 2 ^ 31)
    (k : K g0 (aa 9) l3 q (nI fs.length) l7 l8 (nI th) (zb (c0 && !fs.contains th)) S) :
    ∀ (w j : Nat), j ≤ fs.length → fs.length < j + w → p_L_falseMany_L150 E K Q X w g0 (aa 9) l3 q (nI fs.length) l7 l8 (nI th) (zb (c0 && !(fs.take j).contains th)) (nI j) S
  | 0, j, h1, h2 => by omega
  | w + 1, j, h1, h2 => by
    refine pk_le fs.length j (fun h3 => ?_) (fun h3 => ⟨h.1, j, ⟨rfl, by rw [h.2.1]; omega, by rw [h.2.1]; decide⟩, ?_⟩)
    · have : j = fs.length := by omega
      subst this
      rw [List.take_length]
      exact k
    · have hg : fs[j]? = some fs[j] := List.getElem?_eq_getElem h3
      have hb := hx _ (List.mem_of_getElem? hg)
      have ih := lf_L150 (c0 := c0) h hl ht hx k w (j + 1) (by omega) (by omega)
      have et : (fs.take (j + 1)).contains th = ((fs.take j).contains th || (th == fs[j])) := by
        rw [List.take_succ, hg]
        show (fs.take j ++ [fs[j]]).contains th = _
        rw [Bool.eq_iff_iff]
        simp
        rw [List.take_succ, hg, List.mem_append]
        show _ ∨ th ∈ [fs[j]] ↔ _
        rw [List.mem_singleton]
      rw [et] at ih
      rw [h.2.2.1 j _ hg, nI_eq (by omega) ht, nI_1]
      refine ⟨fun e => ?_, fun e => ?_⟩
      · rw [show (th == fs[j]) = true by simpa using e.symm, Bool.or_true, Bool.not_true, Bool.and_false] at ih
        rw [show ∀ z : Int32, z &&& 0 = 0 from fun z => Int32.and_zero]
        exact ih
      · rw [show (th == fs[j]) = false by simpa using Ne.symm e, Bool.or_false] at ih
        have e1 : ∀ c : Bool, zb c &&& 1 = zb c := fun c => by cases c <;> rfl
        rw [e1]
        exact ih
theorem lf_J145 {B : Int64 → Nat → Int32 → Nat → Int32 → Int32 → Int32 → zS → Prop} {i a b q : Nat} {g0 : Int64} {l100 : Int32} {fs : List Nat} {f : Nat → Nat} (h : RA aa (sr L f) S) (hF : FS aa q fs S) (hM : z_M Z) (hi : i < Z 3 0) (h5 : Z 5 i ≤ 4) (ha : a < Z 5 i) (hb : b < Z 5 i) (hI : fI Z i a b fs)
    (e100 : l100 = zb (!(fO Z i a b == ro_rnd (Z 4 i))))
    (k : ∀ fs' S', RA aa (sr L f) S' → FS aa q fs' S' → fI Z i a (b + 1) fs' → B g0 (aa 9) (nI (Z 4 i)) q (nI fs'.length) (nI a) (nI (b + 1)) S') :
    p_L_falseMany_J145 E B Q X g0 (aa 9) (nI (Z 4 i)) q (nI fs.length) (nI a) (nI b) (nI (fO Z i a b)) l100 S := by
  subst e100
  have hN := (hM.2 i hi).1
  obtain ⟨i1, i2, i3, i4⟩ := hI
  have hx : ∀ x, x ∈ fs → x < 2 ^ 31 := fun x hx => by
    obtain ⟨_, c, d, hc, hd, e⟩ := i1 x hx
    have := ro_V_lt hN (fO_V hM hi hc hd)
    omega
  have ht := ro_V_lt hN (fO_V hM hi ha hb)
  have mul : a * Z 5 i ≤ 3 * 4 := Nat.mul_le_mul (by omega) h5
  have hl : fs.length < 60 := by omega
  refine ⟨61, ?_⟩
  have := lf_L150 (E := E) (X := X) (Q := Q) (l3 := nI (Z 4 i)) (l7 := nI a) (l8 := nI b) (g0 := g0) (c0 := !(fO Z i a b == ro_rnd (Z 4 i))) (K := fun (g0 : Int64) (a2 : Nat) (l3 : Int32) (a4 : Nat) (l5 : Int32) (l7 : Int32) (l8 : Int32) (l9 : Int32) (l10 : Int32) (S : zS) => ((¬ l10 = 0) → (a4 ∈ gL S ∧ gK S a4 = 12) ∧ ∃ j44, (l5 = nI j44 ∧ j44 < gN S a4 ∧ gN S a4 < 2 ^ 31) ∧ ∀ S46, S46 = sA S a4 j44 l9 → B g0 a2 l3 a4 (l5 + 1) l7 (l8 + 1) S46) ∧ ((l10 = 0) → B g0 a2 l3 a4 l5 l7 (l8 + 1) S)) hF hl (th := fO Z i a b) (by omega) hx ?_ 61 0 (Nat.zero_le _) (by omega)
  · rw [List.take_zero, show ([] : List Nat).contains (fO Z i a b) = false from rfl, Bool.not_false, Bool.and_true] at this
    exact this
  · refine zb_d (fun e => ⟨hF.1, fs.length, ⟨rfl, by rw [hF.2.1]; omega, by rw [hF.2.1]; decide⟩, ?_⟩) (fun e => ?_)
    · rw [Bool.and_eq_true] at e
      have n0 : fO Z i a b ≠ ro_rnd (Z 4 i) := by simpa using e.1
      have nm : fO Z i a b ∉ fs := by simpa using e.2
      rintro _ rfl
      rw [nI_1, nI_1]
      have ln : (fs ++ [fO Z i a b]).length = fs.length + 1 := by
        rw [List.length_append]
        rfl
      rw [← ln]
      refine k (fs ++ [fO Z i a b]) _ (h.oth hF.2.2.2) ⟨hF.1, hF.2.1, fun j x hj => ?_, hF.2.2.2⟩ ⟨fun x hxm => ?_, fun c d hd hcd => ?_, ?_, ?_⟩
      · rw [gA_sA]
        by_cases ej : j = fs.length
        · subst ej
          rw [if_pos ⟨rfl, rfl⟩]
          rw [List.getElem?_append_right (Nat.le_refl _), Nat.sub_self] at hj
          have : fO Z i a b = x := by simpa using hj
          rw [this]
        · rw [if_neg (fun y => ej y.2)]
          have hj2 := (List.getElem?_eq_some_iff.mp hj).1
          rw [ln] at hj2
          rw [List.getElem?_append_left (by omega)] at hj
          exact hF.2.2.1 j x hj
      · rcases List.mem_append.mp hxm with y | y
        · exact i1 x y
        · rw [List.mem_singleton.mp y]
          exact ⟨n0, a, b, ha, hb, rfl⟩
      · by_cases y : c < a ∨ (c = a ∧ d < b)
        · rcases i2 c d hd y with z | z
          · exact Or.inl z
          · exact Or.inr (List.mem_append_left _ z)
        · have : c = a ∧ d = b := by omega
          rw [this.1, this.2]
          exact Or.inr (List.mem_append_right _ List.mem_cons_self)
      · rw [List.nodup_append]
        refine ⟨i3, List.nodup_cons.mpr ⟨List.not_mem_nil, List.nodup_nil⟩, fun x hx1 y hy1 => ?_⟩
        rw [List.mem_singleton.mp hy1]
        exact fun e => nm (e ▸ hx1)
      · rw [ln]
        omega
    · rw [nI_1]
      refine k fs S h hF ⟨i1, fun c d hd hcd => ?_, i3, by omega⟩
      by_cases y : c < a ∨ (c = a ∧ d < b)
      · exact i2 c d hd y
      · have : c = a ∧ d = b := by omega
        rw [this.1, this.2]
        rw [Bool.and_eq_false_iff] at e
        rcases e with e | e
        · exact Or.inl (by simpa using e)
        · exact Or.inr (by simpa using e)
theorem l_falseMany {i : Nat} {g0 : Int64} (h : RA aa L S) (hz : LZ L Z) (hM : z_M Z) (hi : i < Z 3 0) (e0 : g0 = gJ S (aa 0) i) (k : ∀ f S', RA aa (sr L f) S' → Q (nI (ro_cb (z_fl Z i) (ro_fac (Z 4 i)))) S') : p_L_falseMany E g0 (aa 9) S Q X := by
  have mi := hz.M.2.2 i hi
  have h5 := mi.1
  have hN := (hM.2 i hi).1
  have hn6 := ro_N6 hN
  rw [e0, h.j 0, show L 0 i = lz_m Z i from mi.2]
  refine l_stageOf hM hi h5 (fun q hq S1 hS1 => ?_)
  subst hS1
  have h1 := h.new (c := 12) (n := 64) hq
  have hF : ∀ f, RA aa (sr L f) (nA S q 12 64) → True := fun _ _ => trivial
  have F0 : FS aa q [] (nA S q 12 64) := ⟨⟨by rw [gL_nA]; exact List.mem_append_right _ List.mem_cons_self, by rw [gK_nA]; exact if_pos rfl⟩, by rw [gN_nA]; exact if_pos rfl, fun j x hj => by simp at hj, fun k hk e => hq (e ▸ (h.1 k hk).1.1)⟩
  refine l_rounds hn6.1 ⟨5, ?_⟩
  -- the second loop over pairs
  have pairs : ∀ (f : Nat → Nat), (∀ c, c < Z 5 i → f c = iv (Z 4 i) (fP Z i c)) → ∀ (w a : Nat) (fs : List Nat) (S : zS), RA aa (sr L f) S → FS aa q fs S → a ≤ Z 5 i → Z 5 i < a + w → fI Z i a 0 fs → p_L_falseMany_L62 E (fun (l5 : Int32) (S : zS) => Q l5 S) Q X w (lN (lz_m Z i)) (aa 9) (nI (Z 4 i)) q (nI fs.length) (nI a) S := by
    intro f hf w
    induction w with
    | zero => intro a fs S h hF h1 h2 hI; omega
    | succ w ih =>
      intro a fs S h hF h1 h2 hI
      refine l_size hM hi h5 (pk_le (Z 5 i) a (fun h3 => ?_) (fun h3 => ⟨5, ?_⟩))
      · have : a = Z 5 i := by omega
        subst this
        rw [fI_end hM hi hI]
        exact k f S h
      · have inner : ∀ (v b : Nat) (fs : List Nat) (S : zS), RA aa (sr L f) S → FS aa q fs S → b ≤ Z 5 i → Z 5 i < b + v → fI Z i a b fs → p_L_falseMany_L74 E (fun (g0 : Int64) (a2 : Nat) (l3 : Int32) (a4 : Nat) (l5 : Int32) (l7 : Int32) (S : zS) => p_L_falseMany_L62 E (fun (l5 : Int32) (S : zS) => Q l5 S) Q X w g0 a2 l3 a4 l5 (l7 + 1) S) Q X v (lN (lz_m Z i)) (aa 9) (nI (Z 4 i)) q (nI fs.length) (nI a) (nI b) S := by
          intro v
          induction v with
          | zero => intro b fs S h hF h1 h2 hI; omega
          | succ v iv2 =>
            intro b fs S h hF h4 h5' hI
            refine l_size hM hi h5 (pk_le (Z 5 i) b (fun h6 => ?_) (fun h6 => ⟨7, ?_⟩))
            · have : b = Z 5 i := by omega
              subst this
              show p_L_falseMany_L62 E _ Q X w _ _ _ _ _ (nI a + 1) S
              rw [nI_1]
              refine ih (a + 1) fs S h hF (by omega) (by omega) ⟨hI.1, fun c d hd hcd => hI.2.1 c d hd (by omega), hI.2.2.1, ?_⟩
              have := hI.2.2.2
              rw [Nat.succ_mul]
              omega
            · refine lf_L89 h hM hi h5 h3 h6 hf ?_ 7 0 (Nat.zero_le _) (by omega)
              refine l_rounds hn6.1 ?_
              have b1 := ro_V_lt hN (fO_V hM hi h3 h6)
              have b2 := ro_V_lt hN (ro_V_rnd hN).1
              rw [nI_eq (by omega) (by omega)]
              refine ⟨fun e => ?_, fun e => ?_⟩
              · exact lf_J145 h hF hM hi h5 h3 h6 hI (by rw [show (fO Z i a b == ro_rnd (Z 4 i)) = true by simpa using e]; rfl) (fun fs' S' h' F' I' => iv2 (b + 1) fs' S' h' F' (by omega) (by omega) I')
              · exact lf_J145 h hF hM hi h5 h3 h6 hI (by rw [show (fO Z i a b == ro_rnd (Z 4 i)) = false by simpa using e]; rfl) (fun fs' S' h' F' I' => iv2 (b + 1) fs' S' h' F' (by omega) (by omega) I')
        exact inner 5 0 fs S h hF (Nat.zero_le _) (by omega) hI
  -- the first loop lays the rows
  have lay : ∀ (w j : Nat) (f : Nat → Nat) (S : zS), RA aa (sr L f) S → FS aa q [] S → j ≤ Z 5 i → Z 5 i < j + w → (∀ c, c < j → f c = iv (Z 4 i) (fP Z i c)) → p_L_falseMany_L23 E (fun (g0 : Int64) (a2 : Nat) (l3 : Int32) (a4 : Nat) (l5 : Int32) (S : zS) => ∃ m62, p_L_falseMany_L62 E (fun (l5 : Int32) (S : zS) => Q l5 S) Q X m62 g0 a2 l3 a4 l5 0 S) Q X w (lN (lz_m Z i)) (aa 9) (nI (Z 4 i)) q 0 (nI (iv (Z 4 i) (ro_la (Z 4 i) (ro_rnd (Z 4 i)) ((List.range j).map (z_ch Z i 0))))) (nI j) S := by
    intro w
    induction w with
    | zero => intro j f S h hF h1 h2 hf; omega
    | succ w ih =>
      intro j f S h hF h1 h2 hf
      refine l_size hM hi h5 (pk_le (Z 5 i) j (fun h3 => ⟨5, ?_⟩) (fun h3 => ?_))
      · have : j = Z 5 i := by omega
        subst this
        exact pairs f hf 5 0 [] S h hF (Nat.zero_le _) (by omega) ⟨fun x hx => absurd hx List.not_mem_nil, fun c d _ y => by omega, List.nodup_nil, Nat.zero_le _⟩
      · have hC := z_M_ch hM hi (c := 0) (by decide) h3
        have hV := ro_la_V hN ((List.range j).map (z_ch Z i 0)) _ (ro_V_rnd hN).1 (fun x hx => by
          obtain ⟨k2, hk2, e6⟩ := List.mem_map.mp hx
          rw [← e6]
          exact z_M_ch hM hi (by decide) (by have := List.mem_range.mp hk2; omega))
        refine l_its (c := 0) hM hi h5 (by decide) h3 (l_changed hN hV hC (isC_64 hN hC) ⟨h.o 9, h.ix 9 j rfl (by show _ < 16; omega) ?_⟩)
        have Fk : ∀ v : Int32, FS aa q [] (sA S (aa 9) j v) := fun v => ⟨hF.1, hF.2.1, fun j x hj => by simp at hj, hF.2.2.2⟩
        rintro _ rfl
        have F2' := Fk (nI (iv (Z 4 i) (ro_af (Z 4 i) (z_ch Z i 0 j) (ro_la (Z 4 i) (ro_rnd (Z 4 i)) ((List.range j).map (z_ch Z i 0))))))
        have h2' := h.uA 9 j (iv (Z 4 i) (ro_af (Z 4 i) (z_ch Z i 0 j) (ro_la (Z 4 i) (ro_rnd (Z 4 i)) ((List.range j).map (z_ch Z i 0)))))
        rw [sr_up] at h2'
        have e9 : (List.range (j + 1)).map (z_ch Z i 0) = (List.range j).map (z_ch Z i 0) ++ [z_ch Z i 0 j] := by
          rw [List.range_succ, List.map_append]
          rfl
        have ej : fP Z i j = ro_af (Z 4 i) (z_ch Z i 0 j) (ro_la (Z 4 i) (ro_rnd (Z 4 i)) ((List.range j).map (z_ch Z i 0))) := by
          rw [← ro_la_1, ← e9]
          have es : z_lc Z i 0 = (List.range (j + 1)).map (z_ch Z i 0) ++ (z_lc Z i 0).drop (j + 1) := by
            have et : (z_lc Z i 0).take (j + 1) = (List.range (j + 1)).map (z_ch Z i 0) := by
              unfold z_lc
              rw [← List.map_take, List.take_range, Nat.min_eq_left (by omega)]
            rw [← et, List.take_append_drop]
          have ln : ((List.range (j + 1)).map (z_ch Z i 0)).length = j + 1 := by rw [List.length_map, List.length_range]
          have la := ro_ws_last (Z 4 i) ((List.range (j + 1)).map (z_ch Z i 0)) (ro_rnd (Z 4 i)) (fun y => by rw [y] at ln; cases ln)
          rw [ln, Nat.add_sub_cancel] at la
          unfold fP z_pr
          rw [List.getD_eq_getElem?_getD, es, ro_ws_app, List.getElem?_append_left (by rw [ro_ws_len, ln]; omega), la]
          rfl
        have g := ih (j + 1) _ _ h2' F2' (by omega) (by omega) (fun c hc => by
          by_cases y : c = j
          · rw [y, if_pos rfl, ej]
          · rw [if_neg y]
            exact hf c (by omega))
        rw [e9, ro_la_1] at g
        rw [nI_1]
        exact g
  have l0 := lay 5 0 (L 9) _ (by rw [sr_0]; exact h1) F0 (Nat.zero_le _) (by omega) (fun c hc => by omega)
  rw [show ro_la (Z 4 i) (ro_rnd (Z 4 i)) ((List.range 0).map (z_ch Z i 0)) = ro_rnd (Z 4 i) from rfl, iv_rnd hN] at l0
  exact l0
end LFM
