/-! false rows are gathered -/
def KQ (S S' : zS) (q : Nat) : Prop := gL S' = gL S ∧ gK S' = gK S ∧ gN S' = gN S ∧ gA S' q = gA S q
def TQ (S : zS) (q : Nat) (f : Nat → Nat) (L : Nat) : Prop := (q ∈ gL S ∧ gK S q = 12) ∧ gN S q = 12 ∧ ∀ j, j < L → gA S q j = nI (f j)
theorem TQ.k {S S' : zS} {q L : Nat} {f : Nat → Nat} (h : TQ S q f L) (k : KQ S S' q) : TQ S' q f L := by
  unfold TQ
  rw [k.1, k.2.1, k.2.2.1, k.2.2.2]
  exact h
theorem v_has_add (f g : Nat → Nat) (m k0 k : Nat) (h : ∀ j, j < m → g j = f j) (h0 : g m = k0) : v_has g (m + 1) k = true ↔ v_has f m k = true ∨ k = k0 := by
  rw [v_has_iff, v_has_iff]
  constructor
  · rintro ⟨j, hj, e⟩
    by_cases c : j = m
    · subst c
      exact Or.inr (e.symm.trans h0)
    · exact Or.inl ⟨j, by omega, by rw [← h j (by omega)]; exact e⟩
  · rintro (⟨j, hj, e⟩ | e)
    · exact ⟨j, by omega, by rw [h j hj]; exact e⟩
    · exact ⟨m, by omega, by rw [h0, e]⟩
def FI (n L : Nat) (x : Nat → Nat) (V : vV) (i a b : Nat) : Prop :=
  V 503 i 0 ≤ a * (L - 1) + (if a < b then b - 1 else b) ∧ (∀ j, j < V 503 i 0 → V 506 i j < ro_fac n) ∧
  (∀ k, k < ro_fac n → (v_has (V 506 i) (V 503 i 0) k = true ↔ k ≠ 0 ∧ ∃ j k', (j < a ∨ (j = a ∧ k' < b)) ∧ k' < L ∧ ro_num n (ro_org n (x j) (x k') 7 0 0) 7 0 0 = k)) ∧
  V 503 i 0 = ro_cb (v_has (V 506 i) (V 503 i 0)) (ro_fac n)
theorem FI.le {n L : Nat} {x : Nat → Nat} {V : vV} {i a b : Nat} (h : FI n L x V i a b) (ha : a < L) (hb : b ≤ L) (hL : L ≤ 12) : V 503 i 0 ≤ 132 := by
  have h1 := h.1
  have m : a * (L - 1) ≤ 11 * 11 := Nat.mul_le_mul (by omega) (by omega)
  split at h1 <;> omega
theorem FI.lt {n L : Nat} {x : Nat → Nat} {V : vV} {i a b : Nat} (h : FI n L x V i a b) (ha : a < L) (hb : b < L) (hL : L ≤ 12) (ne : a ≠ b) : V 503 i 0 < 132 := by
  have h1 := h.1
  have m : a * (L - 1) ≤ (L - 1) * (L - 1) := Nat.mul_le_mul_right _ (by omega)
  have m2 : (L - 1) * (L - 1) ≤ 11 * 11 := Nat.mul_le_mul (by omega) (by omega)
  split at h1
  · have : a * (L - 1) + (L - 1) ≤ (L - 1) * (L - 1) := by
      have : (a + 1) * (L - 1) ≤ (L - 1) * (L - 1) := Nat.mul_le_mul_right _ (by omega)
      rw [Nat.add_mul, Nat.one_mul] at this
      exact this
    omega
  · by_cases c : b = L - 1
    · omega
    · omega
section GF
variable {E : zE} {ad la : Nat → Nat → Nat} {M T R : Nat} {V : vV} {S : zS} {X : String → zS → Prop}
theorem c_noteFalse {Q : zS → Prop} {i k mm q : Nat} (h : RC E ad la (sd M T R) V S) (hi : i < M) (em : V 503 i 0 = mm) (hm : mm ≤ 132) (hk : k < 2 ^ 31) (hf : ∀ j, j < mm → V 506 i j < 2 ^ 31) (hq : q ≠ ad 506 i) (cap : k ≠ 0 → v_has (V 506 i) mm k = false → mm < 132)
    (k1 : (k = 0 ∨ v_has (V 506 i) mm k = true) → Q S) (k0 : k ≠ 0 → v_has (V 506 i) mm k = false → ∀ S', RC E ad la (sd M T R) (u3 (u3 V 506 i mm k) 503 i 0 (mm + 1)) S' → KQ S S' q → Q S') : p_X4_noteFalse E (ad 5 i) (nI k) S Q X := by
  refine ⟨fun c => k1 (Or.inl ((nI_eq (b := 0) hk (by decide)).mp c)), fun c => ⟨h.o 5 i hi, c_hasFalse h hi em hm hk hf (zb_d (fun y => k1 (Or.inr y)) (fun y => ⟨h.o 5 i hi, ?_⟩))⟩⟩
  have kn : k ≠ 0 := fun e => c (by rw [e]; rfl)
  have lt := cap kn y
  rw [h.gi 503 5 i hi, em]
  refine pk_le 132 mm (fun l => by omega) (fun l => h.ij 506 i mm hi rfl l ?_)
  rintro _ rfl
  have g1 := h.wA 506 i mm k (by decide) hi
  have e5 : gI (sA S (ad 506 i) mm (nI k)) 503 (ad 5 i) = nI mm := by
    rw [g1.gi 503 5 i hi, u3_f (by decide), em]
  rintro _ rfl
  rw [e5, nI_1]
  have g2 := g1.wI 503 i (mm + 1) (by decide) hi
  refine k0 kn y _ g2 ⟨rfl, rfl, rfl, ?_⟩
  funext j
  show gA (sA S (ad 506 i) mm (nI k)) q j = gA S q j
  rw [gA_sA, if_neg (fun e => hq e.1)]
theorem c_gf_L61 {K : Nat → Nat → Int32 → zS → Prop} {Q : zS → Prop} {n L i q a : Nat} {x : Nat → Nat} (hN : ro_N n) (hi : i < M) (hL : L ≤ 12) (hx : ∀ j, j < L → ro_V n (x j)) (ha : a < L) (hq : q ≠ ad 506 i)
    (k : ∀ V' S', RC E ad la (sd M T R) V' S' → (∀ f, f ≠ 503 → f ≠ 506 → V' f = V f) → (∀ f a, a ≠ i → V' f a = V f a) → TQ S' q x L → FI n L x V' i a L → K (ad 5 i) q (nI a) S')
    (e1 : V 501 i 0 = n) (e2 : V 502 i 0 = L) :
    ∀ (w b : Nat) (V' : vV) (S : zS), RC E ad la (sd M T R) V' S → (∀ f, f ≠ 503 → f ≠ 506 → V' f = V f) → (∀ f a, a ≠ i → V' f a = V f a) → TQ S q x L → FI n L x V' i a b → b ≤ L → L < b + w → p_X4_gatherFalseRows_L61 E K Q X w (ad 5 i) q (nI a) (nI b) S
  | 0, b, V', S, h, v1, v2, t, f, h1, h2 => by omega
  | w + 1, b, V', S, h, v1, v2, t, f, h1, h2 => by
    have fac := ro_fac_lt (n := n)
    refine ⟨h.o 5 i hi, ?_⟩
    rw [h.gi 502 5 i hi, v1 502 (by decide) (by decide), e2]
    refine pk_le L b (fun h3 => ?_) (fun h3 => ⟨t.1, a, ⟨rfl, by rw [t.2.1]; omega, by rw [t.2.1]; decide⟩, b, ⟨rfl, by rw [t.2.1]; omega, by rw [t.2.1]; decide⟩, ?_⟩)
    · have : b = L := by omega
      subst this
      exact k V' S h v1 v2 t f
    · have va := hx a ha
      have vb := hx b h3
      have la := ro_V_lt hN va
      have lb := ro_V_lt hN vb
      have o := ro_org_V hN va vb
      have fo := ro_f1 hN o.1
      rw [t.2.2 a ha, t.2.2 b h3, h.gi 501 5 i hi, v1 501 (by decide) (by decide), e1]
      refine w8_originOf (ro_N6 hN).1 (by omega) (by omega) ⟨h.o 5 i hi, ?_⟩
      rw [h.gi 501 5 i hi, v1 501 (by decide) (by decide), e1]
      refine c_num hN o.1 ⟨h.o 5 i hi, ?_⟩
      have kl : ro_num n (ro_org n (x a) (x b) 7 0 0) 7 0 0 < ro_fac n := fo.2.1
      have dg : a = b → ro_num n (ro_org n (x a) (x b) 7 0 0) 7 0 0 = 0 := by
        intro e
        subst e
        rw [← ro_org_u hN va va (ro_V_rnd hN).1 (ro_1_mul hN va)]
        exact ro_num0 hN
      generalize ek : ro_num n (ro_org n (x a) (x b) 7 0 0) 7 0 0 = k0 at kl dg ⊢
      have more : ∀ kk, (∃ j k', (j < a ∨ (j = a ∧ k' < b + 1)) ∧ k' < L ∧ ro_num n (ro_org n (x j) (x k') 7 0 0) 7 0 0 = kk) ↔ ((∃ j k', (j < a ∨ (j = a ∧ k' < b)) ∧ k' < L ∧ ro_num n (ro_org n (x j) (x k') 7 0 0) 7 0 0 = kk) ∨ kk = k0) := by
        intro kk
        constructor
        · rintro ⟨j, k', c1, c2, c3⟩
          by_cases c : j = a ∧ k' = b
          · obtain ⟨rfl, rfl⟩ := c
            exact Or.inr (c3.symm.trans ek)
          · exact Or.inl ⟨j, k', by omega, c2, c3⟩
        · rintro (⟨j, k', c1, c2, c3⟩ | c)
          · exact ⟨j, k', by omega, c2, c3⟩
          · exact ⟨a, b, Or.inr ⟨rfl, by omega⟩, h3, by rw [ek, c]⟩
      refine c_noteFalse (q := q) h hi rfl (f.le ha h1 hL) (by omega) (fun j hj => by have := f.2.1 j hj; omega) hq (fun kn _ => f.lt ha h3 hL (fun e => kn (dg e))) (fun c => ?_) (fun kn nh S1 g1 kq => ?_)
      · rw [nI_1]
        refine c_gf_L61 hN hi hL hx ha hq k e1 e2 w (b + 1) V' S h v1 v2 t ⟨?_, f.2.1, fun kk hkk => ?_, f.2.2.2⟩ (by omega) (by omega)
        · have := f.1
          split at this <;> split <;> omega
        · rw [f.2.2.1 kk hkk, more]
          constructor
          · rintro ⟨c1, c2⟩
            exact ⟨c1, Or.inl c2⟩
          · rintro ⟨c1, c2 | c2⟩
            · exact ⟨c1, c2⟩
            · subst c2
              rcases c with c | c
              · exact absurd c c1
              · exact (f.2.2.1 kk kl).mp c
      · rw [nI_1]
        have ne : a ≠ b := fun e => kn (dg e)
        have n3 : u3 (u3 V' 506 i (V' 503 i 0) k0) 503 i 0 (V' 503 i 0 + 1) 503 i 0 = V' 503 i 0 + 1 := u3_s _ _ _ _ _
        have n6 : ∀ j, j < V' 503 i 0 → u3 (u3 V' 506 i (V' 503 i 0) k0) 503 i 0 (V' 503 i 0 + 1) 506 i j = V' 506 i j := fun j hj => by
          rw [u3_f (by decide), u3_j (by omega)]
        have n6' : u3 (u3 V' 506 i (V' 503 i 0) k0) 503 i 0 (V' 503 i 0 + 1) 506 i (V' 503 i 0) = k0 := by
          rw [u3_f (by decide), u3_s]
        have ha' := v_has_add (V' 506 i) (u3 (u3 V' 506 i (V' 503 i 0) k0) 503 i 0 (V' 503 i 0 + 1) 506 i) (V' 503 i 0) k0
        refine c_gf_L61 hN hi hL hx ha hq k e1 e2 w (b + 1) _ S1 g1 (fun g g3 g6 => by rw [u3_f g3, u3_f g6]; exact v1 g g3 g6) (fun g c hc => by rw [u3_i hc, u3_i hc]; exact v2 g c hc) (t.k kq) ⟨?_, fun j hj => ?_, fun kk hkk => ?_, ?_⟩ (by omega) (by omega)
        · rw [n3]
          have := f.1
          split at this <;> split <;> omega
        · rw [n3] at hj
          by_cases c : j = V' 503 i 0
          · rw [c, n6']
            exact kl
          · rw [n6 j (by omega)]
            exact f.2.1 j (by omega)
        · rw [n3, ha' kk n6 n6', f.2.2.1 kk hkk, more]
          constructor
          · rintro (⟨c1, c2⟩ | c)
            · exact ⟨c1, Or.inl c2⟩
            · exact ⟨by rw [c]; exact kn, Or.inr c⟩
          · rintro ⟨c1, c2 | c2⟩
            · exact Or.inl ⟨c1, c2⟩
            · exact Or.inr c2
        · rw [n3]
          have cu := ro_cb_u (P := v_has (V' 506 i) (V' 503 i 0)) (P' := v_has (u3 (u3 V' 506 i (V' 503 i 0) k0) 503 i 0 (V' 503 i 0 + 1) 506 i) (V' 503 i 0 + 1)) (k0 := k0) (fun kk hkk => by
            rw [Bool.eq_iff_iff, ha' kk n6 n6']
            exact ⟨fun y => y.resolve_right hkk, Or.inl⟩) nh ((ha' k0 n6 n6').mpr (Or.inr rfl)) (ro_fac n)
          rw [cu, if_pos kl, ← f.2.2.2]
theorem c_gf_L50 {K Q : zS → Prop} {n L i q : Nat} {x : Nat → Nat} (hN : ro_N n) (hi : i < M) (hL : L ≤ 12) (hx : ∀ j, j < L → ro_V n (x j)) (hq : q ≠ ad 506 i)
    (k : ∀ V' S', RC E ad la (sd M T R) V' S' → (∀ f, f ≠ 503 → f ≠ 506 → V' f = V f) → (∀ f a, a ≠ i → V' f a = V f a) → FI n L x V' i L 0 → K S')
    (e1 : V 501 i 0 = n) (e2 : V 502 i 0 = L) :
    ∀ (w a : Nat) (V' : vV) (S : zS), RC E ad la (sd M T R) V' S → (∀ f, f ≠ 503 → f ≠ 506 → V' f = V f) → (∀ f a, a ≠ i → V' f a = V f a) → TQ S q x L → FI n L x V' i a 0 → a ≤ L → L < a + w → p_X4_gatherFalseRows_L50 E K Q X w (ad 5 i) q (nI a) S
  | 0, a, V', S, h, v1, v2, t, f, h1, h2 => by omega
  | w + 1, a, V', S, h, v1, v2, t, f, h1, h2 => by
    refine ⟨h.o 5 i hi, ?_⟩
    rw [h.gi 502 5 i hi, v1 502 (by decide) (by decide), e2]
    refine pk_le L a (fun h3 => ?_) (fun h3 => ⟨13, ?_⟩)
    · have : a = L := by omega
      subst this
      exact k V' S h v1 v2 f
    · refine c_gf_L61 (V := V) hN hi hL hx h3 hq (fun V2 S2 g2 w1 w2 t2 f2 => ?_) e1 e2 13 0 V' S h v1 v2 t f (by omega) (by omega)
      rw [nI_1]
      refine c_gf_L50 hN hi hL hx hq k e1 e2 w (a + 1) V2 S2 g2 w1 w2 t2 ⟨?_, f2.2.1, fun kk hkk => ?_, f2.2.2.2⟩ (by omega) (by omega)
      · have := f2.1
        rw [if_pos h3] at this
        rw [if_neg (by omega), Nat.add_mul, Nat.one_mul]
        omega
      · rw [f2.2.2.1 kk hkk]
        have : (∃ j k', (j < a ∨ (j = a ∧ k' < L)) ∧ k' < L ∧ ro_num n (ro_org n (x j) (x k') 7 0 0) 7 0 0 = kk) ↔ ∃ j k', (j < a + 1 ∨ (j = a + 1 ∧ k' < 0)) ∧ k' < L ∧ ro_num n (ro_org n (x j) (x k') 7 0 0) 7 0 0 = kk := by
          constructor
          · rintro ⟨j, k', c1, c2, c3⟩
            exact ⟨j, k', by omega, c2, c3⟩
          · rintro ⟨j, k', c1, c2, c3⟩
            exact ⟨j, k', by omega, c2, c3⟩
        rw [this]
theorem c_gf_L15 {K : Nat → Nat → zS → Prop} {Q : zS → Prop} {n L i q : Nat} {cs : List Nat} (hN : ro_N n) (hi : i < M) (hL : L ≤ 12) (hcl : cs.length = L) (hcs : ∀ j, j < L → cs[j]? = some (V 504 i j)) (hc : ∀ c, c ∈ cs → ro_isC n c = true) (hd : dd ad la (sd M T R) V q)
    (k : ∀ S', RC E ad la (sd M T R) V S' → TQ S' q (fun j => ro_la n (ro_rnd n) (cs.take (j + 1))) L → K (ad 5 i) q S')
    (e1 : V 501 i 0 = n) (e2 : V 502 i 0 = L) :
    ∀ (w j : Nat) (S : zS), RC E ad la (sd M T R) V S → TQ S q (fun j => ro_la n (ro_rnd n) (cs.take (j + 1))) j → j ≤ L → L < j + w → p_X4_gatherFalseRows_L15 E K Q X w (ad 5 i) q (nI (ro_la n (ro_rnd n) (cs.take j))) (nI j) S
  | 0, j, S, h, t, h1, h2 => by omega
  | w + 1, j, S, h, t, h1, h2 => by
    refine ⟨h.o 5 i hi, ?_⟩
    rw [h.gi 502 5 i hi, e2]
    refine pk_le L j (fun h3 => ?_) (fun h3 => h.ij 504 i j hi rfl (by show j < 12; omega) ?_)
    · have : j = L := by omega
      subst this
      exact k S h t
    · have cj := hcs j h3
      have cV := hc _ (List.mem_of_getElem? cj)
      have rV := ro_la_V hN (cs.take j) _ (ro_V_rnd hN).1 (fun c hcc => hc c (List.mem_of_mem_take hcc))
      rw [h.ga 504 i j hi, h.gi 501 5 i hi, e1]
      refine c_af hN rV cV ⟨t.1, j, ⟨rfl, by rw [t.2.1]; omega, by rw [t.2.1]; decide⟩, ?_⟩
      rintro _ rfl
      rw [nI_1, ← ro_la_take1 cj]
      refine c_gf_L15 hN hi hL hcl hcs hc hd k e1 e2 w (j + 1) _ (h.dA hd j _) ⟨t.1, t.2.1, fun p hp => ?_⟩ (by omega) (by omega)
      rw [gA_sA]
      by_cases c : p = j
      · rw [if_pos ⟨rfl, c⟩, c]
      · rw [if_neg (fun y => c y.2)]
        exact t.2.2 p (by omega)
theorem c_gather {Q : zS → Prop} {n L i : Nat} {cs : List Nat} (h : RC E ad la (sd M T R) V S) (hN : ro_N n) (hi : i < M) (hL : L ≤ 12) (hcl : cs.length = L) (hcs : ∀ j, j < L → cs[j]? = some (V 504 i j)) (hc : ∀ c, c ∈ cs → ro_isC n c = true)
    (e1 : V 501 i 0 = n) (e2 : V 502 i 0 = L) (e3 : V 503 i 0 = 0)
    (k : ∀ V' S', RC E ad la (sd M T R) V' S' → (∀ f, f ≠ 503 → f ≠ 506 → V' f = V f) → (∀ f a, a ≠ i → V' f a = V f a) → FI n L (fun j => ro_la n (ro_rnd n) (cs.take (j + 1))) V' i L 0 → Q S') : p_X4_gatherFalseRows E (ad 5 i) S Q X := by
  rintro q hq _ rfl
  have hA := h.mkA hq 12 12
  have hd := h.dq hq
  refine ⟨hA.o 5 i hi, ?_⟩
  rw [hA.gi 501 5 i hi, e1]
  have t0 : TQ (nA S q 12 12) q (fun j => ro_la n (ro_rnd n) (cs.take (j + 1))) 0 := ⟨⟨by rw [gL_nA]; exact List.mem_append_right _ (List.mem_singleton.mpr rfl), by rw [gK_nA, va_up_self]⟩, by rw [gN_nA, va_up_self], fun j hj => absurd hj (Nat.not_lt_zero j)⟩
  refine w8_rounds (ro_N6 hN).1 ⟨13, c_gf_L15 hN hi hL hcl hcs hc hd (fun S1 g1 t1 => ⟨13, ?_⟩) e1 e2 13 0 _ hA t0 (Nat.zero_le _) (by omega)⟩
  refine c_gf_L50 (V := V) hN hi hL (fun j hj => ro_la_V hN _ _ (ro_V_rnd hN).1 (fun c hcc => hc c (List.mem_of_mem_take hcc))) (fun e => hd.1 506 i rfl hi e.symm) k e1 e2 13 0 V S1 g1 (fun _ _ _ => rfl) (fun _ _ _ => rfl) t1 ⟨?_, fun j hj => ?_, fun kk hkk => ?_, ?_⟩ (Nat.zero_le _) (by omega)
  · rw [e3]
    exact Nat.zero_le _
  · rw [e3] at hj
    exact absurd hj (Nat.not_lt_zero j)
  · rw [e3, v_has_iff]
    constructor
    · rintro ⟨j, hj, _⟩
      exact absurd hj (Nat.not_lt_zero j)
    · rintro ⟨_, j, k', c1, _⟩
      omega
  · rw [e3]
    have : ∀ n, ro_cb (v_has (V 506 i) 0) n = 0 := by
      intro n
      induction n with
      | zero => rfl
      | succ n ih =>
        show ro_cb (v_has (V 506 i) 0) n + _ = 0
        rw [ih]
        rfl
    exact (this _).symm
end GF
