/-! the law's calls on changes, methods and leads -/
/-- no bell has pulled more rows than there are -/
def NB (Z : zZ) : Prop := Z 27 0 = 1 → ∀ b, b < 6 → Z 34 b ≤ z_L Z (Z 28 0)
def nbl : List Nat := [3, 4, 5, 6, 7, 10, 11, 12, 27, 28, 34]
theorem NB.l {Z Z' : zZ} (hn : NB Z) (h : ∀ f, f ∈ nbl → Z' f = Z f) : NB Z' := by
  intro o b hb
  rw [h 27 (by decide)] at o
  rw [h 34 (by decide), h 28 (by decide), z_C_L (Z := Z) (fun f hf => h f (by
    simp only [nbl, List.mem_cons, List.not_mem_nil, or_false] at hf ⊢
    omega))]
  exact hn o b hb
theorem nb0 {Z : zZ} : ∀ f, f ∈ nbl → Z f = Z f := fun _ _ => rfl
theorem nbu {Z Z' : zZ} {g i v : Nat} (h : ∀ f, f ∈ nbl → Z' f = Z f) (hg : g ∉ nbl := by decide) : ∀ f, f ∈ nbl → up Z' g i v f = Z f := fun f hf => (up_f (fun (e : f = g) => hg (by rw [← e]; exact hf))).trans (h f hf)
theorem NB.off {Z : zZ} (h : Z 27 0 = 0) : NB Z := fun o => by rw [h] at o; cases o
theorem NB.ta {Z : zZ} {q : Nat} {g : Nat → Nat} (hn : NB Z) (hT : z_TT Z) (h28 : Z 27 0 = 1 → Z 28 0 < Z 10 0) : NB (zTa Z q g) := by
  intro o b hb
  have t := zTa_ta (Z := Z) (q := q) (g := g)
  rw [t.1 27 (by decide)] at o
  rw [t.1 34 (by decide), t.1 28 (by decide), t.L (h28 o) (hT.2 _ (h28 o))]
  exact hn o b hb
theorem NB.tm {Z : zZ} {n : Nat} (hn : NB Z) (hI : IZ Z) : NB (zMeth Z n) := by
  intro o b hb
  have t := zMeth_tm (Z := Z) (n := n)
  rw [t.1 27 (by decide)] at o
  rw [t.1 34 (by decide), t.1 28 (by decide), t.L hI.M (hI.T.2 _ (hI.g.2 o).1)]
  exact hn o b hb
def TT (E : zE) (aa : Nat → Nat) (x : Nat) (S C : zS) : Prop := ∃ L Z, RA aa L S ∧ LZ L Z ∧ RZ E x Z C ∧ NB Z
theorem RZ.z2 {E : zE} {x : Nat} {Z : zZ} {S : zS} (h : RZ E x Z S) : ∀ k, k < 12 → Z 2 k < 64 := by
  obtain ⟨ad, la, V, _, hV, _⟩ := h
  intro k hk
  exact (hV.2.1.2.2 k hk).2
theorem RZ.z9 {E : zE} {x : Nat} {Z : zZ} {S : zS} (h : RZ E x Z S) : ∀ k, k < Z 8 0 → Z 9 k / 3 < Z 3 0 ∧ Z 4 (Z 9 k / 3) = Z 4 (Z 9 0 / 3) := by
  obtain ⟨ad, la, V, _, hV, _⟩ := h
  intro k hk
  have := hV.L.2.2.1 k hk
  exact ⟨this.2.2.1, this.2.2.2⟩
theorem pe {a b : Int32} {A B : Prop} (e : a = b) (q : B) : ((¬ a = b) → A) ∧ ((a = b) → B) := ⟨fun x => absurd e x, fun _ => q⟩
theorem nI_w (v : Int32) : ∃ n, n < 2 ^ 32 ∧ v = nI n := ⟨v.toBitVec.toNat, v.toBitVec.isLt, by
  apply Int32.toBitVec_inj.mp
  unfold nI
  simp⟩
theorem and1 (v : Int32) : ∃ b, b < 2 ∧ v &&& 1 = nI b := by
  obtain ⟨n, hn, rfl⟩ := nI_w v
  exact ⟨n % 2, Nat.mod_lt _ (by decide), pk_andN hn 1 (by decide)⟩
theorem li_put {g n v b : Nat} (hb : b * n < 32) (hg : g < 2 ^ (b * n)) (hv : v * 2 ^ (b * n) < 2 ^ 32) : nI g ||| (nI v <<< ((nI b * nI n) &&& 31)) = nI (g + 2 ^ (b * n) * v) := by
  rw [pk_mul b n, pk_shlN _ (b * n) (ri_c _ hb) hv, ri_or, Nat.or_comm, Nat.mul_comm v, ← Nat.two_pow_add_eq_or_of_lt hg, Nat.add_comm]
theorem lN_I {n : Nat} (h : n < 2 ^ 31) : (nI n).toInt64 = lN n := by
  apply Int64.toInt_inj.mp
  rw [Int32.toInt_toInt64, nI_toInt h, lj_toInt (by omega)]
theorem zb_and (b c : Bool) : zb b &&& zb c = zb (b && c) := by cases b <;> cases c <;> rfl
def mk (Z : zZ) (n : Nat) (c : Bool) : Nat → Bool
  | 0 => c
  | k + 1 => mk Z n c k && ro_isC n (Z 2 k)
theorem mk_t {Z : zZ} {n : Nat} {c : Bool} : ∀ k, mk Z n c k = true ↔ c = true ∧ ∀ j, j < k → ro_isC n (Z 2 j) = true
  | 0 => ⟨fun h => ⟨h, fun j hj => by omega⟩, fun h => h.1⟩
  | k + 1 => by
    show (mk Z n c k && ro_isC n (Z 2 k)) = true ↔ _
    rw [Bool.and_eq_true, mk_t k]
    constructor
    · rintro ⟨⟨h1, h2⟩, h3⟩
      refine ⟨h1, fun j hj => ?_⟩
      by_cases e : j = k
      · rw [e]
        exact h3
      · exact h2 j (by omega)
    · rintro ⟨h1, h2⟩
      exact ⟨⟨h1, fun j hj => h2 j (by omega)⟩, h2 k (by omega)⟩
theorem p64_lt {f : Nat → Nat} {n : Nat} (hn : n ≤ 4) (h : ∀ k, k < n → f k < 64) : pk_b 64 f n < 2 ^ (6 * n) ∧ pk_b 64 f n < 2 ^ 24 := by
  have h1 : pk_b 64 f n < 64 ^ n := pk_b_lt (by decide) h
  have h2 : 64 ^ n ≤ 64 ^ 4 := Nat.pow_le_pow_right (by decide) hn
  rw [Nat.pow_mul]
  exact ⟨h1, by omega⟩
theorem p16_lt {f : Nat → Nat} {n : Nat} (hn : n ≤ 4) (h : ∀ k, k < n → f k < 16) : pk_b 16 f n < 2 ^ (4 * n) ∧ pk_b 16 f n < 2 ^ 16 := by
  have h1 : pk_b 16 f n < 16 ^ n := pk_b_lt (by decide) h
  have h2 : 16 ^ n ≤ 16 ^ 4 := Nat.pow_le_pow_right (by decide) hn
  rw [Nat.pow_mul]
  exact ⟨h1, by omega⟩
section LM
variable {E : zE} {aa : Nat → Nat} {x : Nat} {L Z : zZ} {S C : zS} {Q : Int32 → zS → zS → Prop} {X : String → zS → Prop}
theorem lm_J86 {v : Nat} (h : RA aa L S) (hz : LZ L Z) (hc : RZ E x Z C) (hn : NB Z) (hv : v < 64) (k : ∀ S' C', TT E aa x S' C' → Q 1 S' C') : p_L_methods_J86 E Q X x (aa 10) (nI v) S C := by
  obtain ⟨c1, c2, c3, c4, c5, c6⟩ := hz.C
  have hl := p64_lt c2 (fun k hk => hc.z2 k (by omega))
  refine j_change_r hc (ne_r (a := 64) (Or.inr (by decide)) (by decide) (by decide)) (py (j_change_r hc (ne_rm (by decide) (by decide)) (py' ⟨h.o 10, h.i0 10 22, ?_⟩)))
  rw [h.a 10 22, c1, show (nI (Z 1 0) = 4 ↔ Z 1 0 = 4) from nI_eq (b := 4) (by omega) (by decide)]
  refine ⟨fun n4 => ⟨h.i0 10 23, h.i0 10 22, h.i0 10 23, ?_⟩, fun _ => ?_⟩
  · have p6 : 2 ^ (6 * Z 1 0) ≤ 2 ^ 18 := Nat.pow_le_pow_right (by decide) (by omega)
    have pm : v * 2 ^ (6 * Z 1 0) ≤ 63 * 2 ^ 18 := Nat.mul_le_mul (by omega) p6
    rw [h.a 10 23, c3, show (6 : Int32) = nI 6 from rfl, li_put (by omega) hl.1 (by omega)]
    refine h.wA 10 23 _ rfl (fun S1 h1 => ⟨h1.i0 10 22, h1.i0 10 22, ?_⟩)
    rw [h1.a 10 22, up_i (by decide), nI_1]
    refine h1.wA 10 22 _ rfl (fun S2 h2 => ?_)
    refine j_change hc hv (by omega) (fun C1 r1 => ⟨h2.i0 10 22, pe ?_ ⟨Or.inr rfl, k _ _ ⟨_, _, h2, hz.change (by omega) ?_ rfl, r1, hn.l (nbu (nbu nb0))⟩⟩⟩)
    · rw [h2.a 10 22, up_s, c1]
    · rw [c3, Nat.pow_mul]
  · exact j_method_r hc (ne_r (a := 3) (Or.inl (by decide)) (by decide) (by decide)) (py (j_method_r hc (ne_r (a := 7) (Or.inr (by decide)) (by decide) (by decide)) (py ⟨Or.inr rfl, k _ _ ⟨L, Z, h, hz, hc, hn⟩⟩)))
theorem lm_J285 {n : Nat} {l3 : Int32} (h : RA aa L S) (hz : LZ L Z) (hc : RZ E x Z C) (hn : NB Z) (k : ∀ S' C', TT E aa x S' C' → Q 1 S' C') : p_L_methods_J285 E Q X x l3 (aa 10) 1 S C := by
  obtain ⟨c1, c2, c3, c4, c5, c6⟩ := hz.C
  refine ⟨fun _ => ⟨h.o 10, h.i0 10 22, h.i0 10 22, ?_⟩, fun _ => ⟨Or.inr rfl, k _ _ ⟨L, Z, h, hz, hc, hn⟩⟩⟩
  refine h.wA 10 22 0 rfl (fun S1 h1 => ⟨h1.i0 10 23, ?_⟩)
  refine h1.wA 10 23 0 rfl (fun S2 h2 => ⟨fun y => absurd y (by decide), fun _ => ⟨hc.o, ?_⟩⟩)
  refine j_dropChanges hc (fun C1 r1 => pe ?_ ⟨Or.inr rfl, k _ _ ⟨_, _, h2, hz.dropCh rfl rfl, r1, hn.l (nbu nb0)⟩⟩)
  rw [h.a 10 22, c1]
theorem lm_L223 {K : Nat → Int32 → Nat → Nat → Int32 → Int32 → zS → zS → Prop} {n : Nat} {l3 : Int32} {c0 : Bool} (h : RA aa L S) (hz : LZ L Z) (hc : RZ E x Z C) (hN : ro_N n) (k : K x l3 (aa 0) (aa 10) (nI n) (zb (mk Z n c0 (Z 1 0))) S C) :
    ∀ (w j : Nat), j ≤ Z 1 0 → Z 1 0 < j + w → p_L_methods_L223 E K Q X w x l3 (aa 0) (aa 10) (nI n) (zb (mk Z n c0 j)) (nI j) S C
  | 0, j, h1, h2 => by omega
  | w + 1, j, h1, h2 => by
    obtain ⟨c1, c2, c3, c4, c5, c6⟩ := hz.C
    have hlt : ∀ k, k < Z 1 0 → Z 2 k < 64 := fun k hk => hc.z2 k (by omega)
    have hl := p64_lt c2 hlt
    refine ⟨h.o 10, h.i0 10 22, ?_⟩
    rw [h.a 10 22, c1]
    refine pk_le (Z 1 0) j (fun h5 => ?_) (fun h5 => ⟨h.i0 10 23, ?_⟩)
    · have : j = Z 1 0 := by omega
      subst this
      exact k
    · have ea := pk_b_at (by decide) hlt j h5
      have ed := Nat.div_le_self (pk_b 64 (Z 2) (Z 1 0)) (2 ^ (6 * j))
      have e6 : (nI (pk_b 64 (Z 2) (Z 1 0)) >>> (((6 : Int32) * nI j) &&& 31)) &&& 63 = nI (Z 2 j) := by
        rw [show (6 : Int32) * nI j = nI (6 * j) from pk_mul 6 j, li_shr (by omega) (by omega) rfl, pk_andN (by omega) 6 (by decide), Nat.pow_mul]
        exact congrArg nI ea
      rw [h.a 10 23, c3, e6]
      have ih := lm_L223 h hz hc hN k w (j + 1) (by omega) (by omega)
      have em : mk Z n c0 (j + 1) = (mk Z n c0 j && ro_isC n (Z 2 j)) := rfl
      rw [em, ← zb_and] at ih
      rw [nI_1]
      refine l_isChange hN (hlt j h5) (fun e => ?_) (fun e => ?_)
      · rw [e] at ih
        exact ih
      · rw [e] at ih
        exact ih
theorem lm_J218 {n : Nat} {l3 l100 : Int32} (h : RA aa L S) (hz : LZ L Z) (hc : RZ E x Z C) (hn : NB Z) (hN : ro_N n) (e1 : l100 = zb (decide (0 < Z 1 0))) (k : ∀ S' C', TT E aa x S' C' → Q 1 S' C') : p_L_methods_J218 E Q X x l3 (aa 0) (aa 10) (nI n) l100 S C := by
  subst e1
  obtain ⟨c1, c2, c3, c4, c5, c6⟩ := hz.C
  have hn6 := ro_N6 hN
  have hlt : ∀ k, k < Z 1 0 → Z 2 k < 64 := fun k hk => hc.z2 k (by omega)
  have hl := p64_lt c2 hlt
  have g0 : L 10 0 = Z 3 0 := hz.M.1
  have b3 : Z 3 0 ≤ 3 := hz.M.2.1
  refine ⟨5, lm_L223 (c0 := decide (0 < Z 1 0)) h hz hc hN ?_ 5 0 (Nat.zero_le _) (by omega)⟩
  refine zb_d (fun e => ?_) (fun e => ?_)
  · have em := (mk_t (Z 1 0)).mp e
    have p1 : 0 < Z 1 0 := of_decide_eq_true em.1
    refine ⟨h.o 10, h.i0 10 0, ?_⟩
    rw [h.a 10 0, g0, show (nI (Z 3 0) = 3 ↔ Z 3 0 = 3) from nI_eq (b := 3) (by omega) (by decide)]
    refine ⟨fun n3 => ⟨h.i0 10 23, h.i0 10 22, fun y hy => ⟨h.i0 10 0, h.i0 10 22, h.i0 10 23, h.o 0, h.ix 0 (Z 3 0) rfl (by show _ < 3; omega) ?_⟩⟩, fun e3 => ?_⟩
    · have ea := pk_b_at (by decide) hlt (Z 1 0 - 1) (by omega)
      have hla := hlt (Z 1 0 - 1) (by omega)
      have ed := Nat.div_le_self (pk_b 64 (Z 2) (Z 1 0)) (2 ^ (6 * (Z 1 0 - 1)))
      rw [h.a 10 23, h.a 10 22, c1, c3, show (nI (Z 1 0) - 1 : Int32) = nI (Z 1 0 - 1) from pk_sub (b := 1) (by omega), show (6 : Int32) * nI (Z 1 0 - 1) = nI (6 * (Z 1 0 - 1)) from pk_mul 6 _, li_shr (by omega) (by omega) rfl, pk_andN (by omega) 6 (by decide), Nat.pow_mul, show pk_b 64 (Z 2) (Z 1 0) / (2 ^ 6) ^ (Z 1 0 - 1) % 2 ^ 6 = Z 2 (Z 1 0 - 1) from ea, lN_I (by omega)] at hy
      subst hy
      rw [h.a 10 22, h.a 10 23, c1, c3, lN_I (by omega), lN_I (by omega), lN_I (by omega), show (8 : Int64) = lN 8 from rfl, lN_mul, lN_add, show (6 : Int32) = nI 6 from rfl, show (30 : Int32) = nI 30 from rfl, show (36 : Int32) = nI 36 from rfl, lj_shl _ (by decide), lj_shl _ (by decide), lj_shl _ (by decide), lN_add, lN_add, lN_add]
      refine h.wJ 0 (Z 3 0) _ rfl (fun S1 h1 => ⟨h1.i0 10 0, h1.i0 10 0, ?_⟩)
      rw [h1.a 10 0, up_f (by decide), nI_1]
      refine h1.wA 10 0 _ rfl (fun S2 h2 => ⟨h2.i0 10 22, ?_⟩)
      refine h2.wA 10 22 0 rfl (fun S3 h3 => ⟨h3.i0 10 23, ?_⟩)
      refine h3.wA 10 23 0 rfl (fun S4 h4 => ?_)
      refine j_method hc hn6.2 hn6.1 p1 (by omega) em.2 (fun C1 r1 => ⟨h4.i0 10 0, pe ?_ ⟨Or.inr rfl, k _ _ ⟨_, _, h4, hz.meth (n := n) (by omega) ?_ ?_ rfl rfl, r1 _ zMeth_tm, hn.tm hc.I⟩⟩⟩)
      · rw [h4.a 10 0, up_i (by decide), up_i (by decide), up_s, g0, show (nI (Z 3 0 + 1) - 1 : Int32) = nI (Z 3 0 + 1 - 1) from pk_sub (b := 1) (by omega), Nat.add_sub_cancel]
      · omega
      · rw [g0]
    · exact j_stage0 hc (ne_i (a := 3) (by omega) (by decide)) (py ⟨Or.inr rfl, k _ _ ⟨L, Z, h, hz, hc, hn⟩⟩)
  · refine j_method_s hc hn6.2 hn6.1 (fun y => ?_) (py (lm_J285 (n := n) h hz hc hn k))
    have : mk Z n (decide (0 < Z 1 0)) (Z 1 0) = true := (mk_t (Z 1 0)).mpr ⟨decide_eq_true y.1, y.2⟩
    rw [e] at this
    cases this
end LM
