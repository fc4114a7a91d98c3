/-! the law's calls on calls, leads, touches and compositions -/
theorem z_M_7 {Z : zZ} {i c v : Nat} (hM : z_M Z) (c1 : 1 ≤ c) (c2 : c ≤ 2) (hv : ro_isC (Z 4 i) v = true) : z_M (up Z 7 (2 * i + c - 1) v) := by
  refine ⟨hM.1, fun m hm => ?_⟩
  have w := hM.2 m hm
  refine ⟨w.1, w.2.1, w.2.2.1, w.2.2.2.1, fun d hd => ?_⟩
  by_cases e : 2 * m + d = 2 * i + c - 1
  · have : m = i := by omega
    subst this
    rw [e, up_s]
    exact hv
  · rw [up_i e]
    exact w.2.2.2.2 d hd
theorem lz_m_put {Z : zZ} {i c v : Nat} {x : Int32} (hM : z_M Z) (hi : i < Z 3 0) (h5 : Z 5 i ≤ 4) (c1 : 1 ≤ c) (c2 : c ≤ 2) (hv : v < 64) (hx : x = nI (24 + 6 * c)) : (lN (lz_m Z i) &&& ((63 <<< (x.toInt64 &&& 63)) ^^^ (-1))) ||| ((nI v).toInt64 <<< (x.toInt64 &&& 63)) = lN (pk_b 64 (lz_md (Z 4) (Z 5) (Z 6) (up Z 7 (2 * i + c - 1) v 7) i) 7) := by
  subst hx
  have lt := lz_md_lt hM hi h5
  have dk : ∀ k, k < 5 → lz_md (Z 4) (Z 5) (Z 6) (up Z 7 (2 * i + c - 1) v 7) i k = lz_md (Z 4) (Z 5) (Z 6) (Z 7) i k := by
    intro k hk
    unfold lz_md
    by_cases a : k = 0
    · rw [if_pos a, if_pos a]
    · rw [if_neg a, if_neg a, if_pos hk, if_pos hk]
  have d5 : lz_md (Z 4) (Z 5) (Z 6) (up Z 7 (2 * i + c - 1) v 7) i 5 = if c = 1 then v else lz_md (Z 4) (Z 5) (Z 6) (Z 7) i 5 := by
    show up Z 7 (2 * i + c - 1) v 7 (2 * i) = if c = 1 then v else Z 7 (2 * i)
    by_cases e : c = 1
    · rw [if_pos e, show 2 * i + c - 1 = 2 * i by omega, up_s]
    · rw [if_neg e, up_i (by omega)]
  have d6 : lz_md (Z 4) (Z 5) (Z 6) (up Z 7 (2 * i + c - 1) v 7) i 6 = if c = 2 then v else lz_md (Z 4) (Z 5) (Z 6) (Z 7) i 6 := by
    show up Z 7 (2 * i + c - 1) v 7 (2 * i + 1) = if c = 2 then v else Z 7 (2 * i + 1)
    by_cases e : c = 2
    · rw [if_pos e, show 2 * i + c - 1 = 2 * i + 1 by omega, up_s]
    · rw [if_neg e, up_i (by omega)]
  have em := pk7 (lz_md (Z 4) (Z 5) (Z 6) (Z 7) i)
  rw [lN_I (n := v) (by omega), pk7, dk 0 (by decide), dk 1 (by decide), dk 2 (by decide), dk 3 (by decide), dk 4 (by decide), d5, d6]
  have l0 := lt 0 (by decide)
  have l1 := lt 1 (by decide)
  have l2 := lt 2 (by decide)
  have l3 := lt 3 (by decide)
  have l4 := lt 4 (by decide)
  have l5 := lt 5 (by decide)
  have l6 := lt 6 (by decide)
  unfold lz_m
  rw [em]
  generalize lz_md (Z 4) (Z 5) (Z 6) (Z 7) i 0 = a0 at *
  generalize lz_md (Z 4) (Z 5) (Z 6) (Z 7) i 1 = a1 at *
  generalize lz_md (Z 4) (Z 5) (Z 6) (Z 7) i 2 = a2 at *
  generalize lz_md (Z 4) (Z 5) (Z 6) (Z 7) i 3 = a3 at *
  generalize lz_md (Z 4) (Z 5) (Z 6) (Z 7) i 4 = a4 at *
  generalize lz_md (Z 4) (Z 5) (Z 6) (Z 7) i 5 = a5 at *
  generalize lz_md (Z 4) (Z 5) (Z 6) (Z 7) i 6 = a6 at *
  rcases (show c = 1 ∨ c = 2 by omega) with rfl | rfl
  · have := lj_put (A := a0 + 64 * a1 + 4096 * a2 + 262144 * a3 + 16777216 * a4) (c := a5) (B := a6) (s := 30) (w := 6) (v := v) (k := 63) rfl (by omega) (by omega) (by omega) (by decide)
    rw [show a0 + 64 * a1 + 4096 * a2 + 262144 * a3 + 16777216 * a4 + 1073741824 * a5 + 68719476736 * a6 = (a0 + 64 * a1 + 4096 * a2 + 262144 * a3 + 16777216 * a4) + 2 ^ 30 * (a5 + 2 ^ 6 * a6) by omega, show 24 + 6 * 1 = 30 from rfl, this]
    congr 1
    rw [if_pos rfl, if_neg (by decide)]
    omega
  · have := lj_put (A := a0 + 64 * a1 + 4096 * a2 + 262144 * a3 + 16777216 * a4 + 1073741824 * a5) (c := a6) (B := 0) (s := 36) (w := 6) (v := v) (k := 63) rfl (by omega) (by omega) (by omega) (by decide)
    rw [show a0 + 64 * a1 + 4096 * a2 + 262144 * a3 + 16777216 * a4 + 1073741824 * a5 + 68719476736 * a6 = (a0 + 64 * a1 + 4096 * a2 + 262144 * a3 + 16777216 * a4 + 1073741824 * a5) + 2 ^ 36 * (a6 + 2 ^ 6 * 0) by omega, show 24 + 6 * 2 = 36 from rfl, this]
    congr 1
section LM2
variable {E : zE} {aa : Nat → Nat} {x : Nat} {L Z : zZ} {S C : zS} {Q : Int32 → zS → zS → Prop} {X : String → zS → Prop}
theorem lm_J625 {i c v : Nat} {l12 l13 : Int32} (h : RA aa L S) (hz : LZ L Z) (hc : RZ E x Z C) (hn : NB Z) (hi : i < Z 3 0) (c1 : 1 ≤ c) (c2 : c ≤ 2) (hv : v < 64) (e12 : l12 = nI (Z 4 i)) (e13 : l13 = nI c) (k : ∀ S' C', TT E aa x S' C' → Q 1 S' C') : p_L_methods_J625 E Q X x (aa 0) (aa 1) (aa 2) (aa 4) (aa 9) (aa 10) (nI i) l12 l13 (nI v) S C := by
  subst e12
  subst e13
  have hI := hc.I
  have hM := hI.M
  have hN := (hM.2 i hi).1
  have hn6 := ro_N6 hN
  have b3 : Z 3 0 ≤ 3 := hz.M.2.1
  have mi := hz.M.2.2 i hi
  have h5 := mi.1
  have h1 := (hM.2 i hi).2.1
  have g6 : L 10 6 = Z 27 0 := hz.R.1
  have b27 := hI.g.1
  have same : TT E aa x S C := ⟨L, Z, h, hz, hc, hn⟩
  refine j_setCall_r hc hi (ne_r (a := 0) (Or.inl (by decide)) (by decide) (by decide)) (py (j_setCall_r hc hi (ne_r (a := 3) (Or.inr (by decide)) (by decide) (by decide)) (py' ?_)))
  refine l_isChange hN hv (fun e => ⟨fun _ => ⟨h.o 10, h.i0 10 6, ?_⟩, fun y => absurd y (by decide)⟩) (fun e => ⟨fun y => absurd rfl y, fun _ => ?_⟩)
  · rw [h.a 10 6, g6, ri_is1 b27]
    refine ⟨fun n27 => ⟨h.o 0, h.ix 0 i rfl (by show _ < 3; omega) (h.ix 0 i rfl (by show _ < 3; omega) ?_)⟩, fun e27 => ?_⟩
    · rw [h.j 0, show L 0 i = lz_m Z i from mi.2]
      refine l_size hM hi h5 ?_
      rw [show (nI (Z 5 i) - 1 : Int32) = nI (Z 5 i - 1) from pk_sub (b := 1) (by omega)]
      refine l_its hM hi h5 (by omega) (by omega) ⟨h.o 0, h.ix 0 i rfl (by show _ < 3; omega) (h.ix 0 i rfl (by show _ < 3; omega) ?_)⟩
      have ex : (24 : Int32) + 6 * nI c = nI (24 + 6 * c) := by rw [show (6 : Int32) * nI c = nI (6 * c) from pk_mul 6 c]; exact nI_add 24 _
      rw [h.j 0, show L 0 i = lz_m Z i from mi.2, lz_m_put hM hi h5 c1 c2 hv ex]
      refine h.wJ 0 i _ rfl (fun S1 h1' => ?_)
      have z1 := hz.call hi c1 c2 (v := v) rfl
      refine l_drop h1' z1 (z_M_7 hM c1 c2 e) hI.T hI.B hI.P hI.d (fun L2 S2 h2 z2 => ?_)
      refine j_setCall hc hi c1 c2 e (by omega) (fun C1 r1 => pe rfl ⟨Or.inr rfl, k _ _ ⟨_, _, h2, z2, r1 _ (z_dr_D hI.P hI.d), NB.off (by show Z 27 0 = 0; omega)⟩⟩)
    · exact j_setCall_s hc hi c1 c2 ⟨v, rfl, e⟩ e27 (py ⟨Or.inr rfl, k _ _ same⟩)
  · refine j_setCall_p hc hi c1 c2 (fun y => ?_) (py ⟨Or.inr rfl, k _ _ same⟩)
    rw [ro_ch_nI hn6.1 hv, e] at y
    cases y
theorem lm_L585 {K : Nat → Nat → Nat → Nat → Nat → Nat → Nat → Int32 → Int32 → Int32 → Int32 → zS → zS → Prop} {n : Nat} {l3 l11 l13 : Int32} (hN : ro_N n) (k : ∀ v, v < 64 → K x (aa 0) (aa 1) (aa 2) (aa 4) (aa 9) (aa 10) l11 (nI n) l13 (nI v) S C) :
    ∀ (w j v : Nat), v < 64 → j ≤ 64 → 64 < j + w → p_L_methods_L585 E K Q X w x l3 (aa 0) (aa 1) (aa 2) (aa 4) (aa 9) (aa 10) l11 (nI n) l13 (nI v) (nI j) S C
  | 0, j, v, hv, h1, h2 => by omega
  | w + 1, j, v, hv, h1, h2 => by
    have e : (nI v + 1) - (nI v + 1) / 64 * 64 = nI ((v + 1) % 64) := by rw [nI_1]; exact pk_rem (d := 64) (by omega) (by decide) (by decide)
    refine pk_le 64 j (fun _ => k v hv) (fun h5 => ⟨fun _ => k v hv, fun _ => l_isChange hN hv (fun _ => ⟨fun _ => k v hv, fun y => absurd y (by decide)⟩) (fun _ => ⟨fun y => absurd rfl y, fun _ => ?_⟩)⟩)
    rw [e, nI_1]
    exact lm_L585 hN k w (j + 1) _ (Nat.mod_lt _ (by decide)) (by omega) (by omega)
theorem lm_J931 {i c : Nat} (h : RA aa L S) (hz : LZ L Z) (hc : RZ E x Z C) (hn : NB Z) (hi : i < Z 3 0) (hcl : c < 3) (h4 : Z 8 0 < 4) (hst : 0 < Z 8 0 → Z 4 i = Z 4 (Z 9 0 / 3)) (k : ∀ S' C', TT E aa x S' C' → Q 1 S' C') : p_L_methods_J931 E Q X x (aa 10) (nI i) (nI c) S C := by
  obtain ⟨c1, c2, c3, c4, c5, c6⟩ := hz.C
  have b3 : Z 3 0 ≤ 3 := hz.M.2.1
  have hl := p16_lt (f := fun k => Z 9 k / 3 + 4 * (Z 9 k % 3)) c5 (fun k hk => by have := (hc.z9 k hk).1; have : Z 9 k % 3 < 3 := Nat.mod_lt _ (by decide); show Z 9 k / 3 + 4 * (Z 9 k % 3) < 16; omega)
  have p6 : 2 ^ (4 * Z 8 0) ≤ 2 ^ 12 := Nat.pow_le_pow_right (by decide) (by omega)
  have pm : (i + 4 * c) * 2 ^ (4 * Z 8 0) ≤ 15 * 2 ^ 12 := Nat.mul_le_mul (by omega) p6
  refine ⟨h.o 10, h.i0 10 25, h.i0 10 24, h.i0 10 25, ?_⟩
  rw [h.a 10 25, h.a 10 24, c6, c4, show (4 : Int32) * nI c = nI (4 * c) from pk_mul 4 c, nI_add, show (4 : Int32) = nI 4 from rfl, li_put (by omega) hl.1 (by omega)]
  refine h.wA 10 25 _ rfl (fun S1 h1 => ⟨h1.i0 10 24, h1.i0 10 24, ?_⟩)
  rw [h1.a 10 24, up_i (by decide), nI_1]
  refine h1.wA 10 24 _ rfl (fun S2 h2 => ?_)
  refine j_lead hc hi hcl (by omega) hst (fun C1 r1 => ⟨h2.i0 10 24, pe ?_ ⟨Or.inr rfl, k _ _ ⟨_, _, h2, hz.lead (w := 3 * i + c) h4 ?_ rfl, r1, hn.l (nbu (nbu nb0))⟩⟩⟩)
  · rw [h2.a 10 24, up_s, c4]
  · rw [c6, show (3 * i + c) / 3 = i by omega, show (3 * i + c) % 3 = c by omega, Nat.pow_mul]
/-- the code of a way -/
def cl (j : Nat) : Nat → Nat → Nat → Nat
  | 0, _, c => c
  | k + 1, l, c => cl j k (l / 3) (c ||| (j + 4 * (l % 3)) * 2 ^ (3 + 4 * k))
theorem cl_c : ∀ N, N < 5 → ∀ j, j < 3 → ∀ w, w < 81 → (w < 3 ^ N → cl j N w N = lz_cd N (fun _ => j) (D3 N w)) := by decide +kernel
theorem lm_L1236 {K : Nat → Nat → Nat → Nat → Nat → Int32 → Int32 → Int32 → Int32 → Int32 → zS → zS → Prop} {i : Nat} {l13 l14 l15 : Int32} (hi : i < 3) : ∀ (q w l c : Nat), q < w → q ≤ 4 → l < 81 → K x (aa 0) (aa 1) (aa 9) (aa 10) (nI i) l13 l14 l15 (nI (cl i q l c)) S C → p_L_methods_L1236 E K Q X w x (aa 0) (aa 1) (aa 9) (aa 10) (nI i) l13 l14 l15 (nI c) (nI l) (nI q - 1) S C
  | q, 0, l, c, h1, _, _, _ => absurd h1 (Nat.not_lt_zero _)
  | 0, w + 1, l, c, h1, _, hl, k => ⟨fun _ => k, fun y => absurd (by decide) y⟩
  | q + 1, w + 1, l, c, h1, h4, hl, k => by
    rw [show (nI (q + 1) - 1 : Int32) = nI q from by rw [show (nI (q + 1) - 1 : Int32) = nI (q + 1 - 1) from pk_sub (b := 1) (by omega), Nat.add_sub_cancel]]
    refine ⟨fun y => ?_, fun _ y hy => ?_⟩
    · have := nI_n0 (n := q) (by omega)
      rw [Int32.lt_iff_toInt_lt, nI_toInt (by omega)] at y
      have e0 : (0 : Int32).toInt = 0 := by decide
      omega
    · have b : 2 ^ (3 + 4 * q) ≤ 2 ^ 15 := Nat.pow_le_pow_right (by decide) (by omega)
      have pm : (i + 4 * (l % 3)) * 2 ^ (3 + 4 * q) ≤ 11 * 2 ^ 15 := Nat.mul_le_mul (by omega) b
      have e3 : nI l - nI l / 3 * 3 = nI (l % 3) := pk_rem (d := 3) (by omega) (by decide) (by decide)
      rw [e3, show (4 : Int32) * nI (l % 3) = nI (4 * (l % 3)) from pk_mul 4 _, nI_add, li_34, pk_shlN _ (3 + 4 * q) (ri_c _ (by omega)) (by omega), ri_or] at hy
      subst hy
      rw [show nI l / 3 = nI (l / 3) from pk_div (d := 3) (by omega) (by decide) (by decide), ← Int32.sub_eq_add_neg]
      exact lm_L1236 hi q w (l / 3) _ (by omega) (by omega) (by omega) k
theorem lm_J1210 {i N : Nat} (h : RA aa L S) (hz : LZ L Z) (hc : RZ E x Z C) (hn : NB Z) (hi : i < Z 3 0) (n1 : 1 ≤ N) (n4 : N ≤ 4) (h10 : Z 10 0 < 4) {l100 : Int32} (e100 : l100 = nI (3 ^ N)) (k : ∀ S' C', TT E aa x S' C' → Q 1 S' C') : p_L_methods_J1210 E Q X x (aa 0) (aa 1) (aa 9) (aa 10) (nI i) (nI N) l100 S C := by
  subst e100
  have hI := hc.I
  have hM := hI.M
  have hN := (hM.2 i hi).1
  have b3 : Z 3 0 ≤ 3 := hz.M.2.1
  have p3 : 3 ^ N ≤ 3 ^ 4 := Nat.pow_le_pow_right (by decide) n4
  refine ⟨3 ^ N + 1, ?_⟩
  have loop : ∀ (w way : Nat) (L : zZ) (S : zS), RA aa L S → LZ L Z → way ≤ 3 ^ N → 3 ^ N < way + w → (∀ e, e < way → sw Z i N (D3 N e) = false) → p_L_methods_L1215 E (fun (a0 : Nat) (a5 : Nat) (a9 : Nat) (l11 : Int32) (l13 : Int32) (l16 : Int32) (S C : zS) => (a9 ∈ gL S ∧ gK S a9 = 12) ∧ (1 < gN S a9 ∧ gN S a9 < 2 ^ 31) ∧ (a5 ∈ gL S ∧ gK S a5 = 12) ∧ ∃ j37, ((gA S a9 1) = nI j37 ∧ j37 < gN S a5 ∧ gN S a5 < 2 ^ 31) ∧ ∀ S39, S39 = sA S a5 j37 l16 → (1 < gN S39 a9 ∧ gN S39 a9 < 2 ^ 31) ∧ (1 < gN S39 a9 ∧ gN S39 a9 < 2 ^ 31) ∧ ∀ S45, S45 = sA S39 a9 1 ((gA S39 a9 1) + 1) → p_L_compose E a0 l11 l13 C (fun (r48 : Int32) (C47 : zS) => (1 < gN S45 a9 ∧ gN S45 a9 < 2 ^ 31) ∧ ((¬ r48 = ((gA S45 a9 1) - 1)) → ((0 : Int32) = 0 ∨ (0 : Int32) = 1) ∧ Q 0 S45 C47) ∧ ((r48 = ((gA S45 a9 1) - 1)) → ((1 : Int32) = 0 ∨ (1 : Int32) = 1) ∧ Q 1 S45 C47))) (fun (a0 : Nat) (l11 : Int32) (l13 : Int32) (S C : zS) => p_L_compose E a0 l11 l13 C (fun (r57 : Int32) (C56 : zS) => ((¬ r57 = (-1)) → ((0 : Int32) = 0 ∨ (0 : Int32) = 1) ∧ Q 0 S C56) ∧ ((r57 = (-1)) → ((1 : Int32) = 0 ∨ (1 : Int32) = 1) ∧ Q 1 S C56))) Q X w x (aa 0) (aa 1) (aa 9) (aa 10) (nI i) (nI N) (nI (3 ^ N)) (nI way) S C := by
    intro w
    induction w with
    | zero => intro way L S h hz h1 h2 h3; omega
    | succ w ih =>
      intro way L S h hz h1 h2 h3
      refine pk_le (3 ^ N) way (fun h5 => ?_) (fun h5 => ⟨5, ?_⟩)
      · have : way = 3 ^ N := by omega
        subst this
        refine j_compose hc hi n1 (by omega) (by omega) (fun w' hw hs _ => ?_) (fun _ C1 r1 => py ⟨Or.inr rfl, k _ _ ⟨L, Z, h, hz, r1, hn⟩⟩)
        rw [h3 w' hw] at hs
        cases hs
      · refine lm_L1236 (by omega) N 5 way N (by omega) n4 (by omega) ?_
        rw [cl_c N (by omega) i (by omega) way (by omega) h5]
        have LD : z_LD Z (fun _ => i) (D3 N way) (Z 4 i) N := ⟨hN, by omega, fun q hq => ⟨hi, D3_lt, rfl⟩⟩
        refine l_isSound h hz hM LD n1 n4 (fun f S1 h1' => zb_d (fun es => ?_) (fun es => ?_))
        · have g1 : sr L f 10 1 = Z 10 0 := hz.T.1
          refine ⟨h1'.o 10, h1'.i0 10 1, h1'.o 1, h1'.ix 1 (Z 10 0) (by rw [h1'.a 10, g1]) (by show _ < 4; omega) ?_⟩
          refine h1'.wA 1 (Z 10 0) _ rfl (fun S2 h2' => ⟨h2'.i0 10 1, h2'.i0 10 1, ?_⟩)
          rw [h2'.a 10 1, up_f (by decide), nI_1]
          refine h2'.wA 10 1 _ rfl (fun S3 h3' => ?_)
          refine j_compose hc hi n1 (by omega) (by omega) (fun w' hw hs hmin C1 r1 => ?_) (fun no => ?_)
          · have e : w' = way := by
              rcases Nat.lt_trichotomy w' way with y | y | y
              · rw [h3 w' y] at hs
                cases hs
              · exact y
              · have := hmin way y
                rw [show sw Z i N (D3 N way) = true from es] at this
                cases this
            subst e
            refine ⟨h3'.i0 10 1, pe ?_ ⟨Or.inr rfl, k _ _ ⟨_, _, h3', hz.sr.ta (q := N) (g := fun k => 3 * i + D3 N w' k) h10 n4 ?_ rfl, r1 _ zTa_ta ?_, hn.ta hI.T (fun o => (hI.g.2 o).1)⟩⟩⟩
            · rw [h3'.a 10 1, up_s, g1, show (nI (Z 10 0 + 1) - 1 : Int32) = nI (Z 10 0 + 1 - 1) from pk_sub (b := 1) (by omega), Nat.add_sub_cancel]
            · unfold lz_cd
              congr 2
              refine pk_b_congr (fun p hp => ?_)
              have := D3_lt (N := N) (w := w') (k := p)
              show i + 4 * D3 N w' p = (3 * i + D3 N w' p) / 3 + 4 * ((3 * i + D3 N w' p) % 3)
              omega
            · funext q
              unfold zTa
              simp
          · have := no way h5
            rw [show sw Z i N (D3 N way) = true from es] at this
            cases this
        · rw [nI_1]
          refine ih (way + 1) _ S1 h1' hz.sr (by omega) (by omega) (fun e he => ?_)
          by_cases y : e = way
          · rw [y]
            exact es
          · exact h3 e (by omega)
  exact loop (3 ^ N + 1) 0 L S h hz (Nat.zero_le _) (by omega) (fun e he => by omega)
end LM2
