/-! a pull -/
theorem nI_inj {a b : Nat} (ha : a < 2 ^ 32) (hb : b < 2 ^ 32) (e : nI a = nI b) : a = b := by
  have h1 : (nI a).toBitVec.toNat = a := pk_tn ha
  have h2 : (nI b).toBitVec.toNat = b := pk_tn hb
  rw [← h1, e, h2]
def dD (Z : zZ) (T du : Nat) : Nat := if T ≤ du + Z 33 0 then Z 32 0 else Z 32 0 + (T - du - Z 33 0)
def dL (Z : zZ) (ne : Nat) : Nat := if nI ne ≤ nI (Z 30 0) / 4 then 0 else 1
def dE (Z : zZ) (ne : Nat) : Nat := if -(nI (Z 30 0) / 4) ≤ nI ne then 0 else 1
theorem y_put {A B T r : Nat} {x : Int32} (hA : A < 2 ^ 32) (hB : B < 2 ^ 32) (hT : T < 2 ^ 32) (hx : x = nI (32 * (r % 2))) : (lN (A + 2 ^ 32 * B) &&& ((4294967295 <<< (x.toInt64 &&& 63)) ^^^ (-1))) ||| (lN T <<< (x.toInt64 &&& 63)) = lN (if r % 2 = 0 then T + 2 ^ 32 * B else A + 2 ^ 32 * T) := by
  subst hx
  rcases (show r % 2 = 0 ∨ r % 2 = 1 by omega) with e | e
  · have := lj_put (A := 0) (c := A) (B := B) (s := 0) (w := 32) (v := T) (k := 4294967295) rfl (by decide) hA hT (by decide)
    rw [Nat.pow_zero, Nat.one_mul, Nat.zero_add, Nat.one_mul, Nat.zero_add] at this
    rw [e, if_pos rfl]
    exact this
  · have := lj_put (A := A) (c := B) (B := 0) (s := 32) (w := 32) (v := T) (k := 4294967295) rfl hA hB hT (by decide)
    rw [Nat.mul_zero, Nat.add_zero, Nat.add_zero] at this
    rw [e, if_neg (by decide)]
    exact this
section LPU
variable {E : zE} {aa : Nat → Nat} {x : Nat} {L Z : zZ} {S C : zS} {Q : Int32 → zS → zS → Prop} {X : String → zS → Prop}
/-- a pull that can be made: bell b in row r has the place p0 -/
def PU (Z : zZ) (b p0 : Nat) : Prop := Z 27 0 = 1 ∧ b < 6 ∧ z_pp Z b = true ∧ Z 34 b < z_L Z (Z 28 0) ∧ z_L Z (Z 28 0) ≤ 16 ∧ p0 < z_st Z (Z 28 0) ∧ ro_bl (z_f Z (Z 28 0) (Z 34 b)) p0 = b
theorem PU.one {b p0 p1 : Nat} (h : PU Z b p0) (hI : IZ Z) (h1 : p1 < z_st Z (Z 28 0)) (e : ro_bl (z_f Z (Z 28 0) (Z 34 b)) p1 = b) : p1 = p0 :=
  (z_f_V hI.M (hI.T.2 _ (hI.g.2 h.1).1) h.2.2.2.1).2.2 _ _ h1 h.2.2.2.2.2.1 (e.trans h.2.2.2.2.2.2.symm)
theorem PU.st {b p0 : Nat} (h : PU Z b p0) (hI : IZ Z) : b < z_st Z (Z 28 0) := by
  have := (z_f_V hI.M (hI.T.2 _ (hI.g.2 h.1).1) h.2.2.2.1).2.1 p0 h.2.2.2.2.2.1
  rw [h.2.2.2.2.2.2] at this
  exact this
theorem PU.du {b p0 : Nat} (h : PU Z b p0) (hI : IZ Z) : z_du Z (Z 34 b) p0 < 2 ^ 31 - 1000 := by
  have g := hI.g.2 h.1
  have n6 := (ro_N6 (z_T_N hI.M (hI.T.2 _ g.1))).1
  obtain ⟨o1, o2, o3, o4, o5, o6, o7⟩ := h
  unfold z_du
  have a1 : z_st Z (Z 28 0) * Z 34 b ≤ 6 * 16 := Nat.mul_le_mul n6 (by omega)
  have a2 : Z 30 0 * (z_st Z (Z 28 0) * Z 34 b + p0 + Z 34 b / 2) ≤ 1000 * 120 := Nat.mul_le_mul g.2.2.2.1.2 (by omega)
  have := g.2.2.2.2.2.1
  omega
theorem lr_bad {b p0 T ne : Nat} {S' : zS} (hc : RZ E x Z C) (hp : PU Z b p0) (hT : T ≤ 2000000000) (en : nI T - nI (z_du Z (Z 34 b) p0) = nI ne) (tt : TT E aa x S' C) (k : ∀ S' C', TT E aa x S' C' → Q 1 S' C')
    (no : ¬ (lg_cmp ((nI (Z 38 b)).toInt64 + (nI ne).toInt64) ((nI (Z 38 b)).toInt64 + (nI ne).toInt64).toInt32.toInt64 = 0 ∧ (T ≤ z_du Z (Z 34 b) p0 + Z 33 0 ∨ Z 32 0 + T ≤ 2000000000 + z_du Z (Z 34 b) p0 + Z 33 0))) :
    p_L_pull E x (nI b) ((lN T).toInt32) C (fun (r77 : Int32) (C76 : zS) => ((¬ r77 = (-7300)) → ((0 : Int32) = 0 ∨ (0 : Int32) = 1) ∧ Q 0 S' C76) ∧ ((r77 = (-7300)) → ((1 : Int32) = 0 ∨ (1 : Int32) = 1) ∧ Q 1 S' C76)) := by
  rw [lj_i (by omega)]
  refine j_pull hc hp.2.1 hT (fun _ => py ⟨Or.inr rfl, k _ _ tt⟩) (fun p1 n1 _ _ _ _ _ _ _ _ => py ⟨Or.inr rfl, k _ _ tt⟩) (fun p1 n1 _ _ _ h1 h4 _ e1 _ c d => ?_)
  have ep := hp.one hc.I h1 h4
  subst ep
  have e : nI n1 = nI ne := e1.symm.trans en
  rw [e] at c
  exact absurd ⟨c, d⟩ no
theorem lr_J1075 {b p0 T ne lt er : Nat} {g22 : Int64} {l100 : Int32} (hz : LZ L Z) (hc : RZ E x Z C) (hn : NB Z) (hp : PU Z b p0) (hT : T ≤ 2000000000) (en : nI T - nI (z_du Z (Z 34 b) p0) = nI ne) (n32 : ne < 2 ^ 32) (el : lt = dL Z ne) (ee : er = dE Z ne) (e22 : g22.toInt = (dD Z T (z_du Z (Z 34 b) p0) : Nat)) (hD : dD Z T (z_du Z (Z 34 b) p0) ≤ 2000000000)
    (ok : lg_cmp ((nI (Z 38 b)).toInt64 + (nI ne).toInt64) ((nI (Z 38 b)).toInt64 + (nI ne).toInt64).toInt32.toInt64 = 0 ∧ (T ≤ z_du Z (Z 34 b) p0 + Z 33 0 ∨ Z 32 0 + T ≤ 2000000000 + z_du Z (Z 34 b) p0 + Z 33 0))
    (h : RA aa (up (up L 7 b (L 7 b + ne)) 6 b (L 6 b + lt)) S) (e100 : l100 = nI er) (k : ∀ S' C', TT E aa x S' C' → Q 1 S' C') :
    p_L_rings_J1075 E Q X x (aa 0) (aa 1) (aa 2) (aa 3) (aa 4) (aa 8) (aa 9) (aa 10) (nI b) (nI (Z 34 b)) (lN T) (nI ne) g22 l100 (gA S (aa 6) (6 + b)) (6 + nI b) (aa 6) S C := by
  subst e100
  have hI := hc.I
  obtain ⟨o1, o2, o3, o4, o5, o6, o7⟩ := id hp
  have R := hz.R.2.2 o1
  have g16 : L 10 (16 + b) = Z 34 b := R.2.2.2.2 b o2
  have h35 := hI.n.1
  have hy : L 8 (8 * b + Z 34 b / 2) = Z 35 (240 * b + 2 * (Z 34 b / 2)) + 2 ^ 32 * Z 35 (240 * b + 2 * (Z 34 b / 2) + 1) := hz.Y b (Z 34 b / 2) o2 (by omega)
  have a1 := h35 (240 * b + 2 * (Z 34 b / 2))
  have a2 := h35 (240 * b + 2 * (Z 34 b / 2) + 1)
  have eat : (8 : Int32) * nI b + nI (Z 34 b) / 2 = nI (8 * b + Z 34 b / 2) := by
    rw [show (8 : Int32) * nI b = nI (8 * b) from pk_mul 8 b, show nI (Z 34 b) / 2 = nI (Z 34 b / 2) from pk_div (d := 2) (by omega) (by decide) (by decide), nI_add]
  have e2 : nI (Z 34 b) - nI (Z 34 b) / 2 * 2 = nI (Z 34 b % 2) := ri_rem2 (by omega)
  refine ⟨h.o 6, h.ix 6 (6 + b) (nI_add 6 b) (by show _ < 12; omega) ?_⟩
  rw [h.a 6, up_i (by omega), up_f (by decide), nI_add]
  refine h.wA 6 (6 + b) _ rfl (fun S1 h1 => ⟨h1.o 10, h1.i0 10 11, ?_⟩)
  refine h1.wA 10 11 (dD Z T (z_du Z (Z 34 b) p0)) (pu_32 e22 (by omega)) (fun S2 h2 => ⟨h2.o 8, h2.ix 8 (8 * b + Z 34 b / 2) eat (by show _ < 48; omega) (h2.ix 8 (8 * b + Z 34 b / 2) eat (by show _ < 48; omega) ?_)⟩)
  rw [h2.j 8, up_f (by decide), up_f (by decide), up_f (by decide), up_f (by decide), hy, y_put (r := Z 34 b) (by omega) (by omega) (by omega) (by rw [e2]; exact pk_mul 32 _)]
  refine h2.wJ 8 (8 * b + Z 34 b / 2) _ rfl (fun S3 h3 => ⟨h3.o 3, h3.ix 3 b rfl (by show _ < 12; omega) (h3.ix 3 b rfl (by show _ < 12; omega) ?_)⟩)
  rw [h3.a 3, up_f (by decide), up_f (by decide), up_f (by decide), up_f (by decide), up_f (by decide), e2, show (1 : Int32) + nI (Z 34 b % 2) = nI (1 + Z 34 b % 2) from nI_add 1 _, nI_add]
  refine h3.wA 3 b _ rfl (fun S4 h4 => h4.ix 3 (6 + b) (nI_add 6 b) (by show _ < 12; omega) (h4.ix 3 (6 + b) (nI_add 6 b) (by show _ < 12; omega) ?_))
  rw [h4.a 3, up_i (by omega), up_f (by decide), up_f (by decide), up_f (by decide), up_f (by decide), up_f (by decide), nI_1]
  refine h4.wA 3 (6 + b) _ rfl (fun S5 h5 => h5.ix 10 (16 + b) (nI_add 16 b) (by show _ < 26; omega) (h5.ix 10 (16 + b) (nI_add 16 b) (by show _ < 26; omega) ?_))
  rw [h5.a 10, up_f (by decide), up_f (by decide), up_f (by decide), up_i (by omega), up_f (by decide), up_f (by decide), up_f (by decide), g16, nI_1]
  refine h5.wA 10 (16 + b) _ rfl (fun S6 h6 => ?_)
  have z6 := hz.pull (b := b) (t := T) (ne := ne) (dl := dD Z T (z_du Z (Z 34 b) p0)) (lt := lt) (er := er) (v8 := if Z 34 b % 2 = 0 then T + 2 ^ 32 * Z 35 (240 * b + 2 * (Z 34 b / 2) + 1) else Z 35 (240 * b + 2 * (Z 34 b / 2)) + 2 ^ 32 * T) o1 o2 (by omega) rfl rfl rfl rfl (by
    rcases (show Z 34 b % 2 = 0 ∨ Z 34 b % 2 = 1 by omega) with e | e
    · rw [if_pos e, show 240 * b + 2 * (Z 34 b / 2) = 240 * b + Z 34 b by omega, up_s, up_i (by omega)]
    · rw [if_neg (by omega), show 240 * b + 2 * (Z 34 b / 2) + 1 = 240 * b + Z 34 b by omega, up_s, up_i (by omega)]) rfl rfl rfl
  have hIp : IZ (zPull Z b T ne (dD Z T (z_du Z (Z 34 b) p0)) lt er) := hI.pull (hp.st hI) o2 (by omega) o1 hT hD
  have hnp : NB (zPull Z b T ne (dD Z T (z_du Z (Z 34 b) p0)) lt er) := by
    have za := zPull_ag (Z := Z) (b := b) (t := T) (ne := ne) (dl := dD Z T (z_du Z (Z 34 b) p0)) (lt := lt) (er := er)
    have c := za.m (k := [3, 4, 5, 6, 7, 10, 11, 12]) rfl
    intro _ q hq
    rw [za 28 (by decide), z_C_L c]
    show up Z 34 b (Z 34 b + 1) 34 q ≤ _
    by_cases e : q = b
    · rw [e, up_s]
      omega
    · rw [up_i e]
      exact hn o1 q hq
  refine l_goOn h6 z6 hIp o1 (fun N L' Z' S' h' go z' i' => ?_)
  rw [lj_i (by omega)]
  refine j_pull hc o2 hT (fun y => absurd ⟨o1, o3, o4⟩ y) (fun p1 n1 _ _ _ h1 h4 _ e1 hh => ?_) (fun p1 n1 _ _ _ h1 h4 _ e1 b1 c d C1 r1 => ?_)
  · have ep := hp.one hI h1 h4
    subst ep
    have e : nI n1 = nI ne := e1.symm.trans en
    rw [e] at hh
    exact absurd ok hh
  · have ep := hp.one hI h1 h4
    subst ep
    have e : n1 = ne := nI_inj b1 n32 (e1.symm.trans en)
    subst e
    subst el
    subst ee
    exact pe rfl ⟨Or.inr rfl, k _ _ ⟨L', Z', h', z', r1 N Z' go, NB.go N hnp go⟩⟩
theorem lr_J950 {b p0 T ne : Nat} {g100 g101 : Int64} (h : RA aa L S) (hz : LZ L Z) (hc : RZ E x Z C) (hn : NB Z) (hp : PU Z b p0) (hT : T ≤ 2000000000) (en : nI T - nI (z_du Z (Z 34 b) p0) = nI ne) (n32 : ne < 2 ^ 32) (ei : (nI ne).toInt = (T : Int) - z_du Z (Z 34 b) p0) (e22 : (g101 + g100).toInt = (dD Z T (z_du Z (Z 34 b) p0) : Nat)) (k : ∀ S' C', TT E aa x S' C' → Q 1 S' C') :
    p_L_rings_J950 E Q X x (aa 0) (aa 1) (aa 2) (aa 3) (aa 4) (aa 6) (aa 7) (aa 8) (aa 9) (aa 10) (nI b) (nI (Z 34 b)) (lN T) (nI ne) g100 g101 S C := by
  have hI := hc.I
  obtain ⟨o1, o2, o3, o4, o5, o6, o7⟩ := id hp
  have R := hz.R.2.2 o1
  have g9 : L 10 9 = Z 30 0 := R.2.2.1
  have n32' := (hI.g.2 o1).2.2.2.2.2.1
  have g30 := (hI.g.2 o1).2.2.2.1
  have hdu := hp.du hI
  have same : TT E aa x S C := ⟨L, Z, h, hz, hc, hn⟩
  have dok : dD Z T (z_du Z (Z 34 b) p0) ≤ 2000000000 ↔ (T ≤ z_du Z (Z 34 b) p0 + Z 33 0 ∨ Z 32 0 + T ≤ 2000000000 + z_du Z (Z 34 b) p0 + Z 33 0) := by
    unfold dD
    split <;> omega
  have lit : (2000000000 : Int64).toInt = 2000000000 := by decide
  refine ⟨h.o 7, h.ix 7 b rfl (by show _ < 6; omega) (fun y hy => ?_)⟩
  rw [h.a 7, hz.X b o2] at hy
  subst hy
  refine ⟨fun c1 => lr_bad hc hp hT en same k (fun no => ?_), fun c1 => ⟨fun c2 => lr_bad hc hp hT en same k (fun no => (lg_room.mp no.1).2 c2), fun c2 => ⟨fun c3 => h.ix 7 b rfl (by show _ < 6; omega) (h.ix 7 b rfl (by show _ < 6; omega) ?_), fun c3 => lr_bad hc hp hT en same k (fun no => ?_)⟩⟩⟩
  · have c1 := lg_gt0.mp c1
    have := dok.mpr no.2
    rw [lit, e22] at c1
    omega
  · have hD : dD Z T (z_du Z (Z 34 b) p0) ≤ 2000000000 := by
      rcases Nat.lt_or_ge 2000000000 (dD Z T (z_du Z (Z 34 b) p0)) with y | y
      · exact absurd (lg_gt0.mpr (by rw [lit, e22]; omega)) c1
      · exact y
    have ok := And.intro (lg_room.mpr ⟨fun y => by
      rw [Int32.lt_iff_toInt_lt] at y
      rw [Int32.le_iff_toInt_le] at c3
      omega, c2⟩) (dok.mp hD)
    rw [h.a 7, nI_add]
    refine h.wA 7 b _ rfl (fun S1 h1 => ⟨h1.o 6, h1.ix 6 b rfl (by show _ < 12; omega) ⟨h1.o 10, h1.i0 10 9, ?_⟩⟩)
    have q4 : nI (Z 30 0) / 4 = nI (Z 30 0 / 4) := pk_div (d := 4) (by omega) (by decide) (by decide)
    have q4i : (nI (Z 30 0) / 4).toInt = ((Z 30 0 / 4 : Nat) : Int) := by rw [q4]; exact nI_toInt (by omega)
    have neg1 : (-(nI (Z 30 0) / 4)).toInt = -((Z 30 0 / 4 : Nat) : Int) := by
      rw [Int32.toInt_neg, q4i, Int.bmod_eq_of_le (by omega) (by omega)]
    have neg2 : (-(nI ne)).toInt = (z_du Z (Z 34 b) p0 : Int) - T := by
      rw [Int32.toInt_neg, ei, Int.bmod_eq_of_le (by omega) (by omega)]
      omega
    have swap : (-(nI ne) ≤ nI (Z 30 0) / 4) ↔ (-(nI (Z 30 0) / 4) ≤ nI ne) := by
      rw [Int32.le_iff_toInt_le, Int32.le_iff_toInt_le, neg1, neg2, q4i, ei]
      omega
    have J1046 : ∀ l100 : Int32, l100 = nI (dL Z ne) → p_L_rings_J1046 E Q X x (aa 0) (aa 1) (aa 2) (aa 3) (aa 4) (aa 6) (aa 8) (aa 9) (aa 10) (nI b) (nI (Z 34 b)) (lN T) (nI ne) (g101 + g100) l100 (gA S1 (aa 6) b) (nI b) (aa 6) S1 C := by
      intro l100 e100
      subst e100
      refine ⟨h1.o 6, h1.ix 6 b rfl (by show _ < 12; omega) ?_⟩
      rw [h1.a 6, up_f (by decide), nI_add]
      refine h1.wA 6 b _ rfl (fun S2 h2 => ⟨h2.o 6, h2.ix 6 (6 + b) (nI_add 6 b) (by show _ < 12; omega) ⟨h2.o 10, h2.i0 10 9, ?_⟩⟩)
      rw [h2.a 10, up_f (by decide), up_f (by decide), g9]
      refine ⟨fun y => ?_, fun y => ?_⟩
      · exact lr_J1075 hz hc hn hp hT en n32 rfl rfl e22 hD ok h2 (by unfold dE; rw [if_pos (swap.mp y)]; rfl) k
      · exact lr_J1075 hz hc hn hp hT en n32 rfl rfl e22 hD ok h2 (by unfold dE; rw [if_neg (fun z => y (swap.mpr z))]; rfl) k
    rw [h1.a 10, up_f (by decide), g9]
    refine ⟨fun y => J1046 0 (by unfold dL; rw [if_pos y]; rfl), fun y => J1046 1 (by unfold dL; rw [if_neg y]; rfl)⟩
  · have r := (lg_room.mp no.1).1
    refine c3 ?_
    rw [Int32.lt_iff_toInt_lt] at r
    rw [Int32.le_iff_toInt_le]
    omega
theorem lr_J909 {b p0 T : Nat} (h : RA aa L S) (hz : LZ L Z) (hc : RZ E x Z C) (hn : NB Z) (hp : PU Z b p0) (hT : T ≤ 2000000000) (k : ∀ S' C', TT E aa x S' C' → Q 1 S' C') :
    p_L_rings_J909 E Q X x (aa 0) (aa 1) (aa 2) (aa 3) (aa 4) (aa 6) (aa 7) (aa 8) (aa 9) (aa 10) (nI b) (nI (Z 34 b)) (nI (z_du Z (Z 34 b) p0)) (lN T) S C := by
  have hI := hc.I
  obtain ⟨o1, o2, o3, o4, o5, o6, o7⟩ := id hp
  have R := hz.R.2.2 o1
  have g11 : L 10 11 = Z 32 0 := R.2.2.2.1
  have g12 : L 10 12 = Z 33 0 := hz.G.2.2.2.2.1
  have n32' := (hI.g.2 o1).2.2.2.2.2.1
  have n33 := hI.n.2.1
  have hdu := hp.du hI
  have d64 : ((nI (z_du Z (Z 34 b) p0)).toInt64).toInt = (z_du Z (Z 34 b) p0 : Int) := by rw [Int32.toInt_toInt64, nI_toInt (by omega)]
  have t64 : (lN T).toInt = (T : Int) := lj_toInt (by omega)
  have sub : (lN T - (nI (z_du Z (Z 34 b) p0)).toInt64).toInt = (T : Int) - z_du Z (Z 34 b) p0 := by
    rw [i64_sub (by omega) (by omega) (by omega) (by omega), t64, d64]
  have e32 : ((lN T - (nI (z_du Z (Z 34 b) p0)).toInt64)).toInt32 = nI T - nI (z_du Z (Z 34 b) p0) := by
    apply Int32.toInt_inj.mp
    rw [i32_of (by omega) (by omega), sub, i32_sub (by omega) (by omega)]
  obtain ⟨ne, n32, en⟩ := nI_w (nI T - nI (z_du Z (Z 34 b) p0))
  have ei : (nI ne).toInt = (T : Int) - z_du Z (Z 34 b) p0 := by rw [← en, i32_sub (by omega) (by omega)]
  have i11 : ((nI (Z 32 0)).toInt64).toInt = (Z 32 0 : Int) := by rw [Int32.toInt_toInt64, nI_toInt (by omega)]
  have i12 : ((nI (Z 33 0)).toInt64).toInt = (Z 33 0 : Int) := by rw [Int32.toInt_toInt64, nI_toInt (by omega)]
  have in64 : ((nI ne).toInt64).toInt = (T : Int) - z_du Z (Z 34 b) p0 := by rw [Int32.toInt_toInt64, ei]
  unfold p_L_rings_J909
  rw [e32, en]
  refine ⟨h.o 10, h.i0 10 11, h.i0 10 12, ?_⟩
  rw [h.a 10 11, h.a 10 12, g11, g12]
  refine ⟨fun y => ?_, fun y => ⟨h.i0 10 12, ?_⟩⟩
  · rw [Int32.le_iff_toInt_le, ei, nI_toInt (by omega)] at y
    refine lr_J950 h hz hc hn hp hT en n32 ei ?_ k
    have z0 : (0 : Int64).toInt = 0 := by decide
    rw [i64_add (by omega) (by omega) (by omega) (by omega), i11, z0]
    unfold dD
    rw [if_pos (by omega)]
    omega
  · rw [Int32.le_iff_toInt_le, ei, nI_toInt (by omega)] at y
    refine lr_J950 h hz hc hn hp hT en n32 ei ?_ k
    have s2 : ((nI ne).toInt64 - (nI (Z 33 0)).toInt64).toInt = (T : Int) - z_du Z (Z 34 b) p0 - Z 33 0 := by
      rw [i64_sub (by omega) (by omega) (by omega) (by omega), in64, i12]
    rw [i64_add (by omega) (by omega) (by omega) (by omega), i11, s2]
    unfold dD
    rw [if_neg (by omega)]
    omega
theorem lr_J879 {b p0 : Nat} {g100 : Int64} (h : RA aa L S) (hz : LZ L Z) (hc : RZ E x Z C) (hn : NB Z) (hp : PU Z b p0) (k : ∀ S' C', TT E aa x S' C' → Q 1 S' C') :
    p_L_rings_J879 E Q X x (aa 0) (aa 1) (aa 2) (aa 3) (aa 4) (aa 6) (aa 7) (aa 8) (aa 9) (aa 10) (nI b) (nI (Z 34 b)) (nI (z_du Z (Z 34 b) p0)) g100 S C := by
  have lit : (2000000000 : Int64).toInt = 2000000000 := by decide
  have lit0 : (0 : Int64).toInt = 0 := by decide
  refine ⟨fun c1 => ⟨fun c2 => ?_, fun _ => lr_J909 (T := 2000000000) h hz hc hn hp (by decide) k⟩, fun _ => lr_J909 (T := 0) h hz hc hn hp (by decide) k⟩
  have c2 := lg_le0.mp c2
  rw [lit] at c2
  have c1' : 0 ≤ g100.toInt := by
    rcases Int.lt_or_le g100.toInt 0 with y | y
    · have := lg_lt0.mpr (show g100.toInt < (0 : Int64).toInt by rw [lit0]; exact y)
      rw [Int32.lt_iff_toInt_lt] at this
      rw [Int32.le_iff_toInt_le] at c1
      omega
    · exact y
  have e : g100 = lN g100.toInt.toNat := by
    apply Int64.toInt_inj.mp
    rw [lj_toInt (by omega)]
    omega
  rw [e]
  exact lr_J909 h hz hc hn hp (by omega) k
end LPU
