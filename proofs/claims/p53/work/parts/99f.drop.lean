/-! bells that are in, plans, drops, looking -/
section LX
variable {E : zE} {aa : Nat → Nat} {L Z : zZ} {S : zS} {X : String → zS → Prop}
theorem q_B_in {b : Nat} (hz : LZ L Z) (hB : z_B Z) (hb : b < 6) : L 4 b < 8 ∧ (L 4 b = 0 ↔ z_in Z b = true) := by
  have e : L 4 b = Z 19 b + 2 * Z 18 b + 4 * Z 18 (6 + b) := hz.B b hb
  have b1 := hB.1 b hb
  have b2 := hB.2 b (by omega)
  have b3 := hB.2 (6 + b) (by omega)
  refine ⟨by omega, ?_⟩
  unfold z_in
  simp only [Bool.and_eq_true, beq_iff_eq]
  omega
theorem l_areIn_L {K0 K1 : zS → Prop} {Q : Int32 → zS → Prop} {n : Nat} (h : RA aa L S) (hz : LZ L Z) (hB : z_B Z) (hn : n ≤ 6) (k0 : z_are Z n = false → K0 S) (k1 : z_are Z n = true → K1 S) : ∀ (w p : Nat), p ≤ n → n < p + w → z_are Z p = true → p_L_areIn_L2 E K0 K1 Q X w (aa 4) (nI n) (nI p) S
  | 0, p, h1, h2, h3 => by omega
  | w + 1, p, h1, h2, h3 => by
    refine pk_le n p (fun h5 => ?_) (fun h5 => ⟨h.o 4, h.ix 4 p rfl (by show _ < 6; omega) ?_⟩)
    · have : p = n := by omega
      subst this
      exact k1 h3
    · have hq := q_B_in hz hB (show p < 6 by omega)
      rw [h.a 4, nI_1]
      refine pk_le (L 4 p) 0 (fun h6 => ?_) (fun h6 => k0 ?_)
      · refine l_areIn_L h hz hB hn k0 k1 w (p + 1) (by omega) (by omega) ?_
        rw [z_are_s, h3, hq.2.mp (by omega)]
        rfl
      · have e : z_in Z p = false := by
          cases x : z_in Z p with
          | false => rfl
          | true => exact absurd (hq.2.mpr x) (by omega)
        unfold z_are
        rw [List.all_eq_false]
        exact ⟨p, List.mem_range.mpr h5, by rw [e]; decide⟩
theorem l_areIn {Q : Int32 → zS → Prop} {n : Nat} (h : RA aa L S) (hz : LZ L Z) (hB : z_B Z) (hn : n ≤ 6) (k : Q (zb (z_are Z n)) S) : p_L_areIn E (aa 4) (nI n) S Q X :=
  ⟨7, l_areIn_L h hz hB hn (fun e => by rw [e] at k; exact ⟨Or.inl rfl, k⟩) (fun e => by rw [e] at k; exact ⟨Or.inr rfl, k⟩) 7 0 (Nat.zero_le _) (by omega) rfl⟩
/-! plans -/
theorem lpd_lt {l : List Nat} (h : ∀ t, t ∈ l → t < 4) (h4 : l.length ≤ 4) : lpd l < 2 ^ 12 := by
  have h1 := lp_lt l h
  have h2 : 4 ^ l.length ≤ 4 ^ 4 := Nat.pow_le_pow_right (by decide) h4
  unfold lpd
  omega
theorem lpd8 {l : List Nat} (h4 : l.length ≤ 4) : lpd l % 8 = l.length ∧ lpd l / 8 = lp l := by
  unfold lpd
  omega
theorem lpd_at {l : List Nat} (h : ∀ t, t ∈ l → t < 4) (h4 : l.length ≤ 4) {k t : Nat} (e : l[k]? = some t) : (nI (lpd l) >>> ((3 + 2 * nI k) &&& 31)) &&& 3 = nI t := by
  have hk := (List.getElem?_eq_some_iff.mp e).1
  have hl := lpd_lt h h4
  have hd := Nat.div_le_self (lpd l) (2 ^ (3 + 2 * k))
  have e1 : lpd l / 2 ^ (3 + 2 * k) = lp l / 4 ^ k := by
    rw [Nat.pow_add, Nat.pow_mul, ← Nat.div_div_eq_div_mul, show (2 ^ 3 : Nat) = 8 by decide, (lpd8 h4).2]
  rw [li_32, li_shr (by omega) (by omega) rfl, (li_and (by omega)).2.1, e1, lp_get h e]
theorem l_takePlan {Q : zS → Prop} {l : List Nat} {d p : Nat} (h : RA aa L S) (hd : d ≤ 60) (e : L 2 d = lpd l) (hl : ∀ t, t ∈ l → t < 4) (h4 : l.length ≤ 4) (hp : p < l.length) (k : ∀ S', RA aa (up L 2 d (lpd (l.eraseIdx p))) S' → Q S') : p_L_takePlan E (aa 2) (nI d) (nI p) S Q X := by
  have hlt := lpd_lt hl h4
  have h8 := lpd8 h4
  have e4 : 2 ^ (2 * p) = 4 ^ p := Nat.pow_mul 2 2 p
  have h44 : 4 ^ p ≤ 4 ^ 3 := Nat.pow_le_pow_right (by decide) (by omega)
  have p4 : 0 < 4 ^ p := Nat.pow_pos (by decide)
  have d1 := Nat.div_le_self (lp l) (4 ^ (p + 1))
  have d2 := Nat.mod_lt (lp l) p4
  refine ⟨h.o 2, h.ix 2 d rfl (by show _ < 61; omega) (fun x hx => h.ix 2 d rfl (by show _ < 61; omega) (h.ix 2 d rfl (by show _ < 61; omega) ?_))⟩
  rw [h.a 2, e]
  rw [h.a 2, e] at hx
  have em : nI (lpd l) >>> ((3 : Int32) &&& 31) = nI (lp l) := by
    rw [li_shr (by omega) (by decide) (show (3 : Int32) = nI 3 from rfl)]
    exact congrArg nI h8.2
  have e2 : (2 : Int32) * nI p = nI (2 * p) := pk_mul 2 p
  have e22 : (nI (2 * p) + 2 : Int32) = nI (2 * p + 2) := nI_add _ 2
  have llt : lp l < 2 ^ 12 := by omega
  rw [em, e2, show (1 : Int32) = nI 1 from rfl, pk_shlN _ (2 * p) (ri_c _ (by omega)) (by rw [e4]; omega), e4, show nI (1 * 4 ^ p) - nI 1 = nI (4 ^ p - 1) from by rw [Nat.one_mul]; exact pk_sub (b := 1) (by omega), ri_and, ← e4, Nat.and_two_pow_sub_one_eq_mod, e4] at hx
  have b1 : lp l / 4 ^ (p + 1) * 4 ^ p ≤ lp l := by
    rw [Nat.pow_succ, ← Nat.div_div_eq_div_mul]
    have a1 : lp l / 4 ^ p / 4 ≤ lp l / 4 ^ p := Nat.div_le_self _ _
    exact Nat.le_trans (Nat.mul_le_mul_right _ a1) (Nat.div_mul_le_self _ _)
  subst hx
  rw [em, e2, e22, li_shr (by omega) (by omega) rfl, show 2 * p + 2 = 2 * (p + 1) by omega, Nat.pow_mul, show (2 ^ 2 : Nat) = 4 by decide, pk_shlN _ (2 * p) (ri_c _ (by omega)) (by rw [e4]; omega), e4, ri_or, (li_and (by omega)).1, h8.1]
  have eo : lp l % 4 ^ p ||| lp l / 4 ^ (p + 1) * 4 ^ p = lp (l.eraseIdx p) := by
    rw [lp_erase hl hp, Nat.or_comm, Nat.mul_comm _ (4 ^ p), ← e4, ← Nat.two_pow_add_eq_or_of_lt (by rw [e4]; exact d2), Nat.add_comm]
  rw [eo, show (nI l.length - 1 : Int32) = nI (l.length - 1) from pk_sub (b := 1) (by omega), show (8 : Int32) * nI (lp (l.eraseIdx p)) = nI (8 * lp (l.eraseIdx p)) from pk_mul 8 _, nI_add]
  refine h.wA 2 d _ rfl (fun S' g => k S' ?_)
  have el : lpd (l.eraseIdx p) = l.length - 1 + 8 * lp (l.eraseIdx p) := by
    unfold lpd
    rw [List.length_eraseIdx_of_lt hp]
  rw [el]
  exact g
theorem z_LD_t (hM : z_M Z) {t : Nat} (ht : z_T Z t) : z_LD Z (z_mt Z t) (z_cl Z t) (z_st Z t) (Z 11 t) :=
  ⟨z_T_N hM ht, ht.2.2.1, fun k hk => ⟨(ht.2.2.2 k hk).1, Nat.mod_lt _ (by decide), (ht.2.2.2 k hk).2⟩⟩
theorem lz_sn_t {t : Nat} : lz_sn Z (z_st Z t) (z_mt Z t) (z_cl Z t) (Z 11 t) = z_snd Z t := by
  unfold lz_sn z_snd z_la z_L z_cs lz_ws
  rw [z_tcG_t]
  rfl
theorem q_T_c (hz : LZ L Z) {t : Nat} (ht : t < Z 10 0) : L 1 t = lz_cd (Z 11 t) (z_mt Z t) (z_cl Z t) := (hz.T.2.2 t ht).2
theorem l_soundT {Q : Int32 → zS → Prop} {t : Nat} {l : Int32} (h : RA aa L S) (hz : LZ L Z) (hM : z_M Z) (hT : z_TT Z) (ht : t < Z 10 0) (el : l = nI (L 1 t)) (k : ∀ f S', RA aa (sr L f) S' → Q (zb (z_snd Z t)) S') : p_L_isSound E (aa 0) l (aa 9) S Q X := by
  rw [el, q_T_c hz ht]
  have hx := hT.2 t ht
  refine l_isSound h hz hM (z_LD_t hM hx) hx.2.1 (hz.T.2.2 t ht).1 ?_
  rw [lz_sn_t]
  exact k
theorem q_R.cg {g g' z27 z28 z29 z30 z31 z32 z34 : Nat → Nat} (h : q_R g z27 z28 z29 z30 z31 z32 z34) (e : ∀ i, (6 ≤ i ∧ i ≤ 11) ∨ (16 ≤ i ∧ i < 22) → g' i = g i) : q_R g' z27 z28 z29 z30 z31 z32 z34 := by
  unfold q_R
  rw [e 6 (by decide), e 7 (by decide), e 8 (by decide), e 9 (by decide), e 10 (by decide), e 11 (by decide)]
  refine ⟨h.1, h.2.1, fun h1 => ⟨(h.2.2 h1).1, (h.2.2 h1).2.1, (h.2.2 h1).2.2.1, (h.2.2 h1).2.2.2.1, fun b hb => ?_⟩⟩
  rw [e (16 + b) (by omega)]
  exact (h.2.2 h1).2.2.2.2 b hb
/-- the loft with other plans -/
def Zl (Z : zZ) (ls : Nat → List Nat) : zZ := fun f i => if f = 21 then (ls i).length else if f = 22 then (ls (i / 4)).getD (i % 4) 0 else Z f i
def sl (ls : Nat → List Nat) (d : Nat) (l : List Nat) : Nat → List Nat := fun i => if i = d then l else ls i
theorem Zl_day {ls : Nat → List Nat} {d : Nat} (h : (ls d).length ≤ 4) : z_day (Zl Z ls) d = ls d := by
  apply List.ext_getElem?
  intro k
  rw [z_day_get, show Zl Z ls 21 d = (ls d).length from rfl]
  split
  · rename_i hk
    have e1 : (4 * d + k) / 4 = d := by omega
    have e2 : (4 * d + k) % 4 = k := by omega
    show some ((ls ((4 * d + k) / 4)).getD ((4 * d + k) % 4) 0) = _
    rw [e1, e2, List.getD_eq_getElem?_getD, List.getElem?_eq_getElem hk]
    rfl
  · rw [List.getElem?_eq_none (by omega)]
theorem Zl_f {ls : Nat → List Nat} {f : Nat} (h1 : f ≠ 21) (h2 : f ≠ 22) : Zl Z ls f = Z f := funext fun i => by
  unfold Zl
  rw [if_neg h1, if_neg h2]
theorem Zl_C {ls : Nat → List Nat} : z_C Z (Zl Z ls) := fun f hf => Zl_f (fun e => by rw [e] at hf; exact absurd hf (by decide)) (fun e => by rw [e] at hf; exact absurd hf (by decide))
theorem Zl_fit {ls : Nat → List Nat} : z_fit (Zl Z ls) = z_fit Z := z_fit_congr Zl_C (Zl_f (by decide) (by decide)) (Zl_f (by decide) (by decide))
/-- plans that are plans -/
def lz_ok (Z : zZ) (ls : Nat → List Nat) : Prop := ∀ d, Z 20 0 ≤ d → d ≤ 60 → (ls d).length ≤ 4 ∧ ∀ t, t ∈ ls d → t < Z 10 0
theorem LZ.pl {L : zZ} {ls : Nat → List Nat} {d v : Nat} {l : List Nat} (hz : LZ L (Zl Z ls)) (hk : lz_ok Z ls) (hl : l.length ≤ 4) (e : v = lpd l) : LZ (up L 2 d v) (Zl Z (sl ls d l)) := by
  refine ⟨hz.M, hz.T, fun i h1 h2 => ?_, hz.W, hz.B, hz.D, hz.E, hz.X, hz.Y, hz.G, hz.R, hz.C⟩
  have hi := hk i h1 h2
  show up L 2 d v 2 i = lpd (z_day (Zl Z (sl ls d l)) i)
  by_cases a : i = d
  · subst a
    have e2 : sl ls i l i = l := if_pos rfl
    rw [up_s, Zl_day (by rw [e2]; exact hl), e2]
    exact e
  · have e2 : sl ls d l i = ls i := if_neg a
    rw [up_i a, Zl_day (by rw [e2]; exact hi.1), e2]
    have := hz.P i h1 h2
    rw [lz_day_z, Zl_day hi.1] at this
    exact this
theorem sl_ok {ls : Nat → List Nat} {d : Nat} {l : List Nat} (hk : lz_ok Z ls) (hl : l.length ≤ 4) (hm : ∀ t, t ∈ l → t < Z 10 0) : lz_ok Z (sl ls d l) := by
  intro i h1 h2
  by_cases a : i = d
  · rw [show sl ls d l i = l from if_pos a]
    exact ⟨hl, hm⟩
  · rw [show sl ls d l i = ls i from if_neg a]
    exact hk i h1 h2
theorem sl_sl (ls : Nat → List Nat) (d : Nat) (l l' : List Nat) : sl (sl ls d l) d l' = sl ls d l' := by
  funext i
  unfold sl
  split <;> rfl
theorem sl_id (ls : Nat → List Nat) (d : Nat) : sl ls d (ls d) = ls := by
  funext i
  unfold sl
  split
  · rename_i h
    rw [h]
  · rfl
theorem l_drop_L19 {K : Nat → Nat → Nat → Nat → Nat → Nat → Int32 → Int32 → zS → Prop} {Q : Int32 → zS → Prop} {d : Nat} (hM : z_M Z) (hT : z_TT Z) (hB : z_B Z) (h1 : Z 20 0 ≤ d) (h2 : d ≤ 60) :
    ∀ (rest pre : List Nat) (w n : Nat) (ls : Nat → List Nat) (L : zZ) (S : zS), RA aa L S → LZ L (Zl Z ls) → lz_ok Z ls → ls d = pre ++ rest → rest.length < w →
    (∀ L' S', RA aa L' S' → LZ L' (Zl Z (sl ls d (pre ++ rest.filter (z_fit Z)))) → K (aa 0) (aa 1) (aa 2) (aa 4) (aa 9) (aa 10) (nI (n + z_un (z_fit Z) rest)) (nI d) S') →
    p_L_drop_L19 E K Q X w (aa 0) (aa 1) (aa 2) (aa 4) (aa 9) (aa 10) (nI n) (nI d) (nI pre.length) S
  | rest, pre, 0, n, ls, L, S, h, hz, hk, el, hw, k => absurd hw (Nat.not_lt_zero _)
  | [], pre, w + 1, n, ls, L, S, h, hz, hk, el, hw, k => by
    have hd := hk d h1 h2
    have b10 : Z 10 0 ≤ 4 := hz.T.2.1
    have ep : L 2 d = lpd (ls d) := by
      have := hz.P d h1 h2
      rw [lz_day_z, Zl_day hd.1] at this
      exact this
    have hl := lpd_lt (fun t ht => by have := hd.2 t ht; omega) hd.1
    refine ⟨h.o 2, h.ix 2 d rfl (by show _ < 61; omega) ?_⟩
    rw [h.a 2, ep, (li_and (by omega)).1, (lpd8 hd.1).1, el]
    rw [List.append_nil] at el ⊢
    have lp4 : pre.length ≤ 4 := by
      rw [← el]
      exact hd.1
    refine pk_le pre.length pre.length (fun _ => ?_) (fun h => by omega)
    have := k L S h (by
      rw [List.filter_nil, List.append_nil, ← el, sl_id]
      exact hz)
    rw [show z_un (z_fit Z) [] = 0 from rfl, Nat.add_zero] at this
    exact this
  | t :: r, pre, w + 1, n, ls, L, S, h, hz, hk, el, hw, k => by
    have hd := hk d h1 h2
    have b10 : Z 10 0 ≤ 4 := hz.T.2.1
    have ep : L 2 d = lpd (ls d) := by
      have := hz.P d h1 h2
      rw [lz_day_z, Zl_day hd.1] at this
      exact this
    have h4 : ∀ t, t ∈ ls d → t < 4 := fun t ht => by have := hd.2 t ht; omega
    have hl := lpd_lt h4 hd.1
    have ln : (ls d).length = pre.length + (r.length + 1) := by
      rw [el, List.length_append]
      rfl
    have ht : t < Z 10 0 := hd.2 t (by rw [el]; exact List.mem_append_right _ List.mem_cons_self)
    have hg : (ls d)[pre.length]? = some t := by
      rw [el, List.getElem?_append_right (Nat.le_refl _), Nat.sub_self]
      rfl
    have eer : (ls d).eraseIdx pre.length = pre ++ r := by
      rw [el, List.eraseIdx_append_of_length_le (Nat.le_refl _), Nat.sub_self]
      rfl
    have st : z_st (Zl Z ls) t = z_st Z t := rfl
    have hw' : r.length < w := by
      have : r.length + 1 < w + 1 := hw
      omega
    have take : z_fit Z t = false → ∀ L2 S2, RA aa L2 S2 → LZ L2 (Zl Z ls) → p_L_takePlan E (aa 2) (nI d) (nI pre.length) S2 (fun (S15 : zS) => p_L_drop_L19 E K Q X w (aa 0) (aa 1) (aa 2) (aa 4) (aa 9) (aa 10) (nI n + 1) (nI d) ((nI pre.length + (-1)) + 1) S15) (fun _ _ => False) := by
      intro hf L2 S2 g2 z2
      have ep2 : L2 2 d = lpd (ls d) := by
        have := z2.P d h1 h2
        rw [lz_day_z, Zl_day hd.1] at this
        exact this
      refine l_takePlan g2 h2 ep2 h4 hd.1 (by omega) (fun S3 g3 => ?_)
      have el2 : (pre ++ r).length ≤ 4 := by
        rw [List.length_append]
        omega
      have z3 := z2.pl (d := d) hk el2 (v := lpd ((ls d).eraseIdx pre.length)) (by rw [eer])
      rw [Int32.add_assoc, show ((-1 : Int32) + 1) = 0 from rfl, Int32.add_zero, nI_1]
      refine l_drop_L19 hM hT hB h1 h2 r pre w (n + 1) (sl ls d (pre ++ r)) _ S3 g3 z3 (sl_ok hk el2 (fun u hu => ?_)) (if_pos rfl) hw' (fun L4 S4 g4 z4 => ?_)
      · refine hd.2 u ?_
        rw [el]
        rcases List.mem_append.mp hu with y | y
        · exact List.mem_append_left _ y
        · exact List.mem_append_right _ (List.mem_cons_of_mem _ y)
      · rw [sl_sl] at z4
        have eu : z_un (z_fit Z) (t :: r) = 1 + z_un (z_fit Z) r := by
          unfold z_un
          rw [List.filter_cons_of_pos (by rw [hf]; rfl), Nat.add_comm]
          rfl
        have := k L4 S4 g4 (by rw [List.filter_cons_of_neg (by rw [hf]; decide)]; exact z4)
        rw [eu, ← Nat.add_assoc] at this
        exact this
    refine ⟨h.o 2, h.ix 2 d rfl (by show _ < 61; omega) ?_⟩
    rw [h.a 2, ep, (li_and (by omega)).1, (lpd8 hd.1).1, ln]
    refine pk_le (pre.length + (r.length + 1)) pre.length (fun h => by omega) (fun _ => h.ix 2 d rfl (by show _ < 61; omega) (fun x hx => ?_))
    rw [h.a 2, ep, lpd_at h4 hd.1 hg] at hx
    subst hx
    refine l_stageIn h hz hM hT ht ?_
    rw [st]
    have hn := ro_N6 (z_T_N hM (hT.2 t ht))
    refine l_areIn h hz hB hn.1 ?_
    rw [show z_are (Zl Z ls) (z_st Z t) = z_are Z (z_st Z t) from z_are_congr (Zl_f (by decide) (by decide)) (Zl_f (by decide) (by decide)) _]
    refine zb_c (fun e => ?_) (fun e => ⟨h.o 1, h.ix 1 t rfl (by show _ < 4; omega) (l_soundT h hz hM hT ht (h.a 1 t) (fun f S2 g2 => ?_))⟩)
    · exact take (by unfold z_fit; rw [e]; rfl) L S h hz
    · rw [z_C_snd Zl_C]
      refine zb_c (fun e2 => take (by unfold z_fit; rw [e, e2]; rfl) _ S2 g2 hz.sr) (fun e2 => ?_)
      have hf : z_fit Z t = true := by unfold z_fit; rw [e, e2]; rfl
      have := l_drop_L19 (K := K) (Q := Q) hM hT hB h1 h2 r (pre ++ [t]) w n ls _ S2 g2 hz.sr hk (by rw [el, List.append_assoc]; rfl) hw' (fun L4 S4 g4 z4 => by
        have eu : z_un (z_fit Z) (t :: r) = z_un (z_fit Z) r := by
          unfold z_un
          rw [List.filter_cons_of_neg (by rw [hf]; decide)]
        have := k L4 S4 g4 (by rw [List.filter_cons_of_pos hf]; rw [List.append_assoc] at z4; exact z4)
        rw [eu] at this
        exact this)
      rw [List.length_append] at this
      rw [nI_1]
      exact this
/-- all days from j on are gone through -/
def lz_fl (Z : zZ) (d : Nat) : Nat → List Nat := fun i => if Z 20 0 ≤ i ∧ i < d then (z_day Z i).filter (z_fit Z) else z_day Z i
def zDr (Z : zZ) : zZ := up (Zl Z (lz_fl Z 61)) 23 0 (Z 23 0 + z_cnt Z (Z 20 0) (61 - Z 20 0))
theorem lz_fl_ok (hP : z_P Z) (d : Nat) : lz_ok Z (lz_fl Z d) := by
  intro i h1 h2
  have hp := hP i h2
  rw [← z_day_len Z] at hp
  unfold lz_fl
  split
  · exact ⟨Nat.le_trans (List.length_filter_le _ _) hp.1, fun t ht => hp.2 t (List.mem_filter.mp ht).1⟩
  · exact hp
theorem lz_fl_s {j : Nat} (h : Z 20 0 ≤ j) : sl (lz_fl Z j) j ((z_day Z j).filter (z_fit Z)) = lz_fl Z (j + 1) := by
  funext i
  unfold sl lz_fl
  by_cases a : i = j
  · rw [if_pos a, if_pos (by omega), a]
  · rw [if_neg a]
    by_cases b : Z 20 0 ≤ i ∧ i < j
    · rw [if_pos b, if_pos (by omega)]
    · rw [if_neg b, if_neg (by omega)]
theorem z_dr_D (hP : z_P Z) (h20 : Z 20 0 ≤ 60) : z_dr Z (zDr Z) := by
  have dy : ∀ d, d ≤ 60 → z_day (zDr Z) d = lz_fl Z 61 d := fun d hd => by
    have : (lz_fl Z 61 d).length ≤ 4 := by
      have hp := (hP d hd).1
      rw [← z_day_len Z] at hp
      unfold lz_fl
      split
      · exact Nat.le_trans (List.length_filter_le _ _) hp
      · exact hp
    unfold zDr
    rw [z_up_day (by decide) (by decide)]
    exact Zl_day (Z := Z) (ls := lz_fl Z 61) this
  refine ⟨fun f hf => ?_, ?_, fun d hd => ?_, fun d h1 h2 => ?_⟩
  · simp only [List.mem_cons, List.not_mem_nil, or_false, not_or] at hf
    unfold zDr
    rw [up_f (by omega), Zl_f (by omega) (by omega)]
  · unfold zDr
    rw [up_s, nI_add]
  · rw [dy d (by omega)]
    unfold lz_fl
    rw [if_neg (by omega)]
  · rw [dy d h2]
    unfold lz_fl
    rw [if_pos (by omega)]
theorem LZ.zl {L : zZ} (hz : LZ L Z) (hP : z_P Z) : LZ L (Zl Z (z_day Z)) := by
  refine ⟨hz.M, hz.T, fun i h1 h2 => ?_, hz.W, hz.B, hz.D, hz.E, hz.X, hz.Y, hz.G, hz.R, hz.C⟩
  have hp := (hP i h2).1
  rw [← z_day_len Z] at hp
  show L 2 i = lpd (z_day (Zl Z (z_day Z)) i)
  rw [Zl_day hp]
  exact hz.P i h1 h2
theorem l_drop_L9 {K : Nat → Int32 → zS → Prop} {Q : Int32 → zS → Prop} (hM : z_M Z) (hT : z_TT Z) (hB : z_B Z) (hP : z_P Z) (h20 : Z 20 0 ≤ 60)
    (k : ∀ L' S', RA aa L' S' → LZ L' (Zl Z (lz_fl Z 61)) → K (aa 10) (nI (z_cnt Z (Z 20 0) (61 - Z 20 0))) S') :
    ∀ (w j : Nat) (L : zZ) (S : zS), RA aa L S → LZ L (Zl Z (lz_fl Z (Z 20 0 + j))) → Z 20 0 + j ≤ 61 → 61 < Z 20 0 + j + w → p_L_drop_L9 E K Q X w (aa 0) (aa 1) (aa 2) (aa 4) (aa 9) (aa 10) (nI (z_cnt Z (Z 20 0) j)) (nI (Z 20 0 + j)) S
  | 0, j, L, S, h, hz, h1, h2 => by omega
  | w + 1, j, L, S, h, hz, h1, h2 => by
    refine pk_le 61 (Z 20 0 + j) (fun h5 => ?_) (fun h5 => ⟨6, ?_⟩)
    · have e : Z 20 0 + j = 61 := by omega
      rw [e] at hz
      have e2 : j = 61 - Z 20 0 := by omega
      subst e2
      exact k L S h hz
    · have ed : lz_fl Z (Z 20 0 + j) (Z 20 0 + j) = z_day Z (Z 20 0 + j) := if_neg (by omega)
      have hp := (hP (Z 20 0 + j) (by omega)).1
      rw [← z_day_len Z] at hp
      refine l_drop_L19 hM hT hB (d := Z 20 0 + j) (by omega) (by omega) (z_day Z (Z 20 0 + j)) [] 6 (z_cnt Z (Z 20 0) j) (lz_fl Z (Z 20 0 + j)) L S h hz (lz_fl_ok hP _) ed (by omega) (fun L2 S2 g2 z2 => ?_)
      rw [List.nil_append, lz_fl_s (by omega)] at z2
      rw [nI_1]
      exact l_drop_L9 hM hT hB hP h20 k w (j + 1) L2 S2 g2 z2 (by omega) (by omega)
theorem l_drop {Q : Int32 → zS → Prop} (h : RA aa L S) (hz : LZ L Z) (hM : z_M Z) (hT : z_TT Z) (hB : z_B Z) (hP : z_P Z) (h20 : Z 20 0 ≤ 60)
    (k : ∀ L' S', RA aa L' S' → LZ L' (zDr Z) → Q (nI (z_cnt Z (Z 20 0) (61 - Z 20 0))) S') : p_L_drop E (aa 0) (aa 1) (aa 2) (aa 4) (aa 9) (aa 10) S Q X := by
  have e2 : L 10 2 = Z 20 0 := hz.G.1
  refine ⟨h.o 10, h.i0 10 2, 62, ?_⟩
  rw [h.a 10, e2]
  have h0 : LZ L (Zl Z (lz_fl Z (Z 20 0 + 0))) := by
    have : lz_fl Z (Z 20 0 + 0) = z_day Z := funext fun i => if_neg (by omega)
    rw [this]
    exact hz.zl hP
  refine l_drop_L9 hM hT hB hP h20 ?_ 62 0 L S h h0 (by omega) (by omega)
  intro L' S' g z
  refine ⟨g.o 10, g.i0 10 3, g.i0 10 3, ?_⟩
  rw [g.a 10, nI_add]
  refine g.wA 10 3 _ rfl (fun S2 g2 => k _ S2 g2 ?_)
  obtain ⟨a1, a2, a3, a4, a5, a6, a7, a8, a9, a10, a11, a12⟩ := z
  refine ⟨a1, a2, a3, a4, a5, a6, a7, a8, a9, ⟨a10.1, ?_, a10.2.2⟩, a11.cg (fun i hi => up_i (by omega)), a12⟩
  have e3 : nI (L' 10 3) = nI (Z 23 0) := a10.2.1
  show nI (up L' 10 3 _ 10 3) = nI (zDr Z 23 0)
  unfold zDr
  rw [up_s, up_s, ← nI_add, ← nI_add, e3]
end LX
