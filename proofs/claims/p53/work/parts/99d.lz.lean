/-! what the law's arrays say of the loft -/
def lz_md (z4 z5 z6 z7 : Nat → Nat) (i k : Nat) : Nat := if k = 0 then z4 i + 8 * z5 i else if k < 5 then (if k - 1 < z5 i then z6 (12 * i + (k - 1)) else 0) else z7 (2 * i + (k - 5))
def q_M (m : Nat → Nat) (g0 : Nat) (z3 z4 z5 z6 z7 : Nat → Nat) : Prop := g0 = z3 0 ∧ z3 0 ≤ 3 ∧ ∀ i, i < z3 0 → z5 i ≤ 4 ∧ m i = pk_b 64 (lz_md z4 z5 z6 z7 i) 7
def lz_tk (mm cc : Nat → Nat) (k : Nat) : Nat := mm k + 4 * cc k
def q_T (t : Nat → Nat) (g1 : Nat) (z10 z11 z12 : Nat → Nat) : Prop := g1 = z10 0 ∧ z10 0 ≤ 4 ∧ ∀ i, i < z10 0 → z11 i ≤ 4 ∧ t i = z11 i + 8 * pk_b 16 (fun k => z12 (20 * i + k) / 3 + 4 * (z12 (20 * i + k) % 3)) (z11 i)
def lp : List Nat → Nat
  | [] => 0
  | a :: l => a + 4 * lp l
def lpd (l : List Nat) : Nat := l.length + 8 * lp l
def lz_day (z21 z22 : Nat → Nat) (d : Nat) : List Nat := (List.range (z21 d)).map (fun k => z22 (4 * d + k))
def q_P (p : Nat → Nat) (z20 z21 z22 : Nat → Nat) : Prop := ∀ d, z20 0 ≤ d → d ≤ 60 → p d = lpd (lz_day z21 z22 d)
def q_W (w z17 : Nat → Nat) : Prop := ∀ i, i < 12 → w i = z17 i
def q_B (b z18 z19 : Nat → Nat) : Prop := ∀ i, i < 6 → b i = z19 i + 2 * z18 i + 4 * z18 (6 + i)
def q_D (z z24 : Nat → Nat) : Prop := ∀ i, i < 4 → z i = z24 i
def q_E (e z36 z37 : Nat → Nat) : Prop := ∀ i, i < 6 → e i = z36 i ∧ e (6 + i) = z37 i
def q_X (x z38 : Nat → Nat) : Prop := ∀ i, i < 6 → nI (x i) = nI (z38 i)
def q_Y (y z35 : Nat → Nat) : Prop := ∀ b q, b < 6 → q < 8 → y (8 * b + q) = z35 (240 * b + 2 * q) + 2 ^ 32 * z35 (240 * b + 2 * q + 1)
def q_G (g2 g3 g4 g5 g12 g13 g14 g15 : Nat) (z20 z23 z25 z26 z33 z39 z40 z41 : Nat → Nat) : Prop := g2 = z20 0 ∧ nI g3 = nI (z23 0) ∧ g4 = z25 0 ∧ ((g5 = 0 ∧ nI (z26 0) = -1) ∨ (g5 = z26 0 + 1 ∧ z26 0 < 4)) ∧ g12 = z33 0 ∧ nI g13 = nI (z39 0) ∧ nI g14 = nI (z40 0) ∧ ((g15 = 0 ∧ nI (z41 0) = -1) ∨ (g15 = z41 0 + 1 ∧ z41 0 < 12))
def q_R (g : Nat → Nat) (z27 z28 z29 z30 z31 z32 z34 : Nat → Nat) : Prop := g 6 = z27 0 ∧ g 10 = z31 0 ∧ (z27 0 = 1 → g 7 = z28 0 ∧ g 8 = z29 0 ∧ g 9 = z30 0 ∧ g 11 = z32 0 ∧ ∀ b, b < 6 → g (16 + b) = z34 b)
def q_C (g22 g23 g24 g25 : Nat) (z1 z2 z8 z9 : Nat → Nat) : Prop := g22 = z1 0 ∧ z1 0 ≤ 4 ∧ g23 = pk_b 64 z2 (z1 0) ∧ g24 = z8 0 ∧ z8 0 ≤ 4 ∧ g25 = pk_b 16 (fun k => z9 k / 3 + 4 * (z9 k % 3)) (z8 0)
def LZ (L Z : zZ) : Prop := q_M (L 0) (L 10 0) (Z 3) (Z 4) (Z 5) (Z 6) (Z 7) ∧ q_T (L 1) (L 10 1) (Z 10) (Z 11) (Z 12) ∧ q_P (L 2) (Z 20) (Z 21) (Z 22) ∧ q_W (L 3) (Z 17) ∧ q_B (L 4) (Z 18) (Z 19) ∧ q_D (L 5) (Z 24) ∧ q_E (L 6) (Z 36) (Z 37) ∧ q_X (L 7) (Z 38) ∧ q_Y (L 8) (Z 35) ∧ q_G (L 10 2) (L 10 3) (L 10 4) (L 10 5) (L 10 12) (L 10 13) (L 10 14) (L 10 15) (Z 20) (Z 23) (Z 25) (Z 26) (Z 33) (Z 39) (Z 40) (Z 41) ∧ q_R (L 10) (Z 27) (Z 28) (Z 29) (Z 30) (Z 31) (Z 32) (Z 34) ∧ q_C (L 10 22) (L 10 23) (L 10 24) (L 10 25) (Z 1) (Z 2) (Z 8) (Z 9)
section LZs
variable {L Z : zZ}
theorem LZ.M (h : LZ L Z) : q_M (L 0) (L 10 0) (Z 3) (Z 4) (Z 5) (Z 6) (Z 7) := h.1
theorem LZ.T (h : LZ L Z) : q_T (L 1) (L 10 1) (Z 10) (Z 11) (Z 12) := h.2.1
theorem LZ.P (h : LZ L Z) : q_P (L 2) (Z 20) (Z 21) (Z 22) := h.2.2.1
theorem LZ.W (h : LZ L Z) : q_W (L 3) (Z 17) := h.2.2.2.1
theorem LZ.B (h : LZ L Z) : q_B (L 4) (Z 18) (Z 19) := h.2.2.2.2.1
theorem LZ.D (h : LZ L Z) : q_D (L 5) (Z 24) := h.2.2.2.2.2.1
theorem LZ.E (h : LZ L Z) : q_E (L 6) (Z 36) (Z 37) := h.2.2.2.2.2.2.1
theorem LZ.X (h : LZ L Z) : q_X (L 7) (Z 38) := h.2.2.2.2.2.2.2.1
theorem LZ.Y (h : LZ L Z) : q_Y (L 8) (Z 35) := h.2.2.2.2.2.2.2.2.1
theorem LZ.G (h : LZ L Z) : q_G (L 10 2) (L 10 3) (L 10 4) (L 10 5) (L 10 12) (L 10 13) (L 10 14) (L 10 15) (Z 20) (Z 23) (Z 25) (Z 26) (Z 33) (Z 39) (Z 40) (Z 41) := h.2.2.2.2.2.2.2.2.2.1
theorem LZ.R (h : LZ L Z) : q_R (L 10) (Z 27) (Z 28) (Z 29) (Z 30) (Z 31) (Z 32) (Z 34) := h.2.2.2.2.2.2.2.2.2.2.1
theorem LZ.C (h : LZ L Z) : q_C (L 10 22) (L 10 23) (L 10 24) (L 10 25) (Z 1) (Z 2) (Z 8) (Z 9) := h.2.2.2.2.2.2.2.2.2.2.2
end LZs
theorem lz_day_z (Z : zZ) (d : Nat) : lz_day (Z 21) (Z 22) d = z_day Z d := rfl
/-! lists to the base 4 -/
theorem lp_lt : ∀ (l : List Nat), (∀ t, t ∈ l → t < 4) → lp l < 4 ^ l.length
  | [], _ => Nat.lt_of_lt_of_eq Nat.zero_lt_one rfl
  | a :: l, h => by
    have h1 := lp_lt l (fun t ht => h t (List.mem_cons_of_mem _ ht))
    have h2 := h a (List.mem_cons_self)
    show a + 4 * lp l < 4 ^ (l.length + 1)
    rw [Nat.pow_succ]
    omega
theorem lp_div : ∀ (l : List Nat), (∀ t, t ∈ l → t < 4) → ∀ k, lp l / 4 ^ k = lp (l.drop k)
  | l, h, 0 => by rw [Nat.pow_zero, Nat.div_one, List.drop_zero]
  | [], h, k + 1 => by rw [List.drop_nil]; exact Nat.zero_div _
  | a :: l, h, k + 1 => by
    have h2 := h a (List.mem_cons_self)
    show (a + 4 * lp l) / 4 ^ (k + 1) = lp (l.drop k)
    rw [Nat.pow_succ, Nat.mul_comm (4 ^ k) 4, ← Nat.div_div_eq_div_mul, show (a + 4 * lp l) / 4 = lp l by omega]
    exact lp_div l (fun t ht => h t (List.mem_cons_of_mem _ ht)) k
theorem lp_get {l : List Nat} (h : ∀ t, t ∈ l → t < 4) {k t : Nat} (e : l[k]? = some t) : lp l / 4 ^ k % 4 = t := by
  obtain ⟨hk, e2⟩ := List.getElem?_eq_some_iff.mp e
  have ht := h t (List.mem_of_getElem? e)
  rw [lp_div l h, List.drop_eq_getElem_cons hk, e2]
  show (t + 4 * lp (l.drop (k + 1))) % 4 = t
  omega
theorem lp_app : ∀ (l l' : List Nat), lp (l ++ l') = lp l + 4 ^ l.length * lp l'
  | [], l' => by simp [lp]
  | a :: l, l' => by
    show a + 4 * lp (l ++ l') = a + 4 * lp l + 4 ^ (l.length + 1) * lp l'
    rw [lp_app l l', Nat.pow_succ, Nat.mul_add, Nat.mul_right_comm, Nat.mul_comm (4 ^ l.length * _) 4]
    omega
theorem lp_mod : ∀ (l : List Nat), (∀ t, t ∈ l → t < 4) → ∀ k, lp l % 4 ^ k = lp (l.take k)
  | l, h, 0 => by rw [Nat.pow_zero, Nat.mod_one]; rfl
  | [], h, k + 1 => Nat.zero_mod _
  | a :: l, h, k + 1 => by
    have h2 := h a (List.mem_cons_self)
    have ih := lp_mod l (fun t ht => h t (List.mem_cons_of_mem _ ht)) k
    show (a + 4 * lp l) % 4 ^ (k + 1) = a + 4 * lp (l.take k)
    rw [Nat.pow_succ, Nat.mul_comm (4 ^ k) 4, Nat.mod_mul, ← ih, show (a + 4 * lp l) % 4 = a by omega, show (a + 4 * lp l) / 4 = lp l by omega]
theorem lp_erase {l : List Nat} (h : ∀ t, t ∈ l → t < 4) {k : Nat} (hk : k < l.length) : lp (l.eraseIdx k) = lp l % 4 ^ k + 4 ^ k * (lp l / 4 ^ (k + 1)) := by
  rw [List.eraseIdx_eq_take_drop_succ, lp_app, lp_mod l h, lp_div l h, List.length_take, Nat.min_eq_left (by omega)]
theorem lp_nil {l : List Nat} : lp [] = 0 := rfl
/-! digits of a method -/
section LD
variable {E : zE} {Z : zZ} {S : zS} {Q : Int32 → zS → Prop} {X : String → zS → Prop}
theorem lj_i {n : Nat} (h : n < 2 ^ 31) : (lN n).toInt32 = nI n := pu_32 (lj_toInt (by omega)) h
def lz_m (Z : zZ) (i : Nat) : Nat := pk_b 64 (lz_md (Z 4) (Z 5) (Z 6) (Z 7) i) 7
theorem isC_64 {n c : Nat} (hN : ro_N n) (h : ro_isC n c = true) : c < 64 := by
  obtain ⟨s0, _, _, _, hc64⟩ := ro_f0 hN h
  exact hc64
theorem lz_md_lt (hM : z_M Z) {i : Nat} (hi : i < Z 3 0) (h5 : Z 5 i ≤ 4) : ∀ k, k < 7 → lz_md (Z 4) (Z 5) (Z 6) (Z 7) i k < 64 := by
  intro k hk
  have h := hM.2 i hi
  have hn := ro_N6 h.1
  unfold lz_md
  split
  · omega
  · split
    · split
      · exact isC_64 h.1 (h.2.2.2.1 _ (by assumption))
      · omega
    · exact isC_64 h.1 (h.2.2.2.2 _ (by omega))
theorem lz_m_lt (hM : z_M Z) {i : Nat} (hi : i < Z 3 0) (h5 : Z 5 i ≤ 4) : lz_m Z i < 2 ^ 42 := pk_b_lt (by decide) (lz_md_lt hM hi h5)
theorem lz_m0 (hM : z_M Z) {i : Nat} (hi : i < Z 3 0) (h5 : Z 5 i ≤ 4) : lz_m Z i % 64 = Z 4 i + 8 * Z 5 i := by
  have := pk_b_at (by decide) (lz_md_lt hM hi h5) 0 (by decide)
  rw [Nat.pow_zero, Nat.div_one] at this
  exact this
theorem l_stageOf {i : Nat} (hM : z_M Z) (hi : i < Z 3 0) (h5 : Z 5 i ≤ 4) (k : Q (nI (Z 4 i)) S) : p_L_stageOf E (lN (lz_m Z i)) S Q X := by
  have h0 := lz_m0 hM hi h5
  have hl := lz_m_lt hM hi h5
  have hn := z_M_n hM hi
  unfold p_L_stageOf
  rw [lj_and (by omega) 3 (by decide), lj_i (by omega), show lz_m Z i % 2 ^ 3 = Z 4 i by omega]
  exact k
theorem l_size {i : Nat} (hM : z_M Z) (hi : i < Z 3 0) (h5 : Z 5 i ≤ 4) (k : Q (nI (Z 5 i)) S) : p_L_size E (lN (lz_m Z i)) S Q X := by
  have h0 := lz_m0 hM hi h5
  have hl := lz_m_lt hM hi h5
  have hn := z_M_n hM hi
  unfold p_L_size
  rw [show (3 : Int32) = nI 3 from rfl, lj_shr (by omega) (by decide), lj_and (by omega) 3 (by decide), lj_i (by omega), show lz_m Z i / 2 ^ 3 % 2 ^ 3 = Z 5 i by omega]
  exact k
theorem lz_dig {i q s : Nat} {x : Int32} (hM : z_M Z) (hi : i < Z 3 0) (h5 : Z 5 i ≤ 4) (hq : q < 7) (hs : s = 6 * q) (hx : x = nI s) : ((lN (lz_m Z i) >>> (x.toInt64 &&& 63)) &&& 63).toInt32 = nI (lz_md (Z 4) (Z 5) (Z 6) (Z 7) i q) := by
  subst hs
  subst hx
  have h0 := pk_b_at (by decide) (lz_md_lt hM hi h5) q hq
  have hl := lz_m_lt hM hi h5
  have hd := Nat.div_le_self (lz_m Z i) (2 ^ (6 * q))
  have hlt := lz_md_lt hM hi h5 q hq
  rw [lj_shr (by omega) (by omega), lj_and (by omega) 6 (by decide), Nat.pow_mul, show (2 ^ 6 : Nat) = 64 by decide]
  rw [show lz_m Z i / 64 ^ q % 64 = lz_md (Z 4) (Z 5) (Z 6) (Z 7) i q from h0, lj_i (by omega)]
theorem l_its {i c p : Nat} (hM : z_M Z) (hi : i < Z 3 0) (h5 : Z 5 i ≤ 4) (hc : c < 3) (hp : p < Z 5 i) (k : Q (nI (z_ch Z i c p)) S) : p_L_its E (lN (lz_m Z i)) (nI c) (nI p) S Q X := by
  have hn := z_M_n hM hi
  have g : ¬ (p = Z 5 i - 1 ∧ 0 < c) → Q (((lN (lz_m Z i) >>> (((6 + (6 * nI p)) : Int32).toInt64 &&& 63)) &&& 63)).toInt32 S := fun e => by
    rw [lz_dig hM hi h5 (q := p + 1) (by omega) rfl (by rw [show (6 : Int32) * nI p = nI (6 * p) from pk_mul 6 p, show (6 : Int32) + nI (6 * p) = nI (6 + 6 * p) from nI_add 6 _]; congr 1; omega)]
    unfold z_ch at k
    rw [if_neg e] at k
    unfold lz_md
    rw [if_neg (by omega), if_pos (by omega), if_pos (by omega), Nat.add_sub_cancel]
    exact k
  refine l_size hM hi h5 ?_
  rw [show (nI (Z 5 i) - 1 : Int32) = nI (Z 5 i - 1) from pk_sub (b := 1) (by omega), nI_eq (by omega) (by omega)]
  refine ⟨fun e => g (fun x => e x.1), fun e => pk_le c 0 (fun h => g (by omega)) (fun h => ?_)⟩
  rw [lz_dig hM hi h5 (q := 4 + c) (by omega) rfl (by rw [show (6 : Int32) * nI c = nI (6 * c) from pk_mul 6 c, show (24 : Int32) + nI (6 * c) = nI (24 + 6 * c) from nI_add 24 _]; congr 1; omega)]
  unfold z_ch at k
  rw [if_pos ⟨e, h⟩] at k
  unfold lz_md
  rw [if_neg (by omega), if_neg (by omega), show 2 * i + (4 + c - 5) = 2 * i + c - 1 by omega]
  exact k
theorem l_behind_L {K : Int32 → zS → Prop} {i c r : Nat} (hM : z_M Z) (hi : i < Z 3 0) (h5 : Z 5 i ≤ 4) (hc : c < 3) (hr : ro_V (Z 4 i) r) (k : K (nI (iv (Z 4 i) (ro_la (Z 4 i) r (z_lc Z i c)))) S) : ∀ (w j : Nat), j ≤ Z 5 i → Z 5 i < j + w → p_L_behind_L6 E K Q X w (lN (lz_m Z i)) (nI c) (nI (iv (Z 4 i) (ro_la (Z 4 i) r ((List.range j).map (z_ch Z i c))))) (nI j) S
  | 0, j, h1, h2 => by omega
  | w + 1, j, h1, h2 => by
    have hN := (hM.2 i hi).1
    refine l_size hM hi h5 (pk_le (Z 5 i) j (fun h => ?_) (fun h => ?_))
    · have : j = Z 5 i := by omega
      subst this
      exact k
    · have hC := z_M_ch hM hi hc h
      have hV := ro_la_V hN ((List.range j).map (z_ch Z i c)) r hr (fun x hx => by
        obtain ⟨k2, hk2, e6⟩ := List.mem_map.mp hx
        rw [← e6]
        exact z_M_ch hM hi hc (by have := List.mem_range.mp hk2; omega))
      refine l_stageOf hM hi h5 (l_its hM hi h5 hc h (l_changed hN hV hC (isC_64 hN hC) ?_))
      have ih := l_behind_L hM hi h5 hc hr k w (j + 1) (by omega) (by omega)
      rw [List.range_succ, List.map_append] at ih
      have e : ro_la (Z 4 i) r ((List.range j).map (z_ch Z i c) ++ [z_ch Z i c j]) = ro_af (Z 4 i) (z_ch Z i c j) (ro_la (Z 4 i) r ((List.range j).map (z_ch Z i c))) := ro_la_1 _ _ _ _
      rw [show ([j].map (z_ch Z i c)) = [z_ch Z i c j] from rfl, e] at ih
      rw [nI_1]
      exact ih
theorem l_behind {i c r : Nat} (hM : z_M Z) (hi : i < Z 3 0) (h5 : Z 5 i ≤ 4) (hc : c < 3) (hr : ro_V (Z 4 i) r) (k : Q (nI (iv (Z 4 i) (ro_la (Z 4 i) r (z_lc Z i c)))) S) : p_L_behind E (nI (iv (Z 4 i) r)) (lN (lz_m Z i)) (nI c) S Q X := ⟨5, l_behind_L hM hi h5 hc hr k 5 0 (Nat.zero_le _) (by omega)⟩
end LD
