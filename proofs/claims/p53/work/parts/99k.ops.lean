/-! what a call changes, in the law's arrays and in the loft -/
theorem ne_i {a n : Nat} (h : n ≤ a) (ha : a < 2 ^ 31) : ∀ i, i < n → nI a ≠ nI i := fun i hi e => by
  have := (nI_eq ha (by omega)).mp e
  omega
theorem ne_m {n : Nat} {c : Int32} (hc : c < 0) (hn : n ≤ 2 ^ 31) : ∀ i, i < n → c ≠ nI i := fun i hi e => by
  rw [e, Int32.lt_iff_toInt_lt, nI_toInt (by omega)] at hc
  have : (0 : Int32).toInt = 0 := by decide
  omega
theorem ne_r {a lo hi : Nat} (h : a < lo ∨ hi < a) (ha : a < 2 ^ 31) (hh : hi < 2 ^ 31) : ∀ j, lo ≤ j → j ≤ hi → nI a ≠ nI j := fun i h1 h2 e => by
  have := (nI_eq ha (by omega)).mp e
  omega
theorem ne_rm {lo hi : Nat} {c : Int32} (hc : c < 0) (hh : hi < 2 ^ 31) : ∀ j, lo ≤ j → j ≤ hi → c ≠ nI j := fun i _ h2 e => by
  rw [e, Int32.lt_iff_toInt_lt, nI_toInt (by omega)] at hc
  have : (0 : Int32).toInt = 0 := by decide
  omega
theorem py {a : Int32} {A B : Prop} (q : B) : ((¬ a = a) → A) ∧ ((a = a) → B) := ⟨fun x => absurd rfl x, fun _ => q⟩
theorem py' {a : Int32} {A B : Prop} (q : B) : ((a = a) → B) ∧ ((¬ a = a) → A) := ⟨fun _ => q, fun x => absurd rfl x⟩
theorem pk7 (d : Nat → Nat) : pk_b 64 d 7 = d 0 + 64 * d 1 + 4096 * d 2 + 262144 * d 3 + 16777216 * d 4 + 1073741824 * d 5 + 68719476736 * d 6 := by
  simp only [pk_b]
  omega
section LO
variable {L Z : zZ}
theorem LZ.change {v a b : Nat} (hz : LZ L Z) (h4 : Z 1 0 < 4) (ea : a = L 10 23 + 64 ^ Z 1 0 * v) (eb : b = L 10 22 + 1) : LZ (up (up L 10 23 a) 10 22 b) (up (up Z 2 (Z 1 0) v) 1 0 (Z 1 0 + 1)) := by
  obtain ⟨c1, c2, c3, c4, c5, c6⟩ := hz.C
  refine ⟨hz.M, hz.T, hz.P, hz.W, hz.B, hz.D, hz.E, hz.X, hz.Y, hz.G, hz.R.cg (fun i hi => by rw [up_i (by omega), up_i (by omega)]), ⟨?_, ?_, ?_, c4, c5, c6⟩⟩
  · show b = Z 1 0 + 1
    rw [eb, c1]
  · show Z 1 0 + 1 ≤ 4
    omega
  · show a = pk_b 64 (up Z 2 (Z 1 0) v 2) (Z 1 0 + 1)
    rw [ea, c3]
    show _ = pk_b 64 (up Z 2 (Z 1 0) v 2) (Z 1 0) + 64 ^ Z 1 0 * up Z 2 (Z 1 0) v 2 (Z 1 0)
    rw [up_s, pk_b_congr (f := up Z 2 (Z 1 0) v 2) (g := Z 2) (fun p hp => up_i (by omega))]
theorem LZ.dropCh {a b : Nat} (hz : LZ L Z) (ea : a = 0) (eb : b = 0) : LZ (up (up L 10 22 a) 10 23 b) (up Z 1 0 0) := by
  obtain ⟨c1, c2, c3, c4, c5, c6⟩ := hz.C
  exact ⟨hz.M, hz.T, hz.P, hz.W, hz.B, hz.D, hz.E, hz.X, hz.Y, hz.G, hz.R.cg (fun i hi => by rw [up_i (by omega), up_i (by omega)]), ⟨ea, Nat.zero_le _, eb, c4, c5, c6⟩⟩
def zMeth (Z : zZ) (n : Nat) : zZ := fun f i => if f = 1 ∧ i = 0 then 0 else if f = 3 ∧ i = 0 then Z 3 0 + 1 else if f = 4 ∧ i = Z 3 0 then n else if f = 5 ∧ i = Z 3 0 then Z 1 0 else if f = 6 ∧ 12 * Z 3 0 ≤ i then Z 2 (i - 12 * Z 3 0) else if f = 7 ∧ 2 * Z 3 0 ≤ i then Z 2 (Z 1 0 - 1) else Z f i
theorem zMeth_f {n f : Nat} (h : f ∉ [1, 3, 4, 5, 6, 7]) : zMeth Z n f = Z f := by
  simp only [List.mem_cons, List.not_mem_nil, or_false, not_or] at h
  funext i
  unfold zMeth
  rw [if_neg (by omega), if_neg (by omega), if_neg (by omega), if_neg (by omega), if_neg (by omega), if_neg (by omega)]
theorem zMeth_4 {n i : Nat} : zMeth Z n 4 i = if i = Z 3 0 then n else Z 4 i := by
  unfold zMeth
  simp
theorem zMeth_5 {n i : Nat} : zMeth Z n 5 i = if i = Z 3 0 then Z 1 0 else Z 5 i := by
  unfold zMeth
  simp
theorem zMeth_6 {n i : Nat} : zMeth Z n 6 i = if 12 * Z 3 0 ≤ i then Z 2 (i - 12 * Z 3 0) else Z 6 i := by
  unfold zMeth
  simp
theorem zMeth_7 {n i : Nat} : zMeth Z n 7 i = if 2 * Z 3 0 ≤ i then Z 2 (Z 1 0 - 1) else Z 7 i := by
  unfold zMeth
  simp
theorem zMeth_tm {n : Nat} : z_tm Z (zMeth Z n) n := by
  refine ⟨fun f hf => zMeth_f (fun e => hf (List.mem_cons_of_mem _ e)), rfl, rfl, fun i hi => ⟨?_, ?_⟩, ?_, ?_, fun x hx => ?_, fun k hk => ?_, fun x hx => ?_, ?_, ?_⟩
  · rw [zMeth_4, if_neg (by omega)]
  · rw [zMeth_5, if_neg (by omega)]
  · rw [zMeth_4, if_pos rfl]
  · rw [zMeth_5, if_pos rfl]
  · rw [zMeth_6, if_neg (by omega)]
  · rw [zMeth_6, if_pos (by omega), Nat.add_sub_cancel_left]
  · rw [zMeth_7, if_neg (by omega)]
  · rw [zMeth_7, if_pos (by omega)]
  · rw [zMeth_7, if_pos (by omega)]
theorem lz_md_new {n : Nat} (h4 : Z 1 0 ≤ 4) : pk_b 64 (lz_md (zMeth Z n 4) (zMeth Z n 5) (zMeth Z n 6) (zMeth Z n 7) (Z 3 0)) 7 = n + 8 * Z 1 0 + 64 * pk_b 64 (Z 2) (Z 1 0) + 2 ^ 30 * Z 2 (Z 1 0 - 1) + 2 ^ 36 * Z 2 (Z 1 0 - 1) := by
  have d0 : lz_md (zMeth Z n 4) (zMeth Z n 5) (zMeth Z n 6) (zMeth Z n 7) (Z 3 0) 0 = n + 8 * Z 1 0 := by
    unfold lz_md
    rw [if_pos rfl, zMeth_4, if_pos rfl, zMeth_5, if_pos rfl]
  have dk : ∀ k, k < 4 → lz_md (zMeth Z n 4) (zMeth Z n 5) (zMeth Z n 6) (zMeth Z n 7) (Z 3 0) (k + 1) = if k < Z 1 0 then Z 2 k else 0 := by
    intro k hk
    unfold lz_md
    rw [if_neg (by omega), if_pos (by omega), zMeth_5, if_pos rfl, Nat.add_sub_cancel, zMeth_6, Nat.add_sub_cancel_left, if_pos (show 12 * Z 3 0 ≤ 12 * Z 3 0 + k by omega)]
  have d5 : ∀ k, k < 2 → lz_md (zMeth Z n 4) (zMeth Z n 5) (zMeth Z n 6) (zMeth Z n 7) (Z 3 0) (k + 5) = Z 2 (Z 1 0 - 1) := by
    intro k hk
    unfold lz_md
    rw [if_neg (by omega), if_neg (by omega), zMeth_7, if_pos (by omega)]
  rw [pk7, d0, dk 0 (by decide), dk 1 (by decide), dk 2 (by decide), dk 3 (by decide), d5 0 (by decide), d5 1 (by decide)]
  generalize Z 1 0 = q at h4 ⊢
  match q, h4 with
  | 0, _ => simp [pk_b] <;> omega
  | 1, _ => simp [pk_b] <;> omega
  | 2, _ => simp [pk_b] <;> omega
  | 3, _ => simp [pk_b] <;> omega
  | 4, _ => simp [pk_b] <;> omega
  | q + 5, h => omega
theorem lz_md_cg {z4 z5 z6 z7 y4 y5 y6 y7 : Nat → Nat} {i : Nat} (e4 : y4 i = z4 i) (e5 : y5 i = z5 i) (h5 : z5 i ≤ 4) (e6 : ∀ k, k < 4 → y6 (12 * i + k) = z6 (12 * i + k)) (e7 : ∀ c, c < 2 → y7 (2 * i + c) = z7 (2 * i + c)) : pk_b 64 (lz_md y4 y5 y6 y7 i) 7 = pk_b 64 (lz_md z4 z5 z6 z7 i) 7 := by
  refine pk_b_congr (fun k hk => ?_)
  unfold lz_md
  rw [e4, e5]
  by_cases a : k = 0
  · rw [if_pos a, if_pos a]
  · rw [if_neg a, if_neg a]
    by_cases b : k < 5
    · rw [if_pos b, if_pos b, e6 _ (by omega)]
    · rw [if_neg b, if_neg b, e7 _ (by omega)]
theorem LZ.meth {n mv a b c : Nat} (hz : LZ L Z) (h3 : Z 3 0 < 3) (em : mv = n + 8 * Z 1 0 + 64 * pk_b 64 (Z 2) (Z 1 0) + 2 ^ 30 * Z 2 (Z 1 0 - 1) + 2 ^ 36 * Z 2 (Z 1 0 - 1)) (ea : a = Z 3 0 + 1) (eb : b = 0) (ec : c = 0) : LZ (up (up (up (up L 0 (Z 3 0) mv) 10 0 a) 10 22 b) 10 23 c) (zMeth Z n) := by
  obtain ⟨c1, c2, c3, c4, c5, c6⟩ := hz.C
  have h4 := c2
  refine ⟨⟨ea, (by show Z 3 0 + 1 ≤ 3; omega), fun i hi => ?_⟩, hz.T, hz.P, hz.W, hz.B, hz.D, hz.E, hz.X, hz.Y, hz.G, hz.R.cg (fun i hi => by rw [up_i (by omega), up_i (by omega), up_i (by omega), up_f (by decide)]), ⟨eb, Nat.zero_le _, ec, c4, c5, c6⟩⟩
  have hi' : i < Z 3 0 + 1 := hi
  show zMeth Z n 5 i ≤ 4 ∧ up L 0 (Z 3 0) mv 0 i = _
  by_cases e : i = Z 3 0
  · subst e
    rw [zMeth_5, if_pos rfl, up_s]
    exact ⟨h4, em.trans (lz_md_new h4).symm⟩
  · have m := hz.M.2.2 i (by omega)
    rw [zMeth_5, if_neg e, up_i e, m.2]
    refine ⟨m.1, (lz_md_cg (by rw [zMeth_4, if_neg e]) (by rw [zMeth_5, if_neg e]) m.1 (fun k hk => ?_) (fun k hk => ?_)).symm⟩
    · rw [zMeth_6, if_neg (by omega)]
    · rw [zMeth_7, if_neg (by omega)]
theorem LZ.call {i c v mv : Nat} (hz : LZ L Z) (hi : i < Z 3 0) (c1 : 1 ≤ c) (c2 : c ≤ 2) (em : mv = pk_b 64 (lz_md (Z 4) (Z 5) (Z 6) (up Z 7 (2 * i + c - 1) v 7) i) 7) : LZ (up L 0 i mv) (up Z 7 (2 * i + c - 1) v) := by
  refine ⟨⟨hz.M.1, hz.M.2.1, fun j hj => ?_⟩, hz.T, hz.P, hz.W, hz.B, hz.D, hz.E, hz.X, hz.Y, hz.G, hz.R, hz.C⟩
  have m := hz.M.2.2 j hj
  refine ⟨m.1, ?_⟩
  show up L 0 i mv 0 j = pk_b 64 (lz_md (Z 4) (Z 5) (Z 6) (up Z 7 (2 * i + c - 1) v 7) j) 7
  by_cases e : j = i
  · subst e
    rw [up_s]
    exact em
  · rw [up_i e, m.2]
    exact (lz_md_cg rfl rfl m.1 (fun _ _ => rfl) (fun k hk => up_i (by omega))).symm
theorem LZ.lead {w a b : Nat} (hz : LZ L Z) (h4 : Z 8 0 < 4) (ea : a = L 10 25 + 16 ^ Z 8 0 * (w / 3 + 4 * (w % 3))) (eb : b = L 10 24 + 1) : LZ (up (up L 10 25 a) 10 24 b) (up (up Z 9 (Z 8 0) w) 8 0 (Z 8 0 + 1)) := by
  obtain ⟨c1, c2, c3, c4, c5, c6⟩ := hz.C
  refine ⟨hz.M, hz.T, hz.P, hz.W, hz.B, hz.D, hz.E, hz.X, hz.Y, hz.G, hz.R.cg (fun i hi => by rw [up_i (by omega), up_i (by omega)]), ⟨c1, c2, c3, ?_, ?_, ?_⟩⟩
  · show b = Z 8 0 + 1
    rw [eb, c4]
  · show Z 8 0 + 1 ≤ 4
    omega
  · show a = pk_b 16 (fun k => up Z 9 (Z 8 0) w 9 k / 3 + 4 * (up Z 9 (Z 8 0) w 9 k % 3)) (Z 8 0 + 1)
    rw [ea, c6]
    show _ = pk_b 16 (fun k => up Z 9 (Z 8 0) w 9 k / 3 + 4 * (up Z 9 (Z 8 0) w 9 k % 3)) (Z 8 0) + 16 ^ Z 8 0 * (up Z 9 (Z 8 0) w 9 (Z 8 0) / 3 + 4 * (up Z 9 (Z 8 0) w 9 (Z 8 0) % 3))
    rw [up_s, pk_b_congr (f := fun k => up Z 9 (Z 8 0) w 9 k / 3 + 4 * (up Z 9 (Z 8 0) w 9 k % 3)) (g := fun k => Z 9 k / 3 + 4 * (Z 9 k % 3)) (fun p hp => by rw [up_i (by omega)])]
theorem LZ.dropLe {a b : Nat} (hz : LZ L Z) (ea : a = 0) (eb : b = 0) : LZ (up (up L 10 24 a) 10 25 b) (up Z 8 0 0) := by
  obtain ⟨c1, c2, c3, c4, c5, c6⟩ := hz.C
  exact ⟨hz.M, hz.T, hz.P, hz.W, hz.B, hz.D, hz.E, hz.X, hz.Y, hz.G, hz.R.cg (fun i hi => by rw [up_i (by omega), up_i (by omega)]), ⟨c1, c2, c3, ea, Nat.zero_le _, eb⟩⟩
def zTa (Z : zZ) (q : Nat) (g : Nat → Nat) : zZ := fun f i => if f = 10 ∧ i = 0 then Z 10 0 + 1 else if f = 11 ∧ i = Z 10 0 then q else if f = 12 ∧ 20 * Z 10 0 ≤ i then g (i - 20 * Z 10 0) else Z f i
theorem zTa_11 {q i : Nat} {g : Nat → Nat} : zTa Z q g 11 i = if i = Z 10 0 then q else Z 11 i := by
  unfold zTa
  simp
theorem zTa_12 {q i : Nat} {g : Nat → Nat} : zTa Z q g 12 i = if 20 * Z 10 0 ≤ i then g (i - 20 * Z 10 0) else Z 12 i := by
  unfold zTa
  simp
theorem zTa_ta {q : Nat} {g : Nat → Nat} : z_ta Z (zTa Z q g) q g := by
  refine ⟨fun f hf => ?_, rfl, fun t ht => ?_, ?_, fun x hx => ?_, fun k hk => ?_⟩
  · simp only [List.mem_cons, List.not_mem_nil, or_false, not_or] at hf
    funext i
    unfold zTa
    rw [if_neg (by omega), if_neg (by omega), if_neg (by omega)]
  · rw [zTa_11, if_neg (by omega)]
  · rw [zTa_11, if_pos rfl]
  · rw [zTa_12, if_neg (by omega)]
  · rw [zTa_12, if_pos (by omega), Nat.add_sub_cancel_left]
theorem z_ta_8 {Z' : zZ} {q : Nat} {g : Nat → Nat} (h : z_ta Z Z' q g) (v : Nat) : z_ta Z (up Z' 8 0 v) q g :=
  ⟨fun f hf => by rw [up_f (fun e => hf (by rw [e]; decide))]; exact h.1 f hf, h.2.1, h.2.2.1, h.2.2.2.1, h.2.2.2.2.1, h.2.2.2.2.2⟩
theorem LZ.ta {q tv a : Nat} {g : Nat → Nat} (hz : LZ L Z) (h10 : Z 10 0 < 4) (hq : q ≤ 4) (et : tv = q + 8 * pk_b 16 (fun k => g k / 3 + 4 * (g k % 3)) q) (ea : a = L 10 1 + 1) : LZ (up (up L 1 (Z 10 0) tv) 10 1 a) (zTa Z q g) := by
  refine ⟨hz.M, ⟨?_, (by show Z 10 0 + 1 ≤ 4; omega), fun i hi => ?_⟩, hz.P, hz.W, hz.B, hz.D, hz.E, hz.X, hz.Y, hz.G, hz.R.cg (fun i hi => by rw [up_i (by omega), up_f (by decide)]), hz.C⟩
  · show a = Z 10 0 + 1
    rw [ea, hz.T.1]
  · have hi' : i < Z 10 0 + 1 := hi
    show zTa Z q g 11 i ≤ 4 ∧ up L 1 (Z 10 0) tv 1 i = zTa Z q g 11 i + 8 * pk_b 16 (fun k => zTa Z q g 12 (20 * i + k) / 3 + 4 * (zTa Z q g 12 (20 * i + k) % 3)) (zTa Z q g 11 i)
    by_cases e : i = Z 10 0
    · subst e
      rw [zTa_11, if_pos rfl, up_s, et, pk_b_congr (f := fun k => zTa Z q g 12 (20 * Z 10 0 + k) / 3 + 4 * (zTa Z q g 12 (20 * Z 10 0 + k) % 3)) (g := fun k => g k / 3 + 4 * (g k % 3)) (fun p hp => by rw [zTa_12, if_pos (by omega), Nat.add_sub_cancel_left])]
      exact ⟨hq, rfl⟩
    · have m := hz.T.2.2 i (by omega)
      rw [zTa_11, if_neg e, up_i e, m.2, pk_b_congr (f := fun k => zTa Z q g 12 (20 * i + k) / 3 + 4 * (zTa Z q g 12 (20 * i + k) % 3)) (g := fun k => Z 12 (20 * i + k) / 3 + 4 * (Z 12 (20 * i + k) % 3)) (fun p hp => by rw [zTa_12, if_neg (by omega)])]
      exact ⟨m.1, rfl⟩
end LO
