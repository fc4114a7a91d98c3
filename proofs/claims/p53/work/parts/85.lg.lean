/-! long comparisons, the times of a pull -/
theorem lg_lt0 {x y : Int64} : lg_cmp x y < 0 ↔ x.toInt < y.toInt := by
  have h1 : x > y ↔ y.toInt < x.toInt := Int64.lt_iff_toInt_lt
  unfold lg_cmp
  by_cases a : x > y
  · rw [if_pos a]
    have := h1.mp a
    exact ⟨fun h => absurd h (by decide), fun h => by omega⟩
  · rw [if_neg a]
    have n1 : ¬ y.toInt < x.toInt := fun h => a (h1.mpr h)
    by_cases b : x = y
    · rw [if_pos b, b]
      exact ⟨fun h => absurd h (by decide), fun h => by omega⟩
    · rw [if_neg b]
      have n2 : x.toInt ≠ y.toInt := fun h => b (Int64.toInt_inj.mp h)
      exact ⟨fun _ => by omega, fun _ => by decide⟩
theorem lg_gt0 {x y : Int64} : 0 < lg_cmp x y ↔ y.toInt < x.toInt := by
  have h1 : x > y ↔ y.toInt < x.toInt := Int64.lt_iff_toInt_lt
  unfold lg_cmp
  by_cases a : x > y
  · rw [if_pos a]
    have := h1.mp a
    exact ⟨fun _ => this, fun _ => by decide⟩
  · rw [if_neg a]
    have n1 : ¬ y.toInt < x.toInt := fun h => a (h1.mpr h)
    refine ⟨fun h => ?_, fun h => absurd h n1⟩
    by_cases b : x = y
    · rw [if_pos b] at h
      exact absurd h (by decide)
    · rw [if_neg b] at h
      exact absurd h (by decide)
theorem lg_le0 {x y : Int64} : lg_cmp x y ≤ 0 ↔ x.toInt ≤ y.toInt := by
  have h1 : x > y ↔ y.toInt < x.toInt := Int64.lt_iff_toInt_lt
  unfold lg_cmp
  by_cases a : x > y
  · rw [if_pos a]
    have := h1.mp a
    exact ⟨fun h => absurd h (by decide), fun h => by omega⟩
  · rw [if_neg a]
    have n1 : ¬ y.toInt < x.toInt := fun h => a (h1.mpr h)
    refine ⟨fun _ => by omega, fun _ => ?_⟩
    by_cases b : x = y
    · rw [if_pos b]
      decide
    · rw [if_neg b]
      decide
theorem lg_eq0 {x y : Int64} : lg_cmp x y = 0 ↔ x.toInt = y.toInt := by
  unfold lg_cmp
  by_cases a : x > y
  · rw [if_pos a]
    have := Int64.lt_iff_toInt_lt.mp a
    exact ⟨fun h => absurd h (by decide), fun h => by omega⟩
  · rw [if_neg a]
    by_cases b : x = y
    · rw [if_pos b, b]
      exact ⟨fun _ => rfl, fun _ => rfl⟩
    · rw [if_neg b]
      exact ⟨fun h => absurd h (by decide), fun h => absurd (Int64.toInt_inj.mp h) b⟩
theorem lg_room {x : Int64} : lg_cmp x x.toInt32.toInt64 = 0 ↔ (¬ lg_cmp x (-2147483648) < 0 ∧ ¬ 0 < lg_cmp x 2147483647) := by
  rw [lg_eq0, lg_lt0, lg_gt0, show (-2147483648 : Int64).toInt = -2147483648 from by decide, show (2147483647 : Int64).toInt = 2147483647 from by decide, Int32.toInt_toInt64, Int64.toInt_toInt32]
  have := Int.bmod_lt (x := x.toInt) (m := 2 ^ 32) (by decide)
  have := Int.le_bmod (x := x.toInt) (m := 2 ^ 32) (by decide)
  constructor
  · intro h
    omega
  · intro h
    rw [Int.bmod_eq_of_le (by omega) (by omega)]
theorem nI_ex (x : Int32) : ∃ n : Nat, x = nI n := ⟨x.toBitVec.toNat, by
  apply Int32.toBitVec_inj.mp
  unfold nI
  simp⟩
theorem nI_n0 {n : Nat} (h : n < 2 ^ 31) : (0 : Int32) ≤ nI n := by
  rw [Int32.le_iff_toInt_le, nI_toInt h]
  have : (0 : Int32).toInt = 0 := by decide
  omega
/-- how late a pull is -/
theorem pu_e {t d : Nat} (ht : t < 2 ^ 31) (hd : d < 2 ^ 31) : (nI t - nI d).toInt = (t : Int) - d := by
  rw [Int32.toInt_sub, nI_toInt ht, nI_toInt hd]
  exact Int.bmod_eq_of_le (by omega) (by omega)
theorem pu_le {t d p : Nat} (ht : t < 2 ^ 31) (hd : d < 2 ^ 31) (hp : p < 2 ^ 31) : nI t - nI d ≤ nI p ↔ t ≤ d + p := by
  rw [Int32.le_iff_toInt_le, pu_e ht hd, nI_toInt hp]
  omega
theorem pu_nd {t d p : Nat} (h : d + p < t) : nI t - nI d - nI p = nI (t - d - p) := by
  rw [show nI t - nI d = nI (t - d) from pk_sub (by omega)]
  exact pk_sub (by omega)
theorem pu_dl {t d p l : Nat} (h : d + p < t) (hl : l ≤ 2000000000) (ht : t ≤ 2000000000) (hd : d < 2 ^ 31) (hp : p < 2 ^ 31) : ((nI l).toInt64 + (nI t - nI d).toInt64 - (nI p).toInt64).toInt = (l : Int) + t - d - p := by
  rw [Int64.toInt_sub, Int64.toInt_add, Int32.toInt_toInt64, Int32.toInt_toInt64, Int32.toInt_toInt64, nI_toInt (by omega), nI_toInt hp, pu_e (by omega) hd]
  rw [Int.bmod_eq_of_le (n := (l : Int) + (t - d)) (by omega) (by omega)]
  rw [Int.bmod_eq_of_le (by omega) (by omega)]
  omega
theorem pu_32 {x : Int64} {l : Nat} (h : x.toInt = l) (hl : l < 2 ^ 31) : x.toInt32 = nI l := by
  apply Int32.toInt_inj.mp
  rw [Int64.toInt_toInt32, h, nI_toInt hl, Int.bmod_eq_of_le (by omega) (by omega)]
theorem pu_add {a b : Int32} : (a.toInt64 + b.toInt64).toInt32 = a + b := by
  apply Int32.toInt_inj.mp
  rw [Int64.toInt_toInt32, Int64.toInt_add, Int32.toInt_add, Int32.toInt_toInt64, Int32.toInt_toInt64]
  have := Int32.toInt_lt a
  have := Int32.toInt_lt b
  have := Int32.le_toInt a
  have := Int32.le_toInt b
  rw [Int.bmod_eq_of_le (m := 2 ^ 64) (by omega) (by omega)]
