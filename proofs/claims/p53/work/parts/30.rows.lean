/-! rows as naturals: the bell at the place p is the digit p to the base 8 -/
def ro_bl (r p : Nat) : Nat := r / 8 ^ p % 8
def ro_pk (f : Nat → Nat) : Nat → Nat
  | 0 => 0
  | n + 1 => ro_pk f n + 8 ^ n * f n
theorem ro_bl_lt (r p : Nat) : ro_bl r p < 8 := Nat.mod_lt _ (by decide)
theorem ro_pk_lt {f : Nat → Nat} : ∀ {n : Nat}, (∀ p, p < n → f p < 8) → ro_pk f n < 8 ^ n
  | 0, _ => Nat.lt_of_lt_of_eq Nat.zero_lt_one rfl
  | n + 1, h => by
    have h1 := ro_pk_lt (f := f) (n := n) (fun p hp => h p (by omega))
    have h2 := h n (by omega)
    have h3 : 8 ^ n * f n ≤ 8 ^ n * 7 := Nat.mul_le_mul_left _ (by omega)
    show ro_pk f n + 8 ^ n * f n < 8 ^ (n + 1)
    rw [Nat.pow_succ]
    omega
theorem ro_bl_pk {f : Nat → Nat} : ∀ {n : Nat}, (∀ p, p < n → f p < 8) → ∀ q, q < n → ro_bl (ro_pk f n) q = f q
  | 0, _, q, hq => absurd hq (Nat.not_lt_zero q)
  | n + 1, h, q, hq => by
    have h0 := ro_pk_lt (f := f) (n := n) (fun p hp => h p (by omega))
    unfold ro_bl
    show (ro_pk f n + 8 ^ n * f n) / 8 ^ q % 8 = f q
    by_cases e : q = n
    · subst e
      rw [Nat.add_mul_div_left _ _ (Nat.pow_pos (by decide)), Nat.div_eq_of_lt h0, Nat.zero_add]
      exact Nat.mod_eq_of_lt (h q (by omega))
    · have h1 := ro_bl_pk (f := f) (n := n) (fun p hp => h p (by omega)) q (by omega)
      have e2 : n = q + (n - q - 1 + 1) := by omega
      have e3 : 8 ^ n * f n = 8 ^ q * (8 * (8 ^ (n - q - 1) * f n)) := by
        conv => lhs; rw [e2, Nat.pow_add, Nat.pow_succ]
        rw [Nat.mul_assoc, Nat.mul_comm (8 ^ (n - q - 1)) 8, Nat.mul_assoc]
        congr 2
        have : n - q - 1 + 1 = n - q := by omega
        first | rfl | (rw [show q + (n - q - 1 + 1) = n by omega])
      rw [e3, Nat.add_mul_div_left _ _ (Nat.pow_pos (by decide)), Nat.add_mul_mod_self_left]
      exact h1
theorem ro_pk_congr {f g : Nat → Nat} : ∀ {n : Nat}, (∀ p, p < n → f p = g p) → ro_pk f n = ro_pk g n
  | 0, _ => rfl
  | n + 1, h => by
    show ro_pk f n + 8 ^ n * f n = ro_pk g n + 8 ^ n * g n
    rw [ro_pk_congr (n := n) (fun p hp => h p (by omega)), h n (by omega)]
/-- a row of the stage n -/
def ro_V (n r : Nat) : Prop := r = ro_pk (ro_bl r) n ∧ (∀ p, p < n → ro_bl r p < n) ∧ ∀ p q, p < n → q < n → ro_bl r p = ro_bl r q → p = q
theorem ro_V_ext {n r s : Nat} (hr : ro_V n r) (hs : ro_V n s) (h : ∀ p, p < n → ro_bl r p = ro_bl s p) : r = s := by
  rw [hr.1, hs.1]
  exact ro_pk_congr h
theorem ro_V_pk {n : Nat} {f : Nat → Nat} (hn : n ≤ 8) (h1 : ∀ p, p < n → f p < n) (h2 : ∀ p q, p < n → q < n → f p = f q → p = q) : ro_V n (ro_pk f n) ∧ ∀ p, p < n → ro_bl (ro_pk f n) p = f p := by
  have h : ∀ p, p < n → ro_bl (ro_pk f n) p = f p := ro_bl_pk (fun p hp => Nat.lt_of_lt_of_le (h1 p hp) hn)
  refine ⟨⟨(ro_pk_congr h).symm, fun p hp => by rw [h p hp]; exact h1 p hp, fun p q hp hq e => ?_⟩, h⟩
  rw [h p hp, h q hq] at e
  exact h2 p q hp hq e
/-- all rows of a stage, one behind the other -/
def ro_en (n : Nat) (P : Nat → Bool) : Nat → List Nat → Nat → Bool
  | 0, _, a => P a
  | k + 1, us, a => (List.range n).all (fun b => us.contains b || ro_en n P k (b :: us) (a + 8 ^ us.length * b))
theorem ro_en_of {n : Nat} {P : Nat → Bool} {f : Nat → Nat} (h1 : ∀ p, p < n → f p < n) (h2 : ∀ p q, p < n → q < n → f p = f q → p = q) : ∀ (k : Nat) (us : List Nat) (p : Nat), p + k = n → us.length = p → (∀ x, x ∈ us → ∃ q, q < p ∧ x = f q) → ro_en n P k us (ro_pk f p) = true → P (ro_pk f n) = true
  | 0, us, p, e, _, _, h => by
    have : p = n := by omega
    subst this
    exact h
  | k + 1, us, p, e, hl, hu, h => by
    have hp : p < n := by omega
    have h3 := List.all_eq_true.mp h (f p) (List.mem_range.mpr (h1 p hp))
    rw [Bool.or_eq_true] at h3
    rcases h3 with h3 | h3
    · have h4 : f p ∈ us := by simpa using h3
      obtain ⟨q, hq, e5⟩ := hu _ h4
      have := h2 p q hp (by omega) e5
      omega
    · rw [hl] at h3
      refine ro_en_of h1 h2 k (f p :: us) (p + 1) (by omega) (by simp [hl]) ?_ h3
      intro x hx
      rcases List.mem_cons.mp hx with hx | hx
      · exact ⟨p, by omega, hx⟩
      · obtain ⟨q, hq, e5⟩ := hu x hx
        exact ⟨q, by omega, e5⟩
theorem ro_all {n r : Nat} {P : Nat → Bool} (h : ro_en n P n [] 0 = true) (hr : ro_V n r) : P r = true := by
  rw [hr.1]
  exact ro_en_of hr.2.1 hr.2.2 n [] 0 (by omega) rfl (fun x hx => absurd hx (List.not_mem_nil)) h
/-- the reference's change, number, row of a number; the class's -/
def ro_chg (n c r : Nat) : Nat → Nat → Nat → Nat
  | 0, _, a => a
  | k + 1, p, a => if n ≤ p then a else if c / 2 ^ p % 2 = 1 then ro_chg n c r k (p + 1) (a + 8 ^ p * ro_bl r p) else ro_chg n c r k (p + 2) (a + 8 ^ p * ro_bl r (p + 1) + 8 ^ (p + 1) * ro_bl r p)
def ro_sw (r p : Nat) : Nat := (r ^^^ ((ro_bl r p ^^^ ro_bl r (p + 1)) * 8 ^ p)) ^^^ ((ro_bl r p ^^^ ro_bl r (p + 1)) * 8 ^ (p + 1))
def ro_aft (n c : Nat) : Nat → Nat → Nat → Nat
  | 0, r, _ => r
  | k + 1, r, p => if n ≤ p + 1 then r else if c / 2 ^ p % 2 = 1 then ro_aft n c k r (p + 1) else ro_aft n c k (ro_sw r p) (p + 2)
def ro_les (n r p : Nat) : Nat → Nat → Nat → Nat
  | 0, _, a => a
  | k + 1, q, a => if n ≤ q then a else ro_les n r p k (q + 1) (if ro_bl r q < ro_bl r p then a + 1 else a)
def ro_num (n r : Nat) : Nat → Nat → Nat → Nat
  | 0, _, v => v
  | k + 1, p, v => if n ≤ p then v else ro_num n r k (p + 1) (v * (n - p) + ro_les n r p 7 (p + 1) 0)
def ro_pop (x : Nat) : Nat := x % 2 + x / 2 % 2 + x / 4 % 2 + x / 8 % 2 + x / 16 % 2 + x / 32 % 2
def ro_nuc (n r : Nat) : Nat → Nat → Nat → Nat → Nat
  | 0, _, _, v => v
  | k + 1, p, s, v => if n ≤ p then v else ro_nuc n r k (p + 1) (s ||| 2 ^ ro_bl r p) (v * (n - p) + (ro_bl r p - ro_pop (s % 2 ^ ro_bl r p)))
/-- the places of a change as a permutation, rounds, the product -/
def ro_rnd (n : Nat) : Nat := ro_pk (fun p => p) n
def ro_mul (n a b : Nat) : Nat := ro_pk (fun p => ro_bl a (ro_bl b p)) n
def ro_fac (n : Nat) : Nat := if n = 4 then 24 else if n = 5 then 120 else 720
def ro_run : Nat → Nat → Nat → Nat → Bool → Bool
  | 0, _, _, o, ok => ok && o % 2 == 0
  | k + 1, c, p, o, ok => if c / 2 ^ p % 2 = 1 then ro_run k c (p + 1) 0 (ok && o % 2 == 0) else ro_run k c (p + 1) (o + 1) ok
/-- is it a change of the stage -/
def ro_isC (n c : Nat) : Bool := decide (c < 2 ^ n - 1) && ro_run n c 0 0 true
def ro_dig (n : Nat) : Nat → Nat → List Nat → List Nat
  | 0, _, l => l
  | k + 1, v, l => ro_dig n k (v / (n - k)) (v % (n - k) :: l)
def ro_bth (us : List Nat) : Nat → Nat → Nat → Nat
  | 0, b, _ => b
  | k + 1, b, a => if us.contains b then ro_bth us k (b + 1) a else if a = 0 then b else ro_bth us k (b + 1) (a - 1)
def ro_row : List Nat → List Nat → Nat → Nat
  | [], _, its => its
  | d :: ds, us, its => ro_row ds (ro_bth us 12 0 d :: us) (its + 8 ^ us.length * ro_bth us 12 0 d)
def ro_of (n k : Nat) : Nat := ro_row (ro_dig n n k []) [] 0
def ro_okV (n r : Nat) : Bool := r == ro_pk (ro_bl r) n && (List.range n).all (fun p => decide (ro_bl r p < n) && (List.range n).all (fun q => decide (ro_bl r p ≠ ro_bl r q) || decide (p = q)))
theorem ro_okV_V {n r : Nat} (h : ro_okV n r = true) : ro_V n r := by
  unfold ro_okV at h
  rw [Bool.and_eq_true, List.all_eq_true] at h
  refine ⟨by simpa using h.1, fun p hp => ?_, fun p q hp hq e => ?_⟩
  · have h2 := h.2 p (List.mem_range.mpr hp)
    rw [Bool.and_eq_true] at h2
    simpa using h2.1
  · have h2 := h.2 p (List.mem_range.mpr hp)
    rw [Bool.and_eq_true, List.all_eq_true] at h2
    have h3 := h2.2 q (List.mem_range.mpr hq)
    rw [Bool.or_eq_true] at h3
    rcases h3 with h3 | h3
    · exact absurd e (by simpa using h3)
    · simpa using h3
/-- the changes of a stage, each with the row to which it leads from rounds -/
def ro_tb (n : Nat) : List (Nat × Nat) := if n = 4 then [(0, 1217), (3, 1224), (9, 1616), (12, 1665)] else if n = 5 then [(1, 14416), (4, 14465), (7, 14472), (16, 17601), (19, 17608), (25, 18000), (28, 18049)] else [(0, 152769), (3, 152776), (9, 153168), (12, 153217), (15, 153224), (33, 178256), (36, 178305), (39, 178312), (48, 181441), (51, 181448), (57, 181840), (60, 181889)]
def ro_chk0 (n : Nat) : Bool := (List.range (2 ^ n - 1)).all (fun c => !ro_run n c 0 0 true || (ro_tb n).any (fun x => x.1 == c)) && (ro_tb n).all (fun x => ro_okV n x.2 && ro_chg n x.1 (ro_rnd n) 7 0 0 == x.2 && ro_isC n x.1 && decide (x.1 < 64))
theorem ro_c0 : ro_chk0 4 = true ∧ ro_chk0 5 = true ∧ ro_chk0 6 = true := by decide +kernel
def ro_chk1 (n r : Nat) : Bool := ro_num n r 7 0 0 == ro_nuc n r 7 0 0 0 && decide (ro_num n r 7 0 0 < ro_fac n) && ro_of n (ro_num n r 7 0 0) == r
def ro_chk2 (n r : Nat) : Bool := (ro_tb n).all (fun x => ro_aft n x.1 7 r 0 == ro_mul n r x.2 && ro_chg n x.1 r 7 0 0 == ro_mul n r x.2)
def ro_chk3 (n r : Nat) : Bool := r == ro_rnd n || (ro_mul n r r == ro_rnd n || (ro_mul n (ro_mul n r r) r == ro_rnd n || (ro_mul n (ro_mul n (ro_mul n r r) r) r == ro_rnd n || (ro_mul n (ro_mul n (ro_mul n (ro_mul n r r) r) r) r == ro_rnd n || ro_mul n (ro_mul n (ro_mul n (ro_mul n (ro_mul n r r) r) r) r) r == ro_rnd n))))
set_option maxRecDepth 100000 in
theorem ro_c4_1 : ro_en 4 (ro_chk1 4) 4 [] 0 = true := by decide +kernel
set_option maxRecDepth 100000 in
theorem ro_c4_2 : ro_en 4 (ro_chk2 4) 4 [] 0 = true := by decide +kernel
set_option maxRecDepth 100000 in
theorem ro_c4_3 : ro_en 4 (ro_chk3 4) 4 [] 0 = true := by decide +kernel
set_option maxRecDepth 100000 in
theorem ro_c5_1 : ro_en 5 (ro_chk1 5) 5 [] 0 = true := by decide +kernel
set_option maxRecDepth 100000 in
theorem ro_c5_2 : ro_en 5 (ro_chk2 5) 5 [] 0 = true := by decide +kernel
set_option maxRecDepth 100000 in
theorem ro_c5_3 : ro_en 5 (ro_chk3 5) 5 [] 0 = true := by decide +kernel
set_option maxRecDepth 100000 in
theorem ro_c6_1 : ro_en 6 (ro_chk1 6) 6 [] 0 = true := by decide +kernel
set_option maxRecDepth 100000 in
theorem ro_c6_2 : ro_en 6 (ro_chk2 6) 6 [] 0 = true := by decide +kernel
set_option maxRecDepth 100000 in
theorem ro_c6_3 : ro_en 6 (ro_chk3 6) 6 [] 0 = true := by decide +kernel
