/-! longs as naturals -/
theorem lj_toInt {n : Nat} (h : n < 2 ^ 63) : (lN n).toInt = (n : Int) := lg_ofNat_toInt h
theorem lj_c : ∀ s, s < 64 → (((nI s).toInt64 &&& 63).toBitVec.smod 64).toNat = s := by decide +kernel
theorem lj_tn {n : Nat} (h : n < 2 ^ 64) : (lN n).toBitVec.toNat = n := Nat.mod_eq_of_lt h
theorem lj_shr {n s : Nat} (h : n < 2 ^ 63) (hs : s < 64) : lN n >>> ((nI s).toInt64 &&& 63) = lN (n / 2 ^ s) := by
  apply Int64.toInt_inj.mp
  have h2 : n / 2 ^ s ≤ n := Nat.div_le_self _ _
  have e : (lN n >>> ((nI s).toInt64 &&& 63)).toInt = (lN n).toInt >>> s := by
    show ((lN n).toBitVec.sshiftRight (((nI s).toInt64 &&& 63).toBitVec.smod 64).toNat).toInt = _
    rw [lj_c s hs, BitVec.toInt_sshiftRight]
    rfl
  rw [e, lj_toInt h, lj_toInt (by omega), Int.shiftRight_eq_div_pow]
  rfl
theorem lj_and {n : Nat} (h : n < 2 ^ 64) {m : Int64} (k : Nat) (hm : m.toBitVec.toNat = 2 ^ k - 1) : lN n &&& m = lN (n % 2 ^ k) := by
  apply Int64.toBitVec_inj.mp
  apply BitVec.eq_of_toNat_eq
  have h2 : n % 2 ^ k ≤ n := Nat.mod_le _ _
  rw [Int64.toBitVec_and, BitVec.toNat_and, hm, Nat.and_two_pow_sub_one_eq_mod, lj_tn h, lj_tn (by omega)]
theorem lj_shl (n : Nat) {s : Nat} (hs : s < 64) : lN n <<< ((nI s).toInt64 &&& 63) = lN (n * 2 ^ s) := by
  apply Int64.toBitVec_inj.mp
  apply BitVec.eq_of_toNat_eq
  show ((lN n).toBitVec <<< (((nI s).toInt64 &&& 63).toBitVec.smod 64).toNat).toNat = _
  rw [lj_c s hs, BitVec.toNat_shiftLeft, Nat.shiftLeft_eq]
  show (n % 2 ^ 64 * 2 ^ s) % 2 ^ 64 = (n * 2 ^ s) % 2 ^ 64
  rw [Nat.mod_mul_mod]
theorem lj_bit (n i : Nat) (hi : i < 64) : (lN n).toBitVec.getLsbD i = n.testBit i := by
  show (BitVec.ofNat 64 n).getLsbD i = _
  rw [BitVec.getLsbD_ofNat, decide_eq_true hi, Bool.true_and]
theorem lj_or (a b : Nat) : lN a ||| lN b = lN (a ||| b) := by
  apply Int64.toBitVec_inj.mp
  apply BitVec.eq_of_getLsbD_eq
  intro i hi
  rw [Int64.toBitVec_or, BitVec.getLsbD_or, lj_bit _ _ hi, lj_bit _ _ hi, lj_bit _ _ hi, Nat.testBit_or]
/-- a piece of w bits from the bit s on is written anew -/
theorem lj_put {A c B s w v : Nat} {k : Int64} (hk : k = lN (2 ^ w - 1)) (hA : A < 2 ^ s) (hc : c < 2 ^ w) (hv : v < 2 ^ w) (hs : s < 64) : (lN (A + 2 ^ s * (c + 2 ^ w * B)) &&& ((k <<< ((nI s).toInt64 &&& 63)) ^^^ (-1))) ||| (lN v <<< ((nI s).toInt64 &&& 63)) = lN (A + 2 ^ s * (v + 2 ^ w * B)) := by
  subst hk
  rw [lj_shl _ hs, lj_shl _ hs]
  apply Int64.toBitVec_inj.mp
  apply BitVec.eq_of_getLsbD_eq
  intro i hi
  have m1 : (-1 : Int64).toBitVec.getLsbD i = true := by
    have : (-1 : Int64).toBitVec = BitVec.allOnes 64 := by decide
    rw [this, BitVec.getLsbD_allOnes, decide_eq_true hi]
  rw [Int64.toBitVec_or, BitVec.getLsbD_or, Int64.toBitVec_and, BitVec.getLsbD_and, Int64.toBitVec_xor, BitVec.getLsbD_xor, m1, lj_bit _ _ hi, lj_bit _ _ hi, lj_bit _ _ hi, lj_bit _ _ hi]
  rw [Nat.add_comm A (2 ^ s * (c + 2 ^ w * B)), Nat.add_comm A (2 ^ s * (v + 2 ^ w * B)), Nat.add_comm c, Nat.add_comm v, Nat.testBit_two_pow_mul_add _ hA, Nat.testBit_two_pow_mul_add _ hA, Nat.mul_comm v, Nat.mul_comm (2 ^ w - 1), Nat.testBit_two_pow_mul, Nat.testBit_two_pow_mul]
  by_cases h1 : i < s
  · rw [if_pos h1, if_pos h1, decide_eq_false (by omega)]
    simp
  · rw [if_neg h1, if_neg h1, decide_eq_true (by omega), Nat.testBit_two_pow_mul_add _ hc, Nat.testBit_two_pow_mul_add _ hv, Nat.testBit_two_pow_sub_one]
    by_cases h2 : i - s < w
    · rw [if_pos h2, if_pos h2, decide_eq_true h2]
      simp
    · rw [if_neg h2, if_neg h2, decide_eq_false h2]
      have : v.testBit (i - s) = false := Nat.testBit_lt_two_pow (Nat.lt_of_lt_of_le hv (Nat.pow_le_pow_right (by decide) (by omega)))
      rw [this]
      simp
/-! numbers packed to a base -/
def pk_b (B : Nat) (f : Nat → Nat) : Nat → Nat
  | 0 => 0
  | n + 1 => pk_b B f n + B ^ n * f n
theorem pk_b_lt {B : Nat} {f : Nat → Nat} (hB : 0 < B) : ∀ {n : Nat}, (∀ p, p < n → f p < B) → pk_b B f n < B ^ n
  | 0, _ => Nat.lt_of_lt_of_eq Nat.zero_lt_one rfl
  | n + 1, h => by
    have h1 := pk_b_lt hB (f := f) (n := n) (fun p hp => h p (by omega))
    have h2 := h n (by omega)
    have h3 : B ^ n * f n ≤ B ^ n * (B - 1) := Nat.mul_le_mul_left _ (by omega)
    have h4 : B ^ n * (B - 1) + B ^ n = B ^ n * B := by
      obtain ⟨c, rfl⟩ : ∃ c, B = c + 1 := ⟨B - 1, by omega⟩
      rw [Nat.add_sub_cancel, Nat.mul_succ]
    show pk_b B f n + B ^ n * f n < B ^ (n + 1)
    rw [Nat.pow_succ]
    omega
theorem pk_b_at {B : Nat} {f : Nat → Nat} (hB : 0 < B) : ∀ {n : Nat}, (∀ p, p < n → f p < B) → ∀ q, q < n → pk_b B f n / B ^ q % B = f q
  | 0, _, q, hq => absurd hq (Nat.not_lt_zero q)
  | n + 1, h, q, hq => by
    have h0 := pk_b_lt hB (f := f) (n := n) (fun p hp => h p (by omega))
    show (pk_b B f n + B ^ n * f n) / B ^ q % B = f q
    by_cases e : q = n
    · subst e
      rw [Nat.add_mul_div_left _ _ (Nat.pow_pos hB), Nat.div_eq_of_lt h0, Nat.zero_add]
      exact Nat.mod_eq_of_lt (h q (by omega))
    · have h1 := pk_b_at hB (f := f) (n := n) (fun p hp => h p (by omega)) q (by omega)
      have e2 : B ^ n = B ^ q * (B * B ^ (n - q - 1)) := by
        rw [← Nat.pow_succ', ← Nat.pow_add]
        congr 1
        omega
      rw [e2, Nat.mul_assoc, Nat.mul_assoc, Nat.add_mul_div_left _ _ (Nat.pow_pos hB), Nat.add_mul_mod_self_left]
      exact h1
theorem pk_b_congr {B : Nat} {f g : Nat → Nat} : ∀ {n : Nat}, (∀ p, p < n → f p = g p) → pk_b B f n = pk_b B g n
  | 0, _ => rfl
  | n + 1, h => by
    show pk_b B f n + B ^ n * f n = pk_b B g n + B ^ n * g n
    rw [pk_b_congr (n := n) (fun p hp => h p (by omega)), h n (by omega)]
/-! an int of the script -/
theorem l_low {E : zE} {S : zS} {Q : Int32 → zS → Prop} {X : String → zS → Prop} {v : Int32} {n : Nat} (hn : 0 < n) (hn2 : n < 2 ^ 31) (k : ∀ j, j < n → Q (nI j) S) : p_L_low E v (nI n) S Q X := by
  have e : ((v.toUInt32 >>> ((1 : Int32).toUInt32 &&& Int32.toUInt32 31)).toInt32) = nI (v.toBitVec.toNat / 2) := by
    apply Int32.toBitVec_inj.mp
    apply BitVec.eq_of_toNat_eq
    have := v.toBitVec.isLt
    rw [pk_ushr v 1 1 (by decide), pk_tn (by omega)]
  unfold p_L_low
  have hlt : v.toBitVec.toNat / 2 < 2 ^ 31 := by
    have := v.toBitVec.isLt
    omega
  refine ⟨nI_ne0 hn hn2, ?_⟩
  rw [e, pk_rem hlt hn hn2]
  exact k _ (Nat.mod_lt _ hn)
