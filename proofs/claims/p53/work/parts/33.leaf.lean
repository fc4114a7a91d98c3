section LH
variable {E : zE} {S : zS} {Q : Int32 → zS → Prop} {X : String → zS → Prop} {n r c : Nat}
theorem w1_in {v lo hi : Int32} (k1 : lo ≤ v → v ≤ hi → Q 1 S) (k0 : ¬ (lo ≤ v ∧ v ≤ hi) → Q 0 S) : p_X11_in E v lo hi S Q X := by
  refine ⟨fun h => ⟨Or.inl rfl, k0 ?_⟩, fun h => ⟨fun h2 => ⟨Or.inl rfl, k0 ?_⟩, fun h2 => ⟨Or.inr rfl, k1 ?_ ?_⟩⟩⟩
  · intro h3
    have h4 := Int32.le_iff_toInt_le.mp h3.1
    have h5 := Int32.lt_iff_toInt_lt.mp h
    omega
  · intro h3
    have h4 := Int32.le_iff_toInt_le.mp h3.2
    have h5 := Int32.lt_iff_toInt_lt.mp h2
    omega
  · rw [Int32.le_iff_toInt_le]
    rw [Int32.lt_iff_toInt_lt] at h
    omega
  · rw [Int32.le_iff_toInt_le]
    rw [Int32.lt_iff_toInt_lt] at h2
    omega
theorem ri_nle {a b : Int32} (h : ¬ a ≤ b) : b < a := by
  rw [Int32.le_iff_toInt_le] at h
  rw [Int32.lt_iff_toInt_lt]
  omega
theorem ri_nlt {a b : Int32} (h : ¬ a < b) : b ≤ a := by
  rw [Int32.lt_iff_toInt_lt] at h
  rw [Int32.le_iff_toInt_le]
  omega
/-- between 0 and a natural -/
theorem w1_inN {v : Int32} {hi : Nat} (hh : hi < 2 ^ 31) (k1 : ∀ j, j ≤ hi → v = nI j → Q 1 S) (k0 : (∀ j, j ≤ hi → v ≠ nI j) → Q 0 S) : p_X11_in E v 0 (nI hi) S Q X := by
  refine w1_in (fun h1 h2 => ?_) (fun h => k0 (fun j hj e => h ?_))
  · obtain ⟨j, hj, rfl⟩ := nI_of (x := v) (fun h3 => by
      have h4 := Int32.le_iff_toInt_le.mp h1
      have h5 := Int32.lt_iff_toInt_lt.mp h3
      omega)
    exact k1 j ((nI_leI hj hh).mp h2) rfl
  · rw [e]
    exact ⟨nI_pos' (by omega), nI_le hj hh⟩
/-- between 0 and one less than a natural -/
theorem w1_inP {v : Int32} {hi : Nat} (hh : hi < 2 ^ 31) (k1 : ∀ j, j < hi → v = nI j → Q 1 S) (k0 : (∀ j, j < hi → v ≠ nI j) → Q 0 S) : p_X11_in E v 0 (nI hi - 1) S Q X := by
  cases hi with
  | zero =>
    refine w1_in (fun h1 h2 => ?_) (fun h => k0 (fun j hj e => by omega))
    have h4 := Int32.le_iff_toInt_le.mp h1
    have h5 := Int32.le_iff_toInt_le.mp h2
    have h6 : (nI 0 - 1).toInt = -1 := by decide
    have h7 : (0 : Int32).toInt = 0 := by decide
    omega
  | succ h =>
    rw [nI_pred]
    exact w1_inN (by omega) (fun j hj e => k1 j (by omega) e) (fun h9 => k0 (fun j hj => h9 j (by omega)))
theorem w1_isBell {v : Int32} (k1 : ∀ j, j < 6 → v = nI j → Q 1 S) (k0 : (∀ j, j < 6 → v ≠ nI j) → Q 0 S) : p_X11_isBell E v S Q X := w1_inP (hi := 6) (by decide) (fun j h e => ⟨Or.inr rfl, k1 j h e⟩) (fun h => ⟨Or.inl rfl, k0 h⟩)
theorem w1_isCall {v : Int32} (k1 : ∀ j, j < 3 → v = nI j → Q 1 S) (k0 : (∀ j, j < 3 → v ≠ nI j) → Q 0 S) : p_X11_isCall E v S Q X := w1_inP (hi := 3) (by decide) (fun j h e => ⟨Or.inr rfl, k1 j h e⟩) (fun h => ⟨Or.inl rfl, k0 h⟩)
theorem w1_isChange_F {K : Int32 → Int32 → zS → Prop} {l : Int32} (hn : n ≤ 6) (k : ∀ o, K 0 o S) : ∀ (m p : Nat) (o : Int32), p ≤ n → n < p + m → p_X11_isChange_L16 E K Q X m (nI n) l 0 o (nI p) S
  | 0, p, o, h1, h2 => by omega
  | m + 1, p, o, h1, h2 => by
    refine pk_le n p (fun h => k o) (fun h => ⟨fun _ => ⟨fun _ => ⟨fun _ => ?_, fun h9 => absurd rfl h9⟩, fun h9 => absurd rfl h9⟩, fun _ => ⟨fun _ => ⟨fun h9 => absurd h9 (by decide), fun _ => ?_⟩, fun h9 => absurd rfl h9⟩⟩)
    · show p_X11_isChange_L16 E K Q X m (nI n) l 0 (o + 1) (nI p + 1) S
      rw [nI_1]
      exact w1_isChange_F hn k m (p + 1) _ (by omega) (by omega)
    · show p_X11_isChange_L16 E K Q X m (nI n) l 0 0 (nI p + 1) S
      rw [nI_1]
      exact w1_isChange_F hn k m (p + 1) _ (by omega) (by omega)
theorem w1_isChange_L {K : Int32 → Int32 → zS → Prop} (hn : n ≤ 6) (hc : c < 2 ^ 31) : ∀ (m p o : Nat), p ≤ n → n < p + m → o ≤ p →
    (∀ x, x ≤ n → (x % 2 == 0) = ro_run (n - p) c p o true → K 1 (nI x) S) → (ro_run (n - p) c p o true = false → ∀ o', K 0 o' S) → p_X11_isChange_L16 E K Q X m (nI n) (nI c) 1 (nI o) (nI p) S
  | 0, p, o, h1, h2, h3, _, _ => by omega
  | m + 1, p, o, h1, h2, h3, k, k0 => by
    refine pk_le n p (fun h => ?_) (fun h => ?_)
    · refine k o (by omega) ?_
      rw [show n - p = 0 by omega]
      show _ = (true && o % 2 == 0)
      rfl
    · have e : n - p = (n - (p + 1)) + 1 := by omega
      rw [e] at k k0
      unfold ro_run at k k0
      rw [ri_bit hc (by omega), ri_is1 (Nat.mod_lt _ (by decide))]
      constructor
      · intro hb
        simp only [if_neg hb] at k k0
        refine ⟨fun h9 => absurd h9 (by decide), fun _ => ⟨fun _ => ⟨fun _ => ?_, fun h9 => absurd rfl h9⟩, fun h9 => absurd rfl h9⟩⟩
        show p_X11_isChange_L16 E K Q X m (nI n) (nI c) 1 (nI o + 1) (nI p + 1) S
        rw [nI_1, nI_1]
        exact w1_isChange_L hn hc m (p + 1) (o + 1) (by omega) (by omega) (by omega) k k0
      · intro hb
        simp only [if_pos hb] at k k0
        refine ⟨fun h9 => absurd h9 (by decide), fun _ => ⟨fun h9 => absurd h9 (by decide), fun _ => ?_⟩⟩
        rw [ri_rem2 (by omega), ri_0 (Nat.mod_lt _ (by decide))]
        constructor
        · intro h8
          refine ⟨fun h9 => absurd h9 (by decide), fun _ => ?_⟩
          show p_X11_isChange_L16 E K Q X m (nI n) (nI c) 0 0 (nI p + 1) S
          rw [nI_1]
          refine w1_isChange_F hn (k0 ?_) m (p + 1) 0 (by omega) (by omega)
          have h7 : (true && o % 2 == 0) = false := by simp [h8]
          rw [h7]
          exact ro_run_f _ _ _ _
        · intro h8
          refine ⟨fun h9 => absurd h9 (by decide), fun _ => ?_⟩
          show p_X11_isChange_L16 E K Q X m (nI n) (nI c) 1 (nI 0) (nI p + 1) S
          rw [nI_1]
          have h7 : (true && o % 2 == 0) = true := by
            rw [h8]
            rfl
          rw [h7] at k k0
          exact w1_isChange_L hn hc m (p + 1) 0 (by omega) (by omega) (by omega) k k0
theorem w1_isChange {l : Int32} (hn : 1 ≤ n ∧ n ≤ 6) (k1 : ro_ch n l → Q 1 S) (k0 : ¬ ro_ch n l → Q 0 S) : p_X11_isChange E (nI n) l S Q X := by
  have h5 : 2 ^ n ≤ 2 ^ 6 := Nat.pow_le_pow_right (by decide) hn.2
  have h6 : 2 ^ 1 ≤ 2 ^ n := Nat.pow_le_pow_right (by decide) hn.1
  unfold p_X11_isChange
  rw [ri_2n hn.2, show (nI (2 ^ n) - 2 : Int32) = nI (2 ^ n - 2) from pk_sub (b := 2) (by omega)]
  refine w1_inN (by omega) (fun c hc e => ⟨7, ?_⟩) (fun h => ⟨7, w1_isChange_F hn.2 (fun o => ⟨fun _ => ⟨Or.inl rfl, k0 ?_⟩, fun h9 => absurd rfl h9⟩) 7 0 0 (by omega) (by omega)⟩)
  · subst e
    have e : ro_ch n (nI c) ↔ ro_run n c 0 0 true = true := by
      constructor
      · rintro ⟨d, h8, hd⟩
        unfold ro_isC at hd
        rw [Bool.and_eq_true, decide_eq_true_eq] at hd
        have := (nI_eq (by omega) (by omega)).mp h8
        subst this
        exact hd.2
      · intro h8
        refine ⟨c, rfl, ?_⟩
        unfold ro_isC
        rw [h8, decide_eq_true (by omega)]
        rfl
    refine w1_isChange_L hn.2 (by omega) 7 0 0 (by omega) (by omega) (by omega) (fun x hx h8 => ?_) (fun h8 o => ?_)
    · rw [Nat.sub_zero] at h8
      rw [ri_rem2 (by omega), ri_0 (Nat.mod_lt _ (by decide))]
      refine ⟨fun h9 => absurd h9 (by decide), fun _ => ⟨fun h9 => ⟨Or.inl rfl, k0 ?_⟩, fun h9 => ⟨Or.inr rfl, k1 ?_⟩⟩⟩
      · rw [e, ← h8]
        simpa using h9
      · rw [e, ← h8]
        simpa using h9
    · rw [Nat.sub_zero] at h8
      refine ⟨fun _ => ⟨Or.inl rfl, k0 ?_⟩, fun h9 => absurd rfl h9⟩
      rw [e, h8]
      decide
  · rintro ⟨d, h8, hd⟩
    unfold ro_isC at hd
    rw [Bool.and_eq_true, decide_eq_true_eq] at hd
    exact h d (by omega) h8
end LH
/-! what is known of rows -/
def ro_N (n : Nat) : Prop := n = 4 ∨ n = 5 ∨ n = 6
theorem ro_f1 {n r : Nat} (hN : ro_N n) (hr : ro_V n r) : ro_num n r 7 0 0 = ro_nuc n r 7 0 0 0 ∧ ro_num n r 7 0 0 < ro_fac n ∧ ro_of n (ro_num n r 7 0 0) = r := by
  have h : ro_chk1 n r = true := by
    rcases hN with rfl | rfl | rfl
    · exact ro_all ro_c4_1 hr
    · exact ro_all ro_c5_1 hr
    · exact ro_all ro_c6_1 hr
  unfold ro_chk1 at h
  simp only [Bool.and_eq_true, beq_iff_eq, decide_eq_true_eq] at h
  exact ⟨h.1.1, h.1.2, h.2⟩
theorem ro_f0 {n c : Nat} (hN : ro_N n) (hc : ro_isC n c = true) : ∃ s, (c, s) ∈ ro_tb n ∧ ro_V n s ∧ ro_chg n c (ro_rnd n) 7 0 0 = s ∧ c < 64 := by
  have h : ro_chk0 n = true := by
    rcases hN with rfl | rfl | rfl
    · exact ro_c0.1
    · exact ro_c0.2.1
    · exact ro_c0.2.2
  unfold ro_chk0 at h
  unfold ro_isC at hc
  rw [Bool.and_eq_true, decide_eq_true_eq] at hc
  rw [Bool.and_eq_true, List.all_eq_true, List.all_eq_true] at h
  have h1 := h.1 c (List.mem_range.mpr hc.1)
  rw [hc.2] at h1
  obtain ⟨x, hx, h2⟩ := List.any_eq_true.mp h1
  have h3 : x.1 = c := by simpa using h2
  have h4 := h.2 x hx
  simp only [Bool.and_eq_true, beq_iff_eq, decide_eq_true_eq] at h4
  refine ⟨x.2, ?_, ro_okV_V h4.1.1.1, ?_, by omega⟩
  · rw [← h3]
    exact hx
  · rw [← h3]
    exact h4.1.1.2
theorem ro_f2 {n c s r : Nat} (hN : ro_N n) (hr : ro_V n r) (hc : (c, s) ∈ ro_tb n) : ro_aft n c 7 r 0 = ro_mul n r s ∧ ro_chg n c r 7 0 0 = ro_mul n r s := by
  have h : ro_chk2 n r = true := by
    rcases hN with rfl | rfl | rfl
    · exact ro_all ro_c4_2 hr
    · exact ro_all ro_c5_2 hr
    · exact ro_all ro_c6_2 hr
  unfold ro_chk2 at h
  have h2 := List.all_eq_true.mp h _ hc
  simpa only [Bool.and_eq_true, beq_iff_eq] using h2
theorem ro_N8 {n : Nat} (hN : ro_N n) : n ≤ 8 := by unfold ro_N at hN; omega
theorem ro_V_mul {n a b : Nat} (hN : ro_N n) (ha : ro_V n a) (hb : ro_V n b) : ro_V n (ro_mul n a b) ∧ ∀ p, p < n → ro_bl (ro_mul n a b) p = ro_bl a (ro_bl b p) :=
  ro_V_pk (ro_N8 hN) (fun p hp => ha.2.1 _ (hb.2.1 p hp)) (fun p q hp hq e => hb.2.2 p q hp hq (ha.2.2 _ _ (hb.2.1 p hp) (hb.2.1 q hq) e))
theorem ro_V_rnd {n : Nat} (hN : ro_N n) : ro_V n (ro_rnd n) ∧ ∀ p, p < n → ro_bl (ro_rnd n) p = p :=
  ro_V_pk (ro_N8 hN) (fun p hp => hp) (fun p q hp hq e => e)
theorem ro_V_lt {n r : Nat} (hN : ro_N n) (hr : ro_V n r) : r < 2 ^ 18 := by
  have h8 := ro_N8 hN
  rw [hr.1]
  refine Nat.lt_of_lt_of_le (ro_pk_lt (fun p hp => Nat.lt_of_lt_of_le (hr.2.1 p hp) h8)) ?_
  have : n ≤ 6 := by unfold ro_N at hN; omega
  exact Nat.le_trans (Nat.pow_le_pow_right (by decide) this) (by decide)
/-- the row behind a change -/
def ro_af (n c r : Nat) : Nat := ro_chg n c r 7 0 0
theorem ro_af_V {n c r : Nat} (hN : ro_N n) (hr : ro_V n r) (hc : ro_isC n c = true) : ro_V n (ro_af n c r) ∧ ro_aft n c 7 r 0 = ro_af n c r ∧ ro_af n c r = ro_mul n r (ro_af n c (ro_rnd n)) := by
  obtain ⟨s, h1, h2, h3, _⟩ := ro_f0 hN hc
  have h4 := ro_f2 hN hr h1
  unfold ro_af
  rw [h4.1, h4.2, h3]
  exact ⟨(ro_V_mul hN hr h2).1, rfl, rfl⟩
theorem ro_mul_as {n a b c : Nat} (hN : ro_N n) (ha : ro_V n a) (hb : ro_V n b) (hc : ro_V n c) : ro_mul n (ro_mul n a b) c = ro_mul n a (ro_mul n b c) := by
  have hab := ro_V_mul hN ha hb
  have hbc := ro_V_mul hN hb hc
  refine ro_V_ext (ro_V_mul hN hab.1 hc).1 (ro_V_mul hN ha hbc.1).1 (fun p hp => ?_)
  rw [(ro_V_mul hN hab.1 hc).2 p hp, (ro_V_mul hN ha hbc.1).2 p hp, hbc.2 p hp, hab.2 _ (hc.2.1 p hp)]
/-- a change behind a row that is multiplied from the left -/
theorem ro_af_mul {n c a r : Nat} (hN : ro_N n) (ha : ro_V n a) (hr : ro_V n r) (hc : ro_isC n c = true) : ro_af n c (ro_mul n a r) = ro_mul n a (ro_af n c r) := by
  rw [(ro_af_V hN (ro_V_mul hN ha hr).1 hc).2.2, (ro_af_V hN hr hc).2.2]
  exact ro_mul_as hN ha hr (ro_af_V hN (ro_V_rnd hN).1 hc).1
theorem ro_num_inj {n r s : Nat} (hN : ro_N n) (hr : ro_V n r) (hs : ro_V n s) (h : ro_num n r 7 0 0 = ro_num n s 7 0 0) : r = s := by
  rw [← (ro_f1 hN hr).2.2, ← (ro_f1 hN hs).2.2, h]
