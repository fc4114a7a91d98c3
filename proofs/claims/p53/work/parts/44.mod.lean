/-! the row of a number -/
def ro_chk4 (n : Nat) : Bool := (List.range (ro_fac n)).all (fun k => ro_okV n (ro_of n k) && ro_num n (ro_of n k) 7 0 0 == k)
set_option maxRecDepth 100000 in
theorem ro_c_4 : ro_chk4 4 = true ∧ ro_chk4 5 = true ∧ ro_chk4 6 = true := by decide +kernel
theorem ro_of_V {n k : Nat} (hN : ro_N n) (hk : k < ro_fac n) : ro_V n (ro_of n k) ∧ ro_num n (ro_of n k) 7 0 0 = k := by
  have h : ro_chk4 n = true := by
    rcases hN with rfl | rfl | rfl
    · exact ro_c_4.1
    · exact ro_c_4.2.1
    · exact ro_c_4.2.2
  have h2 := List.all_eq_true.mp h k (List.mem_range.mpr hk)
  rw [Bool.and_eq_true, beq_iff_eq] at h2
  exact ⟨ro_okV_V h2.1, h2.2⟩
theorem ro_fac_lt {n : Nat} : ro_fac n ≤ 720 := by
  unfold ro_fac
  split
  · omega
  · split <;> omega
theorem ro_dig_len (n : Nat) : ∀ (k v : Nat) (l : List Nat), (ro_dig n k v l).length = k + l.length
  | 0, v, l => (Nat.zero_add _).symm
  | k + 1, v, l => by
    unfold ro_dig
    rw [ro_dig_len n k]
    show k + (l.length + 1) = k + 1 + l.length
    omega
/-- the digits are below what is left -/
theorem ro_dig_lt (n : Nat) : ∀ (k v : Nat) (l : List Nat), k ≤ n → (∀ i x, l[i]? = some x → x < n - (k + i)) → ∀ i x, (ro_dig n k v l)[i]? = some x → x < n - i
  | 0, v, l, hk, hl, i, x, h => by
    have := hl i x h
    omega
  | k + 1, v, l, hk, hl, i, x, h => by
    refine ro_dig_lt n k (v / (n - k)) (v % (n - k) :: l) (by omega) (fun j y hj => ?_) i x h
    cases j with
    | zero =>
      have e : v % (n - k) = y := by simpa using hj
      rw [← e]
      exact Nat.mod_lt _ (by omega)
    | succ j =>
      have := hl j y (by simpa using hj)
      omega
section MM
variable {E : zE} {ma : Nat → Nat} {Z : zZ} {m : Nat} {S : zS} {X : String → zS → Prop}
theorem m_rowOf_L7 {K : Nat → Int32 → zS → Prop} {Q : Int32 → zS → Prop} {n : Nat} (hn : n ≤ 6) :
    ∀ (w k v : Nat) (l : List Nat) (Z' : zZ) (S : zS), RM ma Z' m S → (∀ f, f ≠ 16 → Z' f = Z f) → k ≤ n → k < w → v < 2 ^ 31 → (∀ i x, l[i]? = some x → Z' 16 (k + i) = x) →
    (∀ Z2 S2, RM ma Z2 m S2 → (∀ f, f ≠ 16 → Z2 f = Z f) → (∀ i x, (ro_dig n k v l)[i]? = some x → Z2 16 i = x) → K m (nI n) S2) → p_X11_rowOf_L7 E K Q X w m (nI n) (nI v) (nI k + (-1)) S
  | 0, k, v, l, Z', S, h, h1, h2, h3, h4, h5, c => by omega
  | w + 1, 0, v, l, Z', S, h, h1, h2, h3, h4, h5, c => by
    refine ⟨fun _ => c Z' S h h1 (fun i x hx => ?_), fun h9 => absurd (by decide) h9⟩
    have := h5 i x hx
    rw [Nat.zero_add] at this
    exact this
  | w + 1, k + 1, v, l, Z', S, h, h1, h2, h3, h4, h5, c => by
    rw [pk_m1]
    have e : (nI n - nI k : Int32) = nI (n - k) := pk_sub (by omega)
    have e0 : ¬ nI (n - k) = 0 := nI_ne0 (by omega) (by omega)
    refine ⟨fun h9 => absurd h9 (nI_pos (by omega)), fun _ => ⟨h.1, ?_⟩⟩
    rw [e]
    refine ⟨e0, h.ij 16 k rfl (by show _ < 6; omega) ?_⟩
    refine h.wA 16 k (v % (n - k)) (pk_rem h4 (by omega) (by omega)) (fun S2 g2 => ⟨e0, ?_⟩)
    rw [pk_div h4 (by omega) (by omega)]
    refine m_rowOf_L7 hn w k (v / (n - k)) (v % (n - k) :: l) _ S2 g2 (fun f hf => by rw [up_f hf]; exact h1 f hf) (by omega) (by omega) (Nat.lt_of_le_of_lt (Nat.div_le_self _ _) h4) (fun i x hx => ?_) c
    cases i with
    | zero =>
      rw [Nat.add_zero, up_s]
      simpa using hx
    | succ i =>
      rw [up_i (by omega), show k + (i + 1) = k + 1 + i by omega]
      exact h5 i x (by simpa using hx)
theorem ro_tb_u {u b : Nat} : u / 2 ^ b % 2 = 1 ↔ u.testBit b = true := by
  rw [Nat.testBit_eq_decide_div_mod_eq]
  simp
/-- which bells are free behind -/
def ro_fr (us : List Nat) (b : Nat) : Nat := (us.filter (fun x => decide (b ≤ x))).length
theorem ro_fr_in {us : List Nat} {b : Nat} (h : b ∈ us) : ro_fr us (b + 1) < ro_fr us b := by
  unfold ro_fr
  induction us with
  | nil => exact absurd h (List.not_mem_nil)
  | cons x us ih =>
    have hle : ∀ l : List Nat, (l.filter (fun x => decide (b + 1 ≤ x))).length ≤ (l.filter (fun x => decide (b ≤ x))).length := by
      intro l
      induction l with
      | nil => exact Nat.le_refl _
      | cons y l ih2 =>
        rw [List.filter_cons, List.filter_cons]
        by_cases a : b + 1 ≤ y
        · rw [if_pos (by simpa using a), if_pos (by simp; omega)]
          simpa using ih2
        · rw [if_neg (by simpa using a)]
          split
          · exact Nat.le_succ_of_le ih2
          · exact ih2
    rw [List.filter_cons, List.filter_cons]
    rcases List.mem_cons.mp h with e | e
    · subst e
      rw [if_neg (by simp), if_pos (by simp)]
      exact Nat.lt_succ_of_le (hle us)
    · have h2 := ih e
      by_cases a : b + 1 ≤ x
      · rw [if_pos (by simpa using a), if_pos (by simp; omega)]
        simpa using h2
      · rw [if_neg (by simpa using a)]
        split
        · exact Nat.lt_succ_of_lt h2
        · exact h2
theorem ro_fr_le (us : List Nat) (b : Nat) : ro_fr us (b + 1) ≤ ro_fr us b := by
  unfold ro_fr
  induction us with
  | nil => exact Nat.le_refl _
  | cons y l ih2 =>
    rw [List.filter_cons, List.filter_cons]
    by_cases a : b + 1 ≤ y
    · rw [if_pos (by simpa using a), if_pos (by simp; omega)]
      simpa using ih2
    · rw [if_neg (by simpa using a)]
      split
      · exact Nat.le_succ_of_le ih2
      · exact ih2
theorem m_rowOf_L65 {K : Nat → Int32 → Int32 → Int32 → Int32 → Int32 → zS → Prop} {Q : Int32 → zS → Prop} {l2 l4 l6 : Int32} {u : Nat} {us : List Nat} (hu : u < 2 ^ 31) (hus : ∀ b, b < 12 → (u.testBit b = us.contains b)) :
    ∀ (w b a : Nat), b + (ro_fr us b + a) ≤ 11 → ro_fr us b + a < w → (∀ b', b' ≤ b + (ro_fr us b + a) → b' = ro_bth us w b a → K m l2 l4 (nI u) l6 (nI b') S) → p_X11_rowOf_L65 E K Q X w m l2 l4 (nI u) l6 (nI b) (nI a) S
  | 0, b, a, h1, h2, c => by omega
  | w + 1, b, a, h1, h2, c => by
    have hb := hus b (by omega)
    have step1 : us.contains b = true → p_X11_rowOf_L65 E K Q X w m l2 l4 (nI u) l6 (nI b + 1) (nI a) S := by
      intro hc
      have h3 := ro_fr_in (us := us) (b := b) (by simpa using hc)
      rw [nI_1]
      refine m_rowOf_L65 hu hus w (b + 1) a (by omega) (by omega) (fun b' h5 h6 => c b' (by omega) ?_)
      rw [h6]
      conv => rhs; unfold ro_bth
      rw [if_pos hc]
    have step2 : us.contains b = false → 0 < a → p_X11_rowOf_L65 E K Q X w m l2 l4 (nI u) l6 (nI b + 1) (nI a - 1) S := by
      intro hc ha
      have h3 := ro_fr_le us b
      rw [nI_1, show (nI a - 1 : Int32) = nI (a - 1) from pk_sub (b := 1) (by omega)]
      refine m_rowOf_L65 hu hus w (b + 1) (a - 1) (by omega) (by omega) (fun b' h5 h6 => c b' (by omega) ?_)
      rw [h6]
      conv => rhs; unfold ro_bth
      rw [if_neg (by rw [hc]; decide), if_neg (by omega)]
    have ebit : ((nI u >>> (nI b &&& 31)) &&& 1 = (1 : Int32)) ↔ us.contains b = true := by
      rw [ri_bit hu (by omega), ri_is1 (Nat.mod_lt _ (by decide)), ro_tb_u, hb]
    refine pk_lt 0 a (fun h3 => ?_) (fun h3 => ?_)
    · show ((¬ ((nI u >>> (nI b &&& 31)) &&& 1) = (1 : Int32)) → _) ∧ (((nI u >>> (nI b &&& 31)) &&& 1) = (1 : Int32) → _)
      rw [ebit]
      refine ⟨fun h4 => step2 (by simpa using h4) h3, fun h4 => ?_⟩
      have := step1 h4
      rw [Int32.sub_zero]
      exact this
    · rw [ebit]
      have ea : a = 0 := by omega
      subst ea
      refine ⟨fun h4 => c b (by omega) ?_, fun h4 => ?_⟩
      · unfold ro_bth
        rw [if_neg h4, if_pos rfl]
      · show ((¬ ((nI u >>> (nI b &&& 31)) &&& 1) = (1 : Int32)) → _) ∧ (((nI u >>> (nI b &&& 31)) &&& 1) = (1 : Int32) → _)
        rw [ebit]
        refine ⟨fun h5 => absurd h4 h5, fun _ => ?_⟩
        have := step1 h4
        rw [Int32.sub_zero]
        exact this
theorem ro_fr_len (us : List Nat) (b : Nat) : ro_fr us b ≤ us.length := List.length_filter_le _ _
theorem m_rowOf_L47 {K : Int32 → zS → Prop} {Q : Int32 → zS → Prop} {n : Nat} {ds0 : List Nat} (h : RM ma Z m S) (hn : n ≤ 6) (hl : ds0.length = n) (hd : ∀ i x, ds0[i]? = some x → x < n - i) (hz : ∀ i x, ds0[i]? = some x → Z 16 i = x) :
    ∀ (w p : Nat) (us : List Nat) (u its : Nat), us.length = p → p ≤ n → n < p + w → its < 8 ^ p → u < 2 ^ 12 → (∀ b, b < 12 → u.testBit b = us.contains b) → K (nI (ro_row (ds0.drop p) us its)) S → p_X11_rowOf_L47 E K Q X w m (nI n) (nI its) (nI u) (nI p) S
  | 0, p, us, u, its, h1, h2, h3, h4, h5, h6, c => by omega
  | w + 1, p, us, u, its, h1, h2, h3, h4, h5, h6, c => by
    refine pk_le n p (fun h7 => ?_) (fun h7 => ⟨h.1, h.ij 16 p rfl (by show _ < 6; omega) ⟨12, ?_⟩⟩)
    · rw [List.drop_of_length_le (by omega)] at c
      exact c
    · have hx : ds0[p]? = some (ds0[p]'(by omega)) := List.getElem?_eq_getElem (by omega)
      generalize ds0[p]'(by omega) = x at hx
      have hxl := hd p x hx
      have hfl := ro_fr_len us 0
      rw [h.a 16, hz p x hx]
      refine m_rowOf_L65 (us := us) (by omega) h6 12 0 x (by omega) (by omega) (fun b' h8 h9 => ?_)
      have hb6 : b' < 6 := by omega
      have h1b : (1 : Int32) <<< (nI b' &&& 31) = nI (2 ^ b') := by
        have h55 : 2 ^ b' ≤ 2 ^ 6 := Nat.pow_le_pow_right (by decide) (by omega)
        have := pk_shlN (n := 1) (nI b' &&& 31) b' (ri_c _ (by omega)) (by omega)
        rw [Nat.one_mul] at this
        exact this
      have e1 := ri_b8 (b := b') (p := p) (by omega) (by omega)
      rw [h1b, ri_or, ri_shl (by omega) (by omega), ri_sum _ h4, nI_1]
      refine m_rowOf_L47 h hn hl hd hz w (p + 1) (b' :: us) (u ||| 2 ^ b') _ (by simp [h1]) (by omega) (by omega) (ri_add8 h4 (by omega)) (Nat.or_lt_two_pow h5 (Nat.pow_lt_pow_right (by decide) (by omega))) (fun b hb => ?_) ?_
      · rw [Nat.testBit_or, h6 b hb, Nat.testBit_two_pow, List.contains_cons, Bool.or_comm]
        congr 1
        by_cases e : b = b'
        · subst e
          simp
        · simp [e, Ne.symm e]
      · rw [z_drop1 hx] at c
        unfold ro_row at c
        rw [← h9, h1] at c
        exact c
theorem m_rowOf {Q : Int32 → zS → Prop} {n k0 : Nat} (h : RM ma Z m S) (hn : n ≤ 6) (hk : k0 < 2 ^ 31) (h1 : 1 ≤ n) (k : ∀ Z' S', RM ma Z' m S' → (∀ f, f ≠ 16 → Z' f = Z f) → Q (nI (ro_of n k0)) S') : p_X11_rowOf E m (nI k0) (nI n) S Q X := by
  unfold p_X11_rowOf
  rw [Int32.sub_eq_add_neg]
  refine ⟨8, m_rowOf_L7 (Z := Z) hn 8 n k0 [] Z S h (fun _ _ => rfl) (Nat.le_refl _) (by omega) hk (fun i x hx => by simp at hx) (fun Z2 S2 g2 hf hz => ⟨8, ?_⟩)⟩
  refine m_rowOf_L47 (ds0 := ro_dig n n k0 []) g2 hn (by rw [ro_dig_len]; rfl) (ro_dig_lt n n k0 [] (Nat.le_refl _) (fun i x hx => by simp at hx)) hz 8 0 [] 0 0 rfl (by omega) (by omega) (by decide) (by decide) (fun b _ => by simp) ?_
  exact k Z2 S2 g2 hf
end MM
