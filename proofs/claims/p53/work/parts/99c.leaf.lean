/-! the law's leaves: places, rows, numbers -/
def lw_at (c P : Nat) : Nat → Nat → Nat
  | 0, a => a
  | k + 1, a => if P ≤ a then a else if a + 1 < P then (if c / 2 ^ a % 2 = 1 then lw_at c P k (a + 1) else lw_at c P k (a + 2)) else if c / 2 ^ a % 2 = 1 then lw_at c P k (a + 1) else a
def lw_mv (c P : Nat) : Nat := if c / 2 ^ P % 2 = 1 then P else if lw_at c P 10 0 = P then P + 1 else P - 1
def lw_ic (n c : Nat) : Nat → Nat → Bool
  | 0, _ => false
  | k + 1, a => if n ≤ a then true else if c / 2 ^ a % 2 = 1 then lw_ic n c k (a + 1) else if a + 1 = n then false else if c / 2 ^ (a + 1) % 2 = 1 then false else lw_ic n c k (a + 2)
def lw_ss (y p d : Nat) : Nat → Nat
  | 0 => 0
  | k + 1 => lw_ss y p d k + (if p < ro_bl y k then d else 0)
def lw_nb (n r y : Nat) : Nat → Nat → Nat → Nat → Nat
  | 0, _, _, v => v
  | k + 1, p, d, v => if n ≤ p then v else lw_nb n r y k (p + 1) (d / (n - p)) (v + lw_ss y p (d / (n - p)) (ro_bl r p))
theorem lw_c1 : ∀ n, n ∈ [4, 5, 6] → ∀ c, c < 64 → ro_isC n c = true → ∀ p, p < n → lw_mv c p < n ∧ lw_mv c (lw_mv c p) = p ∧ ro_bl (ro_af n c (ro_rnd n)) p = lw_mv c p := by decide +kernel
theorem lw_c2 : ∀ n, n ∈ [4, 5, 6] → ∀ c, c < 64 → (if 2 ^ n ≤ c ∨ c = 2 ^ n - 1 then false else lw_ic n c 9 0) = ro_isC n c := by decide +kernel
theorem lw_c3 : ro_en 4 (fun r => lw_nb 4 r (iv 4 r) 7 0 24 0 == ro_num 4 r 7 0 0) 4 [] 0 = true ∧ ro_en 5 (fun r => lw_nb 5 r (iv 5 r) 7 0 120 0 == ro_num 5 r 7 0 0) 5 [] 0 = true ∧ ro_en 6 (fun r => lw_nb 6 r (iv 6 r) 7 0 720 0 == ro_num 6 r 7 0 0) 6 [] 0 = true := by decide +kernel
theorem ro_N_in {n : Nat} (hN : ro_N n) : n ∈ [4, 5, 6] := by
  rcases hN with rfl | rfl | rfl <;> decide
theorem lw_num {n r : Nat} (hN : ro_N n) (hr : ro_V n r) : lw_nb n r (iv n r) 7 0 (ro_fac n) 0 = ro_num n r 7 0 0 := by
  rcases hN with rfl | rfl | rfl
  · exact beq_iff_eq.mp (ro_all (P := fun r => lw_nb 4 r (iv 4 r) 7 0 24 0 == ro_num 4 r 7 0 0) lw_c3.1 hr)
  · exact beq_iff_eq.mp (ro_all (P := fun r => lw_nb 5 r (iv 5 r) 7 0 120 0 == ro_num 5 r 7 0 0) lw_c3.2.1 hr)
  · exact beq_iff_eq.mp (ro_all (P := fun r => lw_nb 6 r (iv 6 r) 7 0 720 0 == ro_num 6 r 7 0 0) lw_c3.2.2 hr)
theorem iv_af {n c r : Nat} (hN : ro_N n) (hr : ro_V n r) (hc : ro_isC n c = true) (h64 : c < 64) : iv n (ro_af n c r) = ro_pk (fun b => lw_mv c (ro_bl (iv n r) b)) n := by
  have h1 := lw_c1 n (ro_N_in hN) c h64 hc
  have ha := ro_af_V hN hr hc
  have hn := ro_af_V hN (ro_V_rnd hN).1 hc
  refine ro_pk_congr (fun b hb => ?_)
  obtain ⟨p, hp, e⟩ := iv_on hN hr hb
  have ep : ro_bl (iv n r) b = p := by rw [← e]; exact iv_bl hN hr hp
  have hq := h1 p hp
  have e2 : ro_bl (ro_af n c r) (lw_mv c p) = b := by
    rw [ha.2.2, (ro_V_mul hN hr hn.1).2 _ hq.1, (h1 _ hq.1).2.2, hq.2.1]
    exact e
  show ro_fd (ro_af n c r) b n 0 = lw_mv c (ro_bl (iv n r) b)
  rw [ep, ← e2]
  exact iv_fd ha.1 hq.1
section LLF
variable {E : zE} {S : zS} {Q : Int32 → zS → Prop} {X : String → zS → Prop} {n r c y : Nat}
theorem l_moved_L {K : Int32 → Int32 → Int32 → zS → Prop} {P : Nat} (hc : c < 2 ^ 31) (hP : P < 20) : ∀ (w a : Nat), a ≤ P + 1 → P + 1 < a + w → K (nI c) (nI P) (nI (lw_at c P w a)) S → p_L_moved_L2 E K Q X w (nI c) (nI P) (nI a) S
  | 0, a, h1, h2, k => by omega
  | w + 1, a, h1, h2, k => by
    unfold lw_at at k
    have b2 : c / 2 ^ a % 2 < 2 := Nat.mod_lt _ (by decide)
    refine pk_le P a (fun h => by rw [if_pos h] at k; exact k) (fun h => ?_)
    rw [if_neg (by omega)] at k
    rw [ri_bit hc (by omega), ri_is1 b2, nI_1, show nI a + 2 = nI (a + 2) from nI_add a 2]
    refine pk_lt (a + 1) P (fun h3 => ?_) (fun h3 => ?_)
    · rw [if_pos h3] at k
      refine ⟨fun e => ?_, fun e => ?_⟩
      · rw [if_neg e] at k
        exact l_moved_L hc hP w (a + 2) (by omega) (by omega) k
      · rw [if_pos e] at k
        exact l_moved_L hc hP w (a + 1) (by omega) (by omega) k
    · rw [if_neg (by omega)] at k
      refine ⟨fun e => ?_, fun e => ⟨fun e2 => absurd e e2, fun _ => ?_⟩⟩
      · rw [if_neg e] at k
        exact k
      · rw [if_pos e] at k
        exact l_moved_L hc hP w (a + 1) (by omega) (by omega) k
theorem l_moved {l0 : Int32} {P : Nat} (hc : c < 2 ^ 31) (hP : P < 8) (k : Q (nI (lw_mv c P)) S) : p_L_moved E l0 (nI c) (nI P) S Q X := by
  refine ⟨10, l_moved_L hc (by omega) 10 0 (by omega) (by omega) ?_⟩
  unfold p_L_moved_J43
  have b2 : c / 2 ^ P % 2 < 2 := Nat.mod_lt _ (by decide)
  have la : ∀ w a, a ≤ P + 1 → lw_at c P w a ≤ P + 1 := by
    intro w
    induction w with
    | zero => intro a h; exact h
    | succ w ih =>
      intro a h
      unfold lw_at
      repeat' split
      all_goals first | exact h | exact ih _ (by omega)
  have l0 := la 10 0 (by omega)
  unfold lw_mv at k
  rw [ri_bit hc (by omega), ri_is1 b2]
  refine ⟨fun e => ?_, fun e => by rw [if_pos e] at k; exact k⟩
  rw [if_neg e] at k
  rw [nI_eq (by omega) (by omega)]
  refine ⟨fun h => ?_, fun h => ?_⟩
  · rw [if_neg h] at k
    by_cases p0 : P = 0
    · subst p0
      have : lw_at c 0 10 0 = 0 := by
        unfold lw_at
        rw [if_pos (Nat.le_refl _)]
      exact absurd this h
    · rw [show (nI P - 1 : Int32) = nI (P - 1) from pk_sub (b := 1) (by omega)]
      exact k
  · rw [if_pos h] at k
    rw [nI_1]
    exact k
theorem l_changed_L {K : Int32 → zS → Prop} {f : Nat → Nat} (hn : n ≤ 6) (hy : y < 2 ^ 31) (hc : c < 2 ^ 31) (hf : ∀ b, b < n → f b = lw_mv c (ro_bl y b) ∧ f b < 8) : ∀ (w b : Nat), b ≤ n → n < b + w → K (nI (ro_pk f n)) S → p_L_changed_L5 E K Q X w (nI y) (nI n) (nI c) (nI (ro_pk f b)) (nI b) S
  | 0, b, h1, h2, k => by omega
  | w + 1, b, h1, h2, k => by
    refine pk_le n b (fun h => ?_) (fun h => ?_)
    · have : b = n := by omega
      subst this
      exact k
    · rw [ri_bell hy (by omega)]
      refine l_moved hc (ro_bl_lt y b) ?_
      have fb := hf b h
      have lt : ro_pk f b < 8 ^ b := ro_pk_lt (fun q hq => (hf q (by omega)).2)
      have b8 := ri_b8 fb.2 (show b ≤ 7 by omega)
      rw [← fb.1, ri_shl (by omega) (by omega), ri_sum _ lt, nI_1]
      exact l_changed_L hn hy hc hf w (b + 1) (by omega) (by omega) k
theorem l_changed (hN : ro_N n) (hr : ro_V n r) (hc : ro_isC n c = true) (h64 : c < 64) (k : Q (nI (iv n (ro_af n c r))) S) : p_L_changed E (nI (iv n r)) (nI n) (nI c) S Q X := by
  have hn := ro_N6 hN
  have hV := (iv_V hN hr).1
  have lt := iv_lt2 hN hr
  rw [iv_af hN hr hc h64] at k
  refine ⟨8, l_changed_L (f := fun b => lw_mv c (ro_bl (iv n r) b)) hn.1 (by omega) (by omega) (fun b hb => ⟨rfl, ?_⟩) 8 0 (Nat.zero_le _) (by omega) k⟩
  have := (lw_c1 n (ro_N_in hN) c h64 hc _ (hV.2.1 b hb)).1
  show lw_mv c (ro_bl (iv n r) b) < 8
  omega
theorem l_rounds_L {K : Int32 → zS → Prop} (hn : n ≤ 6) : ∀ (w p : Nat), p ≤ n → n < p + w → K (nI (ro_rnd n)) S → p_L_rounds_L4 E K Q X w (nI n) (nI (ro_pk (fun p => p) p)) (nI p) S
  | 0, p, h1, h2, k => by omega
  | w + 1, p, h1, h2, k => by
    refine pk_le n p (fun h => ?_) (fun h => ?_)
    · have : p = n := by omega
      subst this
      exact k
    · have lt : ro_pk (fun p => p) p < 8 ^ p := ri_rnd_lt (by omega)
      have b8 := ri_b8 (show p < 8 by omega) (show p ≤ 7 by omega)
      rw [ri_shl (by omega) (by omega), ri_sum _ lt, nI_1]
      exact l_rounds_L hn w (p + 1) (by omega) (by omega) k
theorem l_rounds (hn : n ≤ 6) (k : Q (nI (ro_rnd n)) S) : p_L_rounds E (nI n) S Q X := ⟨8, l_rounds_L hn 8 0 (Nat.zero_le _) (by omega) k⟩
theorem l_bell_L {K : Int32 → zS → Prop} {K0 : zS → Prop} {p b0 : Nat} (hn : n ≤ 6) (hy : y < 2 ^ 31) (hp : p < 8) (h0 : b0 < n) (e : ro_bl y b0 = p) (h : ∀ q, q < b0 → ro_bl y q ≠ p) : ∀ (w b : Nat), b ≤ b0 → b0 < b + w → K (nI b0) S → p_L_bell_L2 E K K0 Q X w (nI y) (nI n) (nI p) (nI b) S
  | 0, b, h1, h2, k => by omega
  | w + 1, b, h1, h2, k => by
    have lt := ro_bl_lt y b
    refine pk_le n b (fun h => by omega) (fun h3 => ?_)
    rw [ri_bell hy (by omega), nI_eq (by omega) (by omega), nI_1]
    refine ⟨fun e2 => ?_, fun e2 => ?_⟩
    · have : b ≠ b0 := fun x => e2 (x ▸ e)
      exact l_bell_L hn hy hp h0 e h w (b + 1) (by omega) (by omega) k
    · have : b = b0 := by
        rcases Nat.lt_or_ge b b0 with x | x
        · exact absurd e2 (h b x)
        · omega
      subst this
      exact k
theorem l_bell {p : Nat} (hN : ro_N n) (hr : ro_V n r) (hp : p < n) (k : Q (nI (ro_bl r p)) S) : p_L_bell E (nI (iv n r)) (nI n) (nI p) S Q X := by
  have hn := ro_N6 hN
  have hV := (iv_V hN hr).1
  have lt := iv_lt2 hN hr
  have hb := hr.2.1 p hp
  have e := iv_bl hN hr hp
  exact ⟨7, l_bell_L hn.1 (by omega) (by omega) hb e (fun q hq x => by have := hV.2.2 q _ (by omega) hb (x.trans e.symm); omega) 7 0 (Nat.zero_le _) (by omega) k⟩
theorem l_num54 {K : Int32 → Int32 → Int32 → Int32 → Int32 → zS → Prop} {l1 : Int32} {p d v q : Nat} (hy : y < 2 ^ 31) (hp : p < 8) (hq : q < 8) : ∀ (w b : Nat), b ≤ q → q < b + w → K (nI y) l1 (nI (v + lw_ss y p d q)) (nI d) (nI p) S → p_L_number_L54 E K Q X w (nI y) l1 (nI (v + lw_ss y p d b)) (nI d) (nI p) (nI q) (nI b) S
  | 0, b, h1, h2, k => by omega
  | w + 1, b, h1, h2, k => by
    have lt := ro_bl_lt y b
    refine pk_le q b (fun h => ?_) (fun h3 => ?_)
    · have : b = q := by omega
      subst this
      exact k
    · rw [ri_bell hy (by omega), nI_1]
      have ih := l_num54 (K := K) (l1 := l1) (d := d) (v := v) hy hp hq w (b + 1) (by omega) (by omega) k
      have es : lw_ss y p d (b + 1) = lw_ss y p d b + (if p < ro_bl y b then d else 0) := rfl
      refine pk_le (ro_bl y b) p (fun h => ?_) (fun h => ?_)
      · rw [es, if_neg (by omega), Nat.add_zero] at ih
        rw [show nI (v + lw_ss y p d b) + 0 = nI (v + lw_ss y p d b) from Int32.add_zero _]
        exact ih
      · rw [es, if_pos h, ← Nat.add_assoc] at ih
        rw [nI_add]
        exact ih
theorem l_num29 {K : Int32 → zS → Prop} (hN : ro_N n) (hr : ro_V n r) : ∀ (w p d v : Nat), d < 2 ^ 31 → p ≤ n → n < p + w → K (nI (lw_nb n r (iv n r) w p d v)) S → p_L_number_L29 E K Q X w (nI (iv n r)) (nI n) (nI v) (nI d) (nI p) S
  | 0, p, d, v, hd, h1, h2, k => by omega
  | w + 1, p, d, v, hd, h1, h2, k => by
    have hn := ro_N6 hN
    have lt := iv_lt2 hN hr
    unfold lw_nb at k
    refine pk_le n p (fun h => ?_) (fun h => ?_)
    · rw [if_pos h] at k
      exact k
    · rw [if_neg (by omega)] at k
      have dd := Nat.div_le_self d (n - p)
      have hb := hr.2.1 p h
      rw [show (nI n - nI p : Int32) = nI (n - p) from pk_sub (by omega)]
      refine ⟨nI_ne0 (by omega) (by omega), l_bell hN hr h ⟨8, ?_⟩⟩
      rw [pk_div hd (by omega) (by omega)]
      refine l_num54 (v := v) (by omega) (by omega) (by omega) 8 0 (Nat.zero_le _) (by omega) ?_
      rw [nI_1]
      exact l_num29 hN hr w (p + 1) _ _ (by omega) (by omega) (by omega) k
theorem l_number (hN : ro_N n) (hr : ro_V n r) (k : Q (nI (ro_num n r 7 0 0)) S) : p_L_number E (nI (iv n r)) (nI n) S Q X := by
  rw [← lw_num hN hr] at k
  have g : ∀ d, d = ro_fac n → p_L_number_J25 E Q X (nI (iv n r)) (nI n) 0 (nI d) S := by
    intro d e
    subst e
    exact ⟨7, l_num29 hN hr 7 0 _ 0 (by have := ro_fac_lt (n := n); omega) (Nat.zero_le _) (by have := ro_N6 hN; omega) k⟩
  rcases hN with rfl | rfl | rfl
  · exact ⟨fun h => absurd rfl h, fun _ => g 24 rfl⟩
  · exact ⟨fun _ => ⟨fun h => absurd rfl h, fun _ => g 120 rfl⟩, fun h => absurd h (by decide)⟩
  · exact ⟨fun _ => ⟨fun _ => g 720 rfl, fun h => absurd h (by decide)⟩, fun h => absurd h (by decide)⟩
theorem l_isC_L {K0 K1 : zS → Prop} (hn : n ≤ 6) (hc : c < 2 ^ 31) : ∀ (w a : Nat), a ≤ n → n < a + w → (lw_ic n c w a = true → K1 S) → (lw_ic n c w a = false → K0 S) → p_L_isChange_L20 E K0 K1 Q X w (nI n) (nI c) (nI a) S
  | 0, a, h1, h2, k1, k0 => by omega
  | w + 1, a, h1, h2, k1, k0 => by
    unfold lw_ic at k1 k0
    have b2 : c / 2 ^ a % 2 < 2 := Nat.mod_lt _ (by decide)
    have b3 : c / 2 ^ (a + 1) % 2 < 2 := Nat.mod_lt _ (by decide)
    refine pk_le n a (fun h => ?_) (fun h => ?_)
    · rw [if_pos h] at k1
      exact k1 rfl
    · rw [if_neg (by omega)] at k1 k0
      rw [nI_1, ri_bit hc (by omega), ri_bit hc (by omega), ri_is1 b2, ri_is1 b3, show nI a + 2 = nI (a + 2) from nI_add a 2]
      refine ⟨fun e => ?_, fun e => ?_⟩
      · rw [if_neg e] at k1 k0
        refine pk_eq (a + 1) n (fun h3 => ?_) (fun h3 => ?_)
        · rw [if_pos h3] at k0
          exact k0 rfl
        · rw [if_neg h3] at k1 k0
          refine ⟨fun e3 => ?_, fun e3 => ?_⟩
          · rw [if_neg e3] at k1 k0
            exact l_isC_L hn hc w (a + 2) (by omega) (by omega) k1 k0
          · rw [if_pos e3] at k0
            exact k0 rfl
      · rw [if_pos e] at k1 k0
        exact l_isC_L hn hc w (a + 1) (by omega) (by omega) k1 k0
theorem l_isChange (hN : ro_N n) (hc : c < 64) (k1 : ro_isC n c = true → Q 1 S) (k0 : ro_isC n c = false → Q 0 S) : p_L_isChange E (nI n) (nI c) S Q X := by
  have hn := ro_N6 hN
  have e := lw_c2 n (ro_N_in hN) c hc
  have p6 := z_pow6 hN
  have p0 : 0 < 2 ^ n := Nat.pow_pos (by decide)
  unfold p_L_isChange
  rw [ri_2n hn.1, show (nI (2 ^ n) - 1 : Int32) = nI (2 ^ n - 1) from pk_sub (b := 1) (by omega)]
  refine pk_le (2 ^ n) c (fun h => ?_) (fun h => ?_)
  · rw [if_pos (Or.inl h)] at e
    exact ⟨Or.inl rfl, k0 e.symm⟩
  · rw [nI_eq (by omega) (by omega)]
    refine ⟨fun h2 => ⟨9, ?_⟩, fun h2 => ?_⟩
    · rw [if_neg (by omega)] at e
      exact l_isC_L hn.1 (by omega) 9 0 (Nat.zero_le _) (by omega) (fun x => ⟨Or.inr rfl, k1 (e ▸ x)⟩) (fun x => ⟨Or.inl rfl, k0 (e ▸ x)⟩)
    · rw [if_pos (Or.inr h2)] at e
      exact ⟨Or.inl rfl, k0 e.symm⟩
end LLF
