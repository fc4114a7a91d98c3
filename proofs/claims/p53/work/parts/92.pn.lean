/-! ways to call leads, as digits and as numbers -/
def pn (d : Nat → Nat) : Nat → Nat
  | 0 => 0
  | k + 1 => 3 * pn d k + d k
def D3 (N w k : Nat) : Nat := w / 3 ^ (N - 1 - k) % 3
def up1 (d : Nat → Nat) (p x : Nat) : Nat → Nat := fun k => if k = p then x else d k
theorem pn_c {a b : Nat → Nat} : ∀ m, (∀ k, k < m → a k = b k) → pn a m = pn b m
  | 0, _ => rfl
  | m + 1, h => by
    show 3 * pn a m + a m = 3 * pn b m + b m
    rw [pn_c m (fun k hk => h k (by omega)), h m (by omega)]
theorem pn_lt {a b : Nat → Nat} {m : Nat} (h : pn a m < pn b m) : ∀ j, (∀ k, k < m + j → a k < 3) → pn a (m + j) < pn b (m + j)
  | 0, _ => h
  | j + 1, ha => by
    have ih := pn_lt h j (fun k hk => ha k (by omega))
    have := ha (m + j) (by omega)
    show 3 * pn a (m + j) + a (m + j) < 3 * pn b (m + j) + b (m + j)
    omega
theorem pn_ltN {a b : Nat → Nat} {m N : Nat} (h : pn a m < pn b m) (hm : m ≤ N) (ha : ∀ k, k < N → a k < 3) : pn a N < pn b N := by
  have := pn_lt h (N - m) (fun k hk => ha k (by omega))
  rw [show m + (N - m) = N by omega] at this
  exact this
theorem pn_ge {a b : Nat → Nat} {m : Nat} (h : pn b m ≤ pn a m) : ∀ j, (∀ k, m ≤ k → k < m + j → b k = 0) → pn b (m + j) ≤ pn a (m + j)
  | 0, _ => h
  | j + 1, hb => by
    have ih := pn_ge h j (fun k h1 h2 => hb k h1 (by omega))
    have := hb (m + j) (by omega) (by omega)
    show 3 * pn b (m + j) + b (m + j) ≤ 3 * pn a (m + j) + a (m + j)
    omega
theorem pn_geN {a b : Nat → Nat} {m N : Nat} (h : pn b m ≤ pn a m) (hm : m ≤ N) (hb : ∀ k, m ≤ k → k < N → b k = 0) : pn b N ≤ pn a N := by
  have := pn_ge h (N - m) (fun k h1 h2 => hb k h1 (by omega))
  rw [show m + (N - m) = N by omega] at this
  exact this
theorem pn_eq {a b : Nat → Nat} : ∀ m, pn a m = pn b m → (∀ k, k < m → a k < 3) → (∀ k, k < m → b k < 3) → ∀ k, k < m → a k = b k
  | 0, _, _, _, k, hk => absurd hk (Nat.not_lt_zero k)
  | m + 1, h, ha, hb, k, hk => by
    have h' : 3 * pn a m + a m = 3 * pn b m + b m := h
    have h1 := ha m (by omega)
    have h2 := hb m (by omega)
    by_cases e : k = m
    · rw [e]
      omega
    · exact pn_eq m (by omega) (fun k hk => ha k (by omega)) (fun k hk => hb k (by omega)) k (by omega)
theorem pn_b {d : Nat → Nat} : ∀ m, (∀ k, k < m → d k < 3) → pn d m < 3 ^ m
  | 0, _ => Nat.lt_of_lt_of_eq Nat.zero_lt_one rfl
  | m + 1, h => by
    have ih := pn_b (d := d) m (fun k hk => h k (by omega))
    have := h m (by omega)
    show 3 * pn d m + d m < 3 ^ (m + 1)
    rw [Nat.pow_succ]
    omega
theorem pn_D0 {N w : Nat} (h : w < 3 ^ N) : ∀ j, j ≤ N → pn (D3 N w) j = w / 3 ^ (N - j)
  | 0, _ => by
    rw [Nat.sub_zero, Nat.div_eq_of_lt h]
    rfl
  | j + 1, hj => by
    show 3 * pn (D3 N w) j + w / 3 ^ (N - 1 - j) % 3 = w / 3 ^ (N - (j + 1))
    rw [pn_D0 h j (by omega), show N - j = (N - 1 - j) + 1 by omega, Nat.pow_succ, ← Nat.div_div_eq_div_mul, show N - (j + 1) = N - 1 - j by omega]
    omega
theorem pn_D {N w : Nat} (h : w < 3 ^ N) : pn (D3 N w) N = w := by
  rw [pn_D0 h N (Nat.le_refl _), Nat.sub_self, Nat.pow_zero, Nat.div_one]
theorem D3_lt {N w k : Nat} : D3 N w k < 3 := Nat.mod_lt _ (by decide)
theorem D3_pn {N : Nat} {d : Nat → Nat} (h : ∀ k, k < N → d k < 3) : ∀ k, k < N → D3 N (pn d N) k = d k :=
  pn_eq N (pn_D (pn_b N h)) (fun _ _ => D3_lt) h
theorem pn_up {d : Nat → Nat} {p x : Nat} (hx : x < d p) : ∀ N, p < N → pn (up1 d p x) N < pn d N
  | 0, h => absurd h (Nat.not_lt_zero p)
  | N + 1, h => by
    show 3 * pn (up1 d p x) N + up1 d p x N < 3 * pn d N + d N
    by_cases e : N = p
    · subst e
      rw [pn_c N (a := up1 d N x) (b := d) (fun k hk => if_neg (by omega)), show up1 d N x N = x from if_pos rfl]
      omega
    · rw [show up1 d p x N = d N from if_neg e]
      have := pn_up hx N (by omega)
      omega
/-! sound ways -/
def cw (Z : zZ) (i N : Nat) (d : Nat → Nat) : List Nat := z_tcG Z (fun _ => i) d N
def sw (Z : zZ) (i N : Nat) (d : Nat → Nat) : Bool := ro_la (Z 4 i) (ro_rnd (Z 4 i)) (cw Z i N d) == ro_rnd (Z 4 i) && z_ndB (fun r => (ro_ws (Z 4 i) (ro_rnd (Z 4 i)) (cw Z i N d)).getD r 0) (cw Z i N d).length
theorem cw_c {Z : zZ} {i N : Nat} {d d' : Nat → Nat} (h : ∀ k, k < N → d k = d' k) : cw Z i N d = cw Z i N d' := z_tcG_congr (fun j hj => ⟨rfl, h j hj⟩)
theorem sw_c {Z : zZ} {i N : Nat} {d d' : Nat → Nat} (h : ∀ k, k < N → d k = d' k) : sw Z i N d = sw Z i N d' := by
  unfold sw
  rw [cw_c h]
theorem z_lc_like {Z : zZ} {i c c' : Nat} (h : z_ch Z i c (Z 5 i - 1) = z_ch Z i c' (Z 5 i - 1)) : z_lc Z i c = z_lc Z i c' := by
  unfold z_lc
  refine List.map_congr_left (fun k hk => ?_)
  by_cases e : k = Z 5 i - 1
  · rw [e]
    exact h
  · unfold z_ch
    rw [if_neg (fun x => e x.1), if_neg (fun x => e x.1)]
theorem sw_like {Z : zZ} {i N p x : Nat} {d : Nat → Nat} (h : z_ch Z i x (Z 5 i - 1) = z_ch Z i (d p) (Z 5 i - 1)) : sw Z i N (up1 d p x) = sw Z i N d := by
  have e : ∀ k, z_tcG Z (fun _ => i) (up1 d p x) k = z_tcG Z (fun _ => i) d k := by
    intro k
    induction k with
    | zero => rfl
    | succ k ih =>
      show z_tcG Z (fun _ => i) (up1 d p x) k ++ z_lc Z i (up1 d p x k) = z_tcG Z (fun _ => i) d k ++ z_lc Z i (d k)
      rw [ih]
      congr 1
      by_cases c : k = p
      · rw [c, show up1 d p x p = x from if_pos rfl]
        exact z_lc_like h
      · rw [show up1 d p x k = d k from if_neg c]
  unfold sw cw
  rw [e]
theorem ro_ws_ap2 {n : Nat} : ∀ (l l2 : List Nat) (s : Nat), ro_ws n s (l ++ l2) = ro_ws n s l ++ ro_ws n (ro_la n s l) l2
  | [], l2, s => rfl
  | c :: l, l2, s => by
    show ro_af n c s :: ro_ws n (ro_af n c s) (l ++ l2) = ro_af n c s :: ro_ws n (ro_af n c s) l ++ ro_ws n (ro_la n (ro_af n c s) l) l2
    rw [ro_ws_ap2 l l2]
    rfl
theorem z_tcG_pre {Z : zZ} {mm cc : Nat → Nat} (m : Nat) : ∀ j, ∃ l, z_tcG Z mm cc (m + j) = z_tcG Z mm cc m ++ l
  | 0 => ⟨[], by rw [List.append_nil]; rfl⟩
  | j + 1 => by
    obtain ⟨l, e⟩ := z_tcG_pre (Z := Z) (mm := mm) (cc := cc) m j
    refine ⟨l ++ z_lc Z (mm (m + j)) (cc (m + j)), ?_⟩
    show z_tcG Z mm cc (m + j) ++ z_lc Z (mm (m + j)) (cc (m + j)) = _
    rw [e, List.append_assoc]
theorem ws_pre {Z : zZ} {mm cc : Nat → Nat} {n m N r : Nat} (hm : m ≤ N) (hr : r < (z_tcG Z mm cc m).length) : (ro_ws n (ro_rnd n) (z_tcG Z mm cc N))[r]? = (ro_ws n (ro_rnd n) (z_tcG Z mm cc m))[r]? := by
  obtain ⟨l, e⟩ := z_tcG_pre (Z := Z) (mm := mm) (cc := cc) m (N - m)
  rw [show m + (N - m) = N by omega] at e
  rw [e, ro_ws_ap2, List.getElem?_append_left (by rw [ro_ws_len]; exact hr)]
theorem tcG_mono {Z : zZ} {mm cc : Nat → Nat} {m N : Nat} (hm : m ≤ N) : (z_tcG Z mm cc m).length ≤ (z_tcG Z mm cc N).length := by
  obtain ⟨l, e⟩ := z_tcG_pre (Z := Z) (mm := mm) (cc := cc) m (N - m)
  rw [show m + (N - m) = N by omega] at e
  rw [e, List.length_append]
  omega
theorem getD_get {l : List Nat} {r x : Nat} (h : l[r]? = some x) : l.getD r 0 = x := by
  rw [List.getD_eq_getElem?_getD, h]
  rfl
/-- a repeat among the first leads -/
theorem sw_rep {Z : zZ} {i N m B K : Nat} {d d' : Nat → Nat} (hm : m ≤ N) (ag : ∀ k, k < m → d k = d' k) (hB : B < (z_tcG Z (fun _ => i) d' m).length) (hK : K < B) (e : (ro_ws (Z 4 i) (ro_rnd (Z 4 i)) (cw Z i N d'))[K]? = (ro_ws (Z 4 i) (ro_rnd (Z 4 i)) (cw Z i N d'))[B]?) : sw Z i N d = false := by
  have em : z_tcG Z (fun _ => i) d m = z_tcG Z (fun _ => i) d' m := z_tcG_congr (fun j hj => ⟨rfl, ag j hj⟩)
  have g : ∀ r, r < (z_tcG Z (fun _ => i) d' m).length → (ro_ws (Z 4 i) (ro_rnd (Z 4 i)) (cw Z i N d))[r]? = (ro_ws (Z 4 i) (ro_rnd (Z 4 i)) (cw Z i N d'))[r]? := fun r hr => by
    unfold cw
    rw [ws_pre hm (by rw [em]; exact hr), ws_pre hm hr, em]
  have lN : (z_tcG Z (fun _ => i) d' m).length ≤ (cw Z i N d).length := by
    rw [← em]
    exact tcG_mono hm
  obtain ⟨x, hx⟩ := ro_ws_some (n := Z 4 i) (cs := cw Z i N d) (r := B) (by omega)
  have hK2 : (ro_ws (Z 4 i) (ro_rnd (Z 4 i)) (cw Z i N d))[K]? = some x := by
    rw [g K (by omega), e, ← g B hB]
    exact hx
  cases y : sw Z i N d with
  | false => rfl
  | true =>
    unfold sw at y
    rw [Bool.and_eq_true, z_ndB_iff] at y
    exact absurd ((getD_get hK2).trans (getD_get hx).symm) (y.2 B (by omega) K hK)
