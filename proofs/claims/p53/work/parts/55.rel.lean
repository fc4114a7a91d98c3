/-! what the class's contents are to the reference's -/
def z_pr (Z : zZ) (i : Nat) : List Nat := ro_ws (Z 4 i) (ro_rnd (Z 4 i)) (z_lc Z i 0)
/-- the row with the number k is false for the method i -/
def z_fl (Z : zZ) (i k : Nat) : Bool := (ro_ws (Z 4 i) (ro_of (Z 4 i) k) (z_lc Z i 0)).any (fun x => (z_pr Z i).contains x) && !(ro_of (Z 4 i) k == ro_rnd (Z 4 i))
def ro_cb (P : Nat → Bool) : Nat → Nat
  | 0 => 0
  | k + 1 => ro_cb P k + (if P k = true then 1 else 0)
def v_has (f : Nat → Nat) (m k : Nat) : Bool := (List.range m).any (fun j => f j == k)
def V_F (m : Nat) (f : Nat → Nat) (n : Nat) (P : Nat → Bool) : Prop := m ≤ 132 ∧ (∀ j, j < m → f j < ro_fac n) ∧ (∀ k, k < ro_fac n → v_has f m k = P k) ∧ m = ro_cb P (ro_fac n)
def V_M (V : vV) (Z : zZ) : Prop := V 1000 0 0 = Z 3 0 ∧ ∀ i, i < Z 3 0 → V 3000 0 i = i ∧ V 500 i 0 = i ∧ V 501 i 0 = Z 4 i ∧ V 502 i 0 = Z 5 i ∧ (∀ k, k < Z 5 i → V 504 i k = Z 6 (12 * i + k)) ∧ (∀ c, c < 3 → V 505 i c = z_ch Z i c (Z 5 i - 1)) ∧ V_F (V 503 i 0) (V 506 i) (Z 4 i) (z_fl Z i)
def V_D (V : vV) (Z : zZ) : Prop := V 1002 0 0 = Z 1 0 ∧ Z 1 0 ≤ 12 ∧ ∀ k, k < 12 → V 1001 0 k = Z 2 k ∧ Z 2 k < 64
def W_T (V : vV) (Z : zZ) (s t : Nat) : Prop := V 900 s 0 = t ∧ V 901 s 0 = z_st Z t ∧ V 902 s 0 = z_L Z t ∧ V 906 s 0 = Z 11 t ∧ (∀ k, k < Z 11 t → V 2906 s k = z_mt Z t k ∧ V 907 s k = z_cl Z t k) ∧ (∀ r, r < z_L Z t → V 908 s r = z_f Z t r) ∧ z_R (z_f Z t) (z_L Z t) (nI (V 903 s 0)) ∧ V 905 s 0 = (if z_la Z t = ro_rnd (z_st Z t) then 1 else 0)
def V_T (V : vV) (Z : zZ) : Prop := V 1003 0 0 = Z 10 0 ∧ (∀ t, t < Z 10 0 → V 3003 0 t < Z 10 0 + 2 ∧ W_T V Z (V 3003 0 t) t)
def V_J (V : vV) (Z : zZ) : Prop := (∀ t u, t < Z 10 0 → u < Z 10 0 → V 3003 0 t = V 3003 0 u → t = u) ∧ (∀ t, t < Z 10 0 → V 3003 0 t ≠ V 1006 0 0 ∧ V 3003 0 t ≠ V 301 0 0) ∧ V 1006 0 0 ≠ V 301 0 0 ∧ V 1006 0 0 < Z 10 0 + 2 ∧ V 301 0 0 < Z 10 0 + 2
def V_L (V : vV) (Z : zZ) : Prop := V 906 (V 1006 0 0) 0 = Z 8 0 ∧ Z 8 0 ≤ 20 ∧ (∀ k, k < Z 8 0 → V 2906 (V 1006 0 0) k = Z 9 k / 3 ∧ V 907 (V 1006 0 0) k = Z 9 k % 3 ∧ Z 9 k / 3 < Z 3 0 ∧ Z 4 (Z 9 k / 3) = Z 4 (Z 9 0 / 3)) ∧ (0 < Z 8 0 → V 901 (V 1006 0 0) 0 = Z 4 (Z 9 0 / 3))
def V_P (V : vV) : Prop := ∀ k, V 600 0 k < 240
def V_B (V : vV) (Z : zZ) : Prop := ∀ b, b < 6 → V 200 b 0 = Z 19 b ∧ V 201 b 0 = Z 36 b ∧ V 202 b 0 = Z 37 b ∧ nI (V 203 b 0) = nI (Z 38 b) ∧ V 204 b 0 = Z 34 b ∧ V 205 b 0 = Z 17 b ∧ V 205 b 1 = Z 17 (6 + b) ∧ V 206 b 0 = Z 18 b ∧ V 206 b 1 = Z 18 (6 + b) ∧ ∀ r, r < 240 → V 207 b r = Z 35 (240 * b + r)
def v_day (V : vV) (d : Nat) : List Nat := (List.range (V 400 d 0)).map (V 2400 d)
def V_Y (V : vV) (Z : zZ) : Prop := ∀ d, d ≤ 60 → v_day V d = (z_day Z d).map (V 3003 0)
def V_R (V : vV) (Z : zZ) : Prop := (∀ i, i < 4 → V 800 0 i = Z 24 i) ∧ V 802 0 0 = Z 20 0 ∧ nI (V 803 0 0) = nI (Z 23 0) ∧ V 804 0 0 = Z 25 0 ∧ nI (V 805 0 0) = nI (Z 26 0)
def V_G (V : vV) (Z : zZ) : Prop := V 1009 0 0 = Z 27 0 ∧ (Z 27 0 = 1 → V 700 0 0 = V 3003 0 (Z 28 0) ∧ V 701 0 0 = Z 31 0 ∧ V 702 0 0 = Z 32 0 ∧ V 704 0 0 = Z 29 0 ∧ V 705 0 0 = Z 30 0)
def V_S (V : vV) (Z : zZ) : Prop := V 1010 0 0 = Z 33 0 ∧ nI (V 1011 0 0) = nI (Z 39 0) ∧ nI (V 1012 0 0) = nI (Z 40 0) ∧ nI (V 1013 0 0) = nI (Z 41 0)
/-- what always holds of the reference's state -/
def I_fit (Z : zZ) : Prop := ∀ d, Z 20 0 ≤ d → d ≤ 60 → ∀ t, t ∈ z_day Z d → z_fit Z t = true
def I_nd (Z : zZ) : Prop := ∀ d, d ≤ 60 → (z_day Z d).Nodup
def I_w (Z : zZ) : Prop := Z 27 0 = 0 → ∀ i, i < 12 → z_nw Z i = false
def I_g (Z : zZ) : Prop := Z 27 0 < 2 ∧ (Z 27 0 = 1 → Z 28 0 < Z 10 0 ∧ Z 28 0 ∈ z_day Z (Z 20 0) ∧ Z 29 0 < 2 ^ z_st Z (Z 28 0) ∧ (100 ≤ Z 30 0 ∧ Z 30 0 ≤ 1000) ∧ Z 31 0 < z_L Z (Z 28 0) ∧ Z 32 0 ≤ 2000000000 ∧ (∀ b, z_st Z (Z 28 0) ≤ b → b < 6 → z_nw Z b = false ∧ z_nw Z (6 + b) = false))
def I_n (Z : zZ) : Prop := (∀ i, Z 35 i ≤ 2000000000) ∧ Z 33 0 ≤ 1000 ∧ (∀ b, b < 6 → Z 34 b ≤ 240) ∧ True
def IZ (Z : zZ) : Prop := (z_M Z ∧ z_TT Z ∧ z_B Z ∧ z_P Z ∧ z_R4 Z ∧ Z 20 0 ≤ 60) ∧ I_fit Z ∧ I_nd Z ∧ I_w Z ∧ I_g Z ∧ I_n Z
def RV (V : vV) (Z : zZ) : Prop := V_M V Z ∧ V_D V Z ∧ V_T V Z ∧ V_J V Z ∧ V_L V Z ∧ V_P V ∧ V_B V Z ∧ V_Y V Z ∧ V_R V Z ∧ V_G V Z ∧ V_S V Z
def RR (E : zE) (x m : Nat) (Sc Sm : zS) : Prop := ∃ ad la V ma Z, (RC E ad la (sd (Z 3 0) (Z 10 0 + 2) (Z 27 0)) V Sc ∧ ad 10 0 = x) ∧ RM ma Z m Sm ∧ RV V Z ∧ IZ Z
/-! what each part looks at -/
theorem z_fl_congr {Z Z' : zZ} (h4 : Z' 4 = Z 4) (h5 : Z' 5 = Z 5) (h6 : Z' 6 = Z 6) (h7 : Z' 7 = Z 7) : z_fl Z' = z_fl Z := by
  have e : z_ch Z' = z_ch Z := by
    unfold z_ch
    rw [h5, h6, h7]
  unfold z_fl z_pr z_lc
  rw [h4, h5, e]
theorem V_M.cg {V V' : vV} {Z Z' : zZ} (h : V_M V Z) (v : ∀ f, f ∈ [1000, 3000, 500, 501, 502, 503, 504, 505, 506] → V' f = V f) (z : ∀ f, f ∈ [3, 4, 5, 6, 7] → Z' f = Z f) : V_M V' Z' := by
  have e : z_ch Z' = z_ch Z := by
    unfold z_ch
    rw [z 5 (by decide), z 6 (by decide), z 7 (by decide)]
  unfold V_M
  rw [z_fl_congr (z 4 (by decide)) (z 5 (by decide)) (z 6 (by decide)) (z 7 (by decide)), v 1000 (by decide), v 3000 (by decide), v 500 (by decide), v 501 (by decide), v 502 (by decide), v 503 (by decide), v 504 (by decide), v 505 (by decide), v 506 (by decide), z 3 (by decide), z 4 (by decide), z 5 (by decide), z 6 (by decide), e]
  exact h
theorem V_D.cg {V V' : vV} {Z Z' : zZ} (h : V_D V Z) (v : ∀ f, f ∈ [1002, 1001] → V' f = V f) (z : ∀ f, f ∈ [1, 2] → Z' f = Z f) : V_D V' Z' := by
  unfold V_D
  rw [v 1002 (by decide), v 1001 (by decide), z 1 (by decide), z 2 (by decide)]
  exact h
theorem W_T.cg {V V' : vV} {Z Z' : zZ} {s t : Nat} (h : W_T V Z s t) (v : ∀ f, f ∈ [900, 901, 902, 903, 905, 906, 907, 908, 2906] → V' f s = V f s) (z : z_C Z Z') : W_T V' Z' s t := by
  have e11 : Z' 11 = Z 11 := z 11 (by decide)
  have e12 : Z' 12 = Z 12 := z 12 (by decide)
  unfold W_T z_mt z_cl
  rw [v 900 (by decide), v 901 (by decide), v 902 (by decide), v 903 (by decide), v 905 (by decide), v 906 (by decide), v 907 (by decide), v 908 (by decide), v 2906 (by decide), z_C_st z, z_C_L z, z_C_f z, z_C_la z, e11, e12]
  exact h
theorem V_T.cg {V V' : vV} {Z Z' : zZ} (h : V_T V Z) (v : ∀ f, f ∈ [1003, 3003] → V' f = V f) (v2 : ∀ t, t < Z 10 0 → ∀ f, f ∈ [900, 901, 902, 903, 905, 906, 907, 908, 2906] → V' f (V 3003 0 t) = V f (V 3003 0 t)) (z : z_C Z Z') : V_T V' Z' := by
  have e10 : Z' 10 = Z 10 := z 10 (by decide)
  unfold V_T
  rw [v 1003 (by decide), v 3003 (by decide), e10]
  exact ⟨h.1, fun t ht => ⟨(h.2 t ht).1, (h.2 t ht).2.cg (v2 t ht) z⟩⟩
theorem V_J.cg {V V' : vV} {Z Z' : zZ} (h : V_J V Z) (v : ∀ f, f ∈ [3003, 1006, 301] → V' f = V f) (z : Z' 10 = Z 10) : V_J V' Z' := by
  unfold V_J
  rw [v 3003 (by decide), v 1006 (by decide), v 301 (by decide), z]
  exact h
theorem V_L.cg {V V' : vV} {Z Z' : zZ} (h : V_L V Z) (v0 : V' 1006 = V 1006) (v : ∀ f, f ∈ [901, 906, 907, 2906] → V' f (V 1006 0 0) = V f (V 1006 0 0)) (z : ∀ f, f ∈ [3, 4, 8, 9] → Z' f = Z f) : V_L V' Z' := by
  unfold V_L
  rw [v0, v 901 (by decide), v 906 (by decide), v 907 (by decide), v 2906 (by decide), z 3 (by decide), z 4 (by decide), z 8 (by decide), z 9 (by decide)]
  exact h
theorem V_P.cg {V V' : vV} (h : V_P V) (v : V' 600 = V 600) : V_P V' := by
  unfold V_P
  rw [v]
  exact h
theorem V_B.cg {V V' : vV} {Z Z' : zZ} (h : V_B V Z) (v : ∀ f, f ∈ [200, 201, 202, 203, 204, 205, 206, 207] → V' f = V f) (z : ∀ f, f ∈ [17, 18, 19, 34, 35, 36, 37, 38] → Z' f = Z f) : V_B V' Z' := by
  unfold V_B
  rw [v 200 (by decide), v 201 (by decide), v 202 (by decide), v 203 (by decide), v 204 (by decide), v 205 (by decide), v 206 (by decide), v 207 (by decide), z 17 (by decide), z 18 (by decide), z 19 (by decide), z 34 (by decide), z 35 (by decide), z 36 (by decide), z 37 (by decide), z 38 (by decide)]
  exact h
theorem V_Y.cg {V V' : vV} {Z Z' : zZ} (h : V_Y V Z) (v : ∀ f, f ∈ [400, 2400, 3003] → V' f = V f) (z : ∀ f, f ∈ [21, 22] → Z' f = Z f) : V_Y V' Z' := by
  unfold V_Y v_day z_day
  rw [v 400 (by decide), v 2400 (by decide), v 3003 (by decide), z 21 (by decide), z 22 (by decide)]
  exact h
theorem V_R.cg {V V' : vV} {Z Z' : zZ} (h : V_R V Z) (v : ∀ f, f ∈ [800, 802, 803, 804, 805] → V' f = V f) (z : ∀ f, f ∈ [20, 23, 24, 25, 26] → Z' f = Z f) : V_R V' Z' := by
  unfold V_R
  rw [v 800 (by decide), v 802 (by decide), v 803 (by decide), v 804 (by decide), v 805 (by decide), z 20 (by decide), z 23 (by decide), z 24 (by decide), z 25 (by decide), z 26 (by decide)]
  exact h
theorem V_G.cg {V V' : vV} {Z Z' : zZ} (h : V_G V Z) (v : ∀ f, f ∈ [1009, 700, 701, 702, 704, 705, 3003] → V' f = V f) (z : ∀ f, f ∈ [27, 28, 29, 30, 31, 32] → Z' f = Z f) : V_G V' Z' := by
  unfold V_G
  rw [v 1009 (by decide), v 700 (by decide), v 701 (by decide), v 702 (by decide), v 704 (by decide), v 705 (by decide), v 3003 (by decide), z 27 (by decide), z 28 (by decide), z 29 (by decide), z 30 (by decide), z 31 (by decide), z 32 (by decide)]
  exact h
theorem V_S.cg {V V' : vV} {Z Z' : zZ} (h : V_S V Z) (v : ∀ f, f ∈ [1010, 1011, 1012, 1013] → V' f = V f) (z : ∀ f, f ∈ [33, 39, 40, 41] → Z' f = Z f) : V_S V' Z' := by
  unfold V_S
  rw [v 1010 (by decide), v 1011 (by decide), v 1012 (by decide), v 1013 (by decide), z 33 (by decide), z 39 (by decide), z 40 (by decide), z 41 (by decide)]
  exact h
theorem z_nw_congr {Z Z' : zZ} (h1 : Z' 17 = Z 17) (h2 : Z' 18 = Z 18) : z_nw Z' = z_nw Z := by
  unfold z_nw
  rw [h1, h2]
/-- scratch: what the reference only writes rows in -/
def z_scr (Z Z' : zZ) : Prop := ∀ f, f ∉ [0, 13, 14, 15, 16] → Z' f = Z f
theorem z_scr.refl (Z : zZ) : z_scr Z Z := fun _ _ => rfl
theorem z_scr.trans {Z Z1 Z2 : zZ} (h : z_scr Z Z1) (h2 : z_scr Z1 Z2) : z_scr Z Z2 := fun f hf => (h2 f hf).trans (h f hf)
theorem z_scr.up {Z Z' : zZ} (h : z_scr Z Z') {f i v : Nat} (hf : f ∈ [0, 13, 14, 15, 16]) : z_scr Z (up Z' f i v) := fun g hg => by
  rw [up_f (show g ≠ f from fun e => hg (by rw [e]; exact hf))]
  exact h g hg
theorem z_scr.E {Z Z1 Z2 : zZ} (h : z_scr Z Z1) (h2 : z_E Z1 Z2) : z_scr Z Z2 := fun f hf => (h2 f (fun e => hf (by subst e; decide)) (fun e => hf (by subst e; decide))).trans (h f hf)
theorem z_scr.one {Z Z1 Z2 : zZ} {q : Nat} (h : z_scr Z Z1) (hq : q ∈ [0, 13, 14, 15, 16]) (h2 : ∀ f, f ≠ q → Z2 f = Z1 f) : z_scr Z Z2 := fun f hf => (h2 f (fun e => hf (e ▸ hq))).trans (h f hf)
theorem z_scr.in {Z Z' : zZ} (h : z_scr Z Z') (l : List Nat) (hl : ∀ f, f ∈ l → f ∉ [0, 13, 14, 15, 16]) : ∀ f, f ∈ l → Z' f = Z f := fun f hf => h f (hl f hf)
theorem z_scr.C {Z Z' : zZ} (h : z_scr Z Z') : z_C Z Z' := h.in _ (by decide)
theorem RV.scr {V : vV} {Z Z' : zZ} (h : RV V Z) (e : z_scr Z Z') : RV V Z' := by
  obtain ⟨m1, m2, m3, m4, m5, m6, m7, m8, m9, m10, m11⟩ := h
  exact ⟨m1.cg (fun _ _ => rfl) (e.in _ (by decide)), m2.cg (fun _ _ => rfl) (e.in _ (by decide)), m3.cg (fun _ _ => rfl) (fun _ _ _ _ => rfl) e.C, m4.cg (fun _ _ => rfl) (e 10 (by decide)), m5.cg rfl (fun _ _ => rfl) (e.in _ (by decide)), m6, m7.cg (fun _ _ => rfl) (e.in _ (by decide)), m8.cg (fun _ _ => rfl) (e.in _ (by decide)), m9.cg (fun _ _ => rfl) (e.in _ (by decide)), m10.cg (fun _ _ => rfl) (e.in _ (by decide)), m11.cg (fun _ _ => rfl) (e.in _ (by decide))⟩
theorem IZ.cg {Z Z' : zZ} (h : IZ Z) (e : ∀ f, f ∈ [3, 4, 5, 6, 7, 10, 11, 12, 17, 18, 19, 20, 21, 22, 24, 25, 26, 27, 28, 29, 30, 31, 32, 33, 34, 35] → Z' f = Z f) : IZ Z' := by
  obtain ⟨⟨h1, h2, h3, h4, h5, h6⟩, f1, f2, f3, f4, f5⟩ := h
  have c : z_C Z Z' := fun f hf => e f (by
    have : ∀ f, f ∈ [3, 4, 5, 6, 7, 10, 11, 12] → f ∈ [3, 4, 5, 6, 7, 10, 11, 12, 17, 18, 19, 20, 21, 22, 24, 25, 26, 27, 28, 29, 30, 31, 32, 33, 34, 35] := by decide
    exact this f hf)
  have ed : ∀ d, z_day Z' d = z_day Z d := z_day_congr (e 21 (by decide)) (e 22 (by decide))
  have ef : z_fit Z' = z_fit Z := z_fit_congr c (e 18 (by decide)) (e 19 (by decide))
  have en : z_nw Z' = z_nw Z := z_nw_congr (e 17 (by decide)) (e 18 (by decide))
  have e20 := e 20 (by decide)
  have e27 := e 27 (by decide)
  refine ⟨⟨z_C_M c h1, z_C_TT c h2, z_B_congr (e 18 (by decide)) (e 19 (by decide)) h3, z_P_congr (e 21 (by decide)) (e 22 (by decide)) (e 10 (by decide)) h4, ?_, by rw [e20]; exact h6⟩, ?_, ?_, ?_, ?_, ?_⟩
  · unfold z_R4
    rw [e 24 (by decide), e 25 (by decide), e 26 (by decide)]
    exact h5
  · unfold I_fit
    rw [e20, ef]
    intro d h1 h2 t ht
    rw [ed] at ht
    exact f1 d h1 h2 t ht
  · intro d hd
    rw [ed]
    exact f2 d hd
  · unfold I_w
    rw [e27, en]
    exact f3
  · unfold I_g
    rw [e27, e 28 (by decide), e 10 (by decide), e20, ed, e 29 (by decide), z_C_st c, e 30 (by decide), e 31 (by decide), z_C_L c, e 32 (by decide), en]
    exact f4
  · unfold I_n
    rw [e 35 (by decide), e 33 (by decide), e 34 (by decide)]
    exact f5
theorem IZ.scr {Z Z' : zZ} (h : IZ Z) (e : z_scr Z Z') : IZ Z' := h.cg (e.in _ (by decide))
