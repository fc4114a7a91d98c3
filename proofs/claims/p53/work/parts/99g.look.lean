/-! looking, bands, places in a plan -/
section LK
variable {E : zE} {aa : Nat → Nat} {L Z : zZ} {S : zS} {X : String → zS → Prop}
theorem li_le {x : Int32} {m m1 : Int32} (h : m1.toInt = m.toInt + 1) : x ≤ m ↔ x < m1 := by
  rw [Int32.le_iff_toInt_le, Int32.lt_iff_toInt_lt]
  omega
theorem nv_b {i : Nat} (h : Z 18 i < 2) (hi : i < 12) : z_nv Z i < 2 := by
  unfold z_nv
  split
  · decide
  · exact h
theorem nv_le {i : Nat} {m : Int32} (e : m.toInt + 1 = (z_lim i).toInt) (h : Z 18 i < 2) (h2 : nI (Z 17 i) ≤ m) : z_nv Z i = Z 18 i := by
  have : nI (Z 17 i) < z_lim i := (li_le (by omega)).mp h2
  unfold z_nv z_nw
  rw [decide_eq_true this, Bool.not_true, Bool.and_false, if_neg (by decide)]
theorem nv_gt {i : Nat} {m : Int32} (e : m.toInt + 1 = (z_lim i).toInt) (h : Z 18 i < 2) (h2 : ¬ nI (Z 17 i) ≤ m) : z_nv Z i = 1 := by
  have : ¬ nI (Z 17 i) < z_lim i := fun x => h2 ((li_le (by omega)).mpr x)
  unfold z_nv z_nw
  rw [decide_eq_false this, Bool.not_false, Bool.and_true]
  by_cases e : Z 18 i = 0
  · rw [e]
    rfl
  · rw [show (Z 18 i == 0) = false by simpa using e, if_neg (by decide)]
    omega
theorem or_dec : ∀ a, a < 2 → ∀ b, b < 2 → ∀ c, c < 2 → ∀ x, x < 2 → ∀ y, y < 2 → (a + 2 * b + 4 * c) ||| (2 * x ||| 4 * y) = a + 2 * (if x = 1 then 1 else b) + 4 * (if y = 1 then 1 else c) := by decide +kernel
/-- the loft looked at as far as k -/
def Zk (Z : zZ) (k : Nat) : zZ := fun f i => if f = 18 then (if i < k ∨ (6 ≤ i ∧ i < 6 + k) then z_nv Z i else Z 18 i) else Z f i
theorem LZ.zk {L : zZ} {k v : Nat} (hz : LZ L (Zk Z k)) (hk : k < 6) (e : v = Z 19 k + 2 * z_nv Z k + 4 * z_nv Z (6 + k)) : LZ (up L 4 k v) (Zk Z (k + 1)) := by
  refine ⟨hz.M, hz.T, hz.P, hz.W, fun i hi => ?_, hz.D, hz.E, hz.X, hz.Y, hz.G, hz.R, hz.C⟩
  show up L 4 k v 4 i = Z 19 i + 2 * (if i < k + 1 ∨ (6 ≤ i ∧ i < 6 + (k + 1)) then z_nv Z i else Z 18 i) + 4 * (if 6 + i < k + 1 ∨ (6 ≤ 6 + i ∧ 6 + i < 6 + (k + 1)) then z_nv Z (6 + i) else Z 18 (6 + i))
  have h0 : L 4 i = Z 19 i + 2 * (if i < k ∨ (6 ≤ i ∧ i < 6 + k) then z_nv Z i else Z 18 i) + 4 * (if 6 + i < k ∨ (6 ≤ 6 + i ∧ 6 + i < 6 + k) then z_nv Z (6 + i) else Z 18 (6 + i)) := hz.B i hi
  by_cases a : i = k
  · subst a
    rw [up_s, e, if_pos (by omega), if_pos (by omega)]
  · rw [up_i a, h0]
    by_cases b : i < k
    · rw [if_pos (by omega), if_pos (by omega), if_pos (by omega), if_pos (by omega)]
    · rw [if_neg (by omega), if_neg (by omega), if_neg (by omega), if_neg (by omega)]
theorem l_look_L {K : Nat → Nat → Nat → Nat → Nat → Nat → zS → Prop} {Q : zS → Prop} (hB : z_B Z) (k : ∀ L' S', RA aa L' S' → LZ L' (Zk Z 6) → K (aa 0) (aa 1) (aa 2) (aa 4) (aa 9) (aa 10) S') :
    ∀ (w j : Nat) (L : zZ) (S : zS), RA aa L S → LZ L (Zk Z j) → j ≤ 6 → 6 < j + w → p_L_look_L3 E K Q X w (aa 0) (aa 1) (aa 2) (aa 3) (aa 4) (aa 9) (aa 10) (nI j) S
  | 0, j, L, S, h, hz, h1, h2 => by omega
  | w + 1, j, L, S, h, hz, h1, h2 => by
    refine pk_le 6 j (fun h5 => ?_) (fun h5 => ⟨h.o 4, h.ix 4 j rfl (by show _ < 6; omega) ⟨h.o 3, h.ix 3 j rfl (by show _ < 12; omega) ?_⟩⟩)
    · have : j = 6 := by omega
      subst this
      exact k L S h hz
    · have b19 := hB.1 j h5
      have b1 := hB.2 j (by omega)
      have b2 := hB.2 (6 + j) (by omega)
      have e4 : L 4 j = Z 19 j + 2 * Z 18 j + 4 * Z 18 (6 + j) := by
        have h0 : L 4 j = Z 19 j + 2 * (if j < j ∨ (6 ≤ j ∧ j < 6 + j) then z_nv Z j else Z 18 j) + 4 * (if 6 + j < j ∨ (6 ≤ 6 + j ∧ 6 + j < 6 + j) then z_nv Z (6 + j) else Z 18 (6 + j)) := hz.B j h5
        rw [if_neg (by omega), if_neg (by omega)] at h0
        exact h0
      have w1 : L 3 j = Z 17 j := hz.W j (by omega)
      have w2 : L 3 (6 + j) = Z 17 (6 + j) := hz.W (6 + j) (by omega)
      have l1 : ((299 : Int32).toInt + 1 = (z_lim j).toInt) := by unfold z_lim; rw [if_pos h5]; decide
      have l2 : ((199 : Int32).toInt + 1 = (z_lim (6 + j)).toInt) := by unfold z_lim; rw [if_neg (by omega)]; decide
      have fin : ∀ x y, x < 2 → y < 2 → z_nv Z j = (if x = 1 then 1 else Z 18 j) → z_nv Z (6 + j) = (if y = 1 then 1 else Z 18 (6 + j)) → ∀ S13, S13 = sA S (aa 4) j (nI (L 4 j) ||| (nI (2 * x) ||| nI (4 * y))) → p_L_look_L3 E K Q X w (aa 0) (aa 1) (aa 2) (aa 3) (aa 4) (aa 9) (aa 10) (nI j + 1) S13 := by
        intro x y hx hy ex ey
        rw [ri_or, ri_or, e4, or_dec _ b19 _ b1 _ b2 x hx y hy, nI_1]
        exact h.wA 4 j _ rfl (fun S1 g1 => l_look_L hB k w (j + 1) _ S1 g1 (hz.zk h5 (by rw [ex, ey])) (by omega) (by omega))
      have mid : ∀ x, x < 2 → z_nv Z j = (if x = 1 then 1 else Z 18 j) → p_L_look_J31 E (fun (a0 : Nat) (a1 : Nat) (a2 : Nat) (a3 : Nat) (a4 : Nat) (a5 : Nat) (a6 : Nat) (l7 : Int32) (S : zS) => p_L_look_L3 E K Q X w a0 a1 a2 a3 a4 a5 a6 l7 S) Q X (aa 0) (aa 1) (aa 2) (aa 3) (aa 4) (aa 9) (aa 10) (nI j) (nI (2 * x)) (nI (L 4 j)) (nI j) (aa 4) S := by
        intro x hx ex
        refine ⟨h.o 3, h.ix 3 (6 + j) (nI_add 6 j) (by show _ < 12; omega) ?_⟩
        rw [h.a 3, w2]
        refine ⟨fun h6 => ⟨h.o 4, h.ix 4 j rfl (by show _ < 6; omega) ?_⟩, fun h6 => ⟨h.o 4, h.ix 4 j rfl (by show _ < 6; omega) ?_⟩⟩
        · exact fin x 0 hx (by decide) ex (by rw [nv_le l2 b2 h6]; rfl)
        · exact fin x 1 hx (by decide) ex (by rw [nv_gt l2 b2 h6]; rfl)
      rw [h.a 4, h.a 3, w1]
      refine ⟨fun h6 => ?_, fun h6 => ?_⟩
      · exact mid 0 (by decide) (by rw [nv_le l1 b1 h6]; rfl)
      · exact mid 1 (by decide) (by rw [nv_gt l1 b1 h6]; rfl)
theorem Zk_lk : z_lk Z (Zk Z 6) := ⟨fun f hf => funext fun i => if_neg hf, fun i hi => by
  show (if i < 6 ∨ (6 ≤ i ∧ i < 6 + 6) then z_nv Z i else Z 18 i) = z_nv Z i
  exact if_pos (by omega)⟩
theorem Zk_0 : Zk Z 0 = Z := by
  funext f i
  unfold Zk
  split
  · rename_i h
    rw [if_neg (by omega), h]
  · rfl
/-- looking: bells that are newly worn, and the drops -/
theorem l_look {Q : zS → Prop} (h : RA aa L S) (hz : LZ L Z) (hM : z_M Z) (hT : z_TT Z) (hB : z_B Z) (hP : z_P Z) (h20 : Z 20 0 ≤ 60) (hF : I_fit Z)
    (k : ∀ L' Z' S', RA aa L' S' → z_lo Z Z' → LZ L' Z' → Q S') : p_L_look E (aa 0) (aa 1) (aa 2) (aa 3) (aa 4) (aa 9) (aa 10) S Q X := by
  refine ⟨7, l_look_L hB (fun L' S' g z => ?_) 7 0 L S h (by rw [Zk_0]; exact hz) (by decide) (by decide)⟩
  have hl := Zk_lk (Z := Z)
  have hM' : z_M (Zk Z 6) := z_C_M (z_lk_C hl) hM
  have hT' : z_TT (Zk Z 6) := z_C_TT (z_lk_C hl) hT
  have hP' : z_P (Zk Z 6) := z_lk_P hl hP
  refine l_drop g z hM' hT' (z_lk_B hl hB) hP' h20 (fun L2 S2 g2 z2 => ?_)
  cases ha : z_any Z 6 with
  | true => exact k L2 (zDr (Zk Z 6)) S2 g2 (Or.inr ⟨ha, _, hl, z_dr_D hP' h20⟩) z2
  | false =>
    have e18 : ∀ i, i < 12 → Zk Z 6 18 i = Z 18 i := fun i hi => by rw [hl.2 i hi, z_nv_no (z_any_f12 ha hi)]
    have hF' : I_fit (Zk Z 6) := fun d h1 h2 t ht => by
      have ht' : t < Z 10 0 := (hP d h2).2 t ht
      rw [z_fit_c12 hM hT (z_lk_C hl) e18 rfl ht']
      exact hF d h1 h2 t ht
    have di := z_dr_id hF' h20
    refine k L2 (Zk Z 6) S2 g2 (Or.inl ⟨ha, hl⟩) ?_
    obtain ⟨a1, a2, a3, a4, a5, a6, a7, a8, a9, a10, a11, a12⟩ := z2
    refine ⟨a1, a2, fun d h1 h2 => ?_, a4, a5, a6, a7, a8, a9, ⟨a10.1, ?_, a10.2.2⟩, a11, a12⟩
    · have := a3 d h1 h2
      rw [lz_day_z, (z_dr_D hP' h20).2.2.2 d h1 h2, ← di.2.2.2 d h1 h2] at this
      exact this
    · have := a10.2.1
      rw [(z_dr_D hP' h20).2.1, ← di.2.1] at this
      exact this
/-- which place of a day's plan a touch has -/
theorem l_planAt_L {K : Int32 → zS → Prop} {K0 : zS → Prop} {Q : Int32 → zS → Prop} {d t : Nat} (h : RA aa L S) (hz : LZ L Z) (hP : z_P Z) (h1 : Z 20 0 ≤ d) (h2 : d ≤ 60) (ht : t < 2 ^ 31) (kN : t ∉ z_day Z d → K0 S) (kY : ∀ k, (z_day Z d)[k]? = some t → (∀ q, q < k → (z_day Z d)[q]? ≠ some t) → K (nI k) S) :
    ∀ (w j : Nat), j ≤ (z_day Z d).length → (z_day Z d).length < j + w → (∀ q, q < j → (z_day Z d)[q]? ≠ some t) → p_L_planAt_L2 E K K0 Q X w (aa 2) (nI d) (nI t) (nI j) S
  | 0, j, h3, h4, h5 => by omega
  | w + 1, j, h3, h4, h5 => by
    have b10 : Z 10 0 ≤ 4 := hz.T.2.1
    have hp := hP d h2
    rw [← z_day_len Z] at hp
    have ep : L 2 d = lpd (z_day Z d) := hz.P d h1 h2
    have h44 : ∀ t, t ∈ z_day Z d → t < 4 := fun t ht => by have := hp.2 t ht; omega
    have hl := lpd_lt h44 hp.1
    refine ⟨h.o 2, h.ix 2 d rfl (by show _ < 61; omega) ?_⟩
    rw [h.a 2, ep, (li_and (by omega)).1, (lpd8 hp.1).1]
    refine pk_le (z_day Z d).length j (fun h6 => kN (fun x => ?_)) (fun h6 => h.ix 2 d rfl (by show _ < 61; omega) ?_)
    · obtain ⟨q, hq⟩ := List.mem_iff_getElem?.mp x
      exact h5 q (by have := (List.getElem?_eq_some_iff.mp hq).1; omega) hq
    · have hg : (z_day Z d)[j]? = some ((z_day Z d)[j]) := List.getElem?_eq_getElem h6
      have hu := h44 _ (List.mem_of_getElem? hg)
      rw [h.a 2, ep, lpd_at h44 hp.1 hg, nI_eq (by omega) ht, nI_1]
      refine ⟨fun h7 => l_planAt_L h hz hP h1 h2 ht kN kY w (j + 1) (by omega) (by omega) (fun q hq e => ?_), fun h7 => kY j (by rw [hg, h7]) h5⟩
      by_cases a : q = j
      · rw [a, hg] at e
        exact h7 (Option.some.inj e)
      · exact h5 q (by omega) e
theorem l_planAt {Q : Int32 → zS → Prop} {d t : Nat} (h : RA aa L S) (hz : LZ L Z) (hP : z_P Z) (h1 : Z 20 0 ≤ d) (h2 : d ≤ 60) (ht : t < 2 ^ 31) (kN : t ∉ z_day Z d → Q (-1) S) (kY : ∀ k, (z_day Z d)[k]? = some t → Q (nI k) S) : p_L_planAt E (aa 2) (nI d) (nI t) S Q X :=
  ⟨5, l_planAt_L h hz hP h1 h2 ht kN (fun k e _ => kY k e) 5 0 (Nat.zero_le _) (by have := (hP d h2).1; rw [z_day_len]; omega) (fun q hq => by omega)⟩
end LK
