/-! method -/
def z_tm (Z Z' : zZ) (n : Nat) : Prop := (∀ f, f ∉ [0, 1, 3, 4, 5, 6, 7] → Z' f = Z f) ∧ Z' 3 0 = Z 3 0 + 1 ∧ Z' 1 0 = 0 ∧ (∀ i, i < Z 3 0 → Z' 4 i = Z 4 i ∧ Z' 5 i = Z 5 i) ∧ Z' 4 (Z 3 0) = n ∧ Z' 5 (Z 3 0) = Z 1 0 ∧ (∀ x, x < 12 * Z 3 0 → Z' 6 x = Z 6 x) ∧ (∀ k, k < Z 1 0 → Z' 6 (12 * Z 3 0 + k) = Z 2 k) ∧ (∀ x, x < 2 * Z 3 0 → Z' 7 x = Z 7 x) ∧ Z' 7 (2 * Z 3 0) = Z 2 (Z 1 0 - 1) ∧ Z' 7 (2 * Z 3 0 + 1) = Z 2 (Z 1 0 - 1)
section TM
variable {Z Z' : zZ} {n i t : Nat}
theorem z_tm.ch (h : z_tm Z Z' n) (hi : i < Z 3 0) {c k : Nat} (hc : c < 3) (hk : k < 12) : z_ch Z' i c k = z_ch Z i c k := by
  unfold z_ch
  rw [(h.2.2.2.1 i hi).2, h.2.2.2.2.2.2.1 (12 * i + k) (by omega)]
  by_cases e : k = Z 5 i - 1 ∧ 0 < c
  · rw [if_pos e, if_pos e, h.2.2.2.2.2.2.2.2.1 _ (by omega)]
  · rw [if_neg e, if_neg e]
theorem z_tm.lc (h : z_tm Z Z' n) (hM : z_M Z) (hi : i < Z 3 0) {c : Nat} (hc : c < 3) : z_lc Z' i c = z_lc Z i c := by
  have b := z_M_n hM hi
  unfold z_lc
  rw [(h.2.2.2.1 i hi).2]
  exact List.map_congr_left (fun k hk => h.ch hi hc (by have := List.mem_range.mp hk; omega))
theorem z_tm.fl (h : z_tm Z Z' n) (hM : z_M Z) (hi : i < Z 3 0) : z_fl Z' i = z_fl Z i := by
  funext k
  unfold z_fl z_pr
  rw [(h.2.2.2.1 i hi).1, h.lc hM hi (by decide)]
theorem z_tm.st (h : z_tm Z Z' n) (zt : z_T Z t) : z_st Z' t = z_st Z t := by
  unfold z_st
  rw [h.1 12 (by decide), (h.2.2.2.1 _ (z_T_x zt)).1]
theorem z_tm.mt (h : z_tm Z Z' n) (k : Nat) : z_mt Z' t k = z_mt Z t k ∧ z_cl Z' t k = z_cl Z t k := by
  unfold z_mt z_cl
  rw [h.1 12 (by decide)]
  exact ⟨rfl, rfl⟩
theorem z_tm.tc (h : z_tm Z Z' n) (hM : z_M Z) (zt : z_T Z t) : ∀ k, k ≤ Z 11 t → z_tc Z' t k = z_tc Z t k
  | 0, _ => rfl
  | k + 1, hk => by
    show z_tc Z' t k ++ z_lc Z' (z_mt Z' t k) (z_cl Z' t k) = z_tc Z t k ++ z_lc Z (z_mt Z t k) (z_cl Z t k)
    rw [h.tc hM zt k (by omega), (h.mt k).1, (h.mt k).2, h.lc hM (zt.2.2.2 k (by omega)).1 (c := z_cl Z t k) (Nat.mod_lt _ (by decide))]
theorem z_tm.cs (h : z_tm Z Z' n) (hM : z_M Z) (zt : z_T Z t) : z_cs Z' t = z_cs Z t := by
  unfold z_cs
  rw [h.1 11 (by decide), h.tc hM zt _ (Nat.le_refl _)]
theorem z_tm.T (h : z_tm Z Z' n) (zt : z_T Z t) : z_T Z' t := by
  refine ⟨zt.1, by rw [h.1 11 (by decide)]; exact zt.2.1, by rw [h.1 11 (by decide)]; exact zt.2.2.1, fun k hk => ?_⟩
  rw [h.1 11 (by decide)] at hk
  have w := zt.2.2.2 k hk
  rw [(h.mt k).1, h.st zt, h.2.1, (h.2.2.2.1 _ w.1).1]
  exact ⟨by omega, w.2⟩
theorem z_tm.L (h : z_tm Z Z' n) (hM : z_M Z) (zt : z_T Z t) : z_L Z' t = z_L Z t := by
  unfold z_L
  rw [h.cs hM zt]
theorem z_tm.f (h : z_tm Z Z' n) (hM : z_M Z) (zt : z_T Z t) : z_f Z' t = z_f Z t := by
  funext r
  unfold z_f z_rw
  rw [h.cs hM zt, h.st zt]
theorem z_tm.la (h : z_tm Z Z' n) (hM : z_M Z) (zt : z_T Z t) : z_la Z' t = z_la Z t := by
  unfold z_la
  rw [h.cs hM zt, h.st zt]
theorem z_tm.fit (h : z_tm Z Z' n) (hM : z_M Z) (zt : z_T Z t) : z_fit Z' t = z_fit Z t := by
  unfold z_fit z_snd
  rw [h.la hM zt, h.st zt, h.L hM zt, h.f hM zt, z_are_congr (h.1 18 (by decide)) (h.1 19 (by decide))]
/-- every call's changes are the drafted ones -/
theorem z_tm.nch (h : z_tm Z Z' n) (hL : 1 ≤ Z 1 0) {c k : Nat} (hc : c < 3) (hk : k < Z 1 0) : z_ch Z' (Z 3 0) c k = Z 2 k := by
  unfold z_ch
  rw [h.2.2.2.2.2.1, h.2.2.2.2.2.2.2.1 k hk]
  by_cases e : k = Z 1 0 - 1 ∧ 0 < c
  · rw [if_pos e]
    rcases (show c = 1 ∨ c = 2 by omega) with rfl | rfl
    · rw [show 2 * Z 3 0 + 1 - 1 = 2 * Z 3 0 by omega, h.2.2.2.2.2.2.2.2.2.1, e.1]
    · rw [show 2 * Z 3 0 + 2 - 1 = 2 * Z 3 0 + 1 by omega, h.2.2.2.2.2.2.2.2.2.2, e.1]
  · rw [if_neg e]
theorem z_tm.nlc (h : z_tm Z Z' n) (hL : 1 ≤ Z 1 0) {c : Nat} (hc : c < 3) : z_lc Z' (Z 3 0) c = (List.range (Z 1 0)).map (Z 2) := by
  unfold z_lc
  rw [h.2.2.2.2.2.1]
  exact List.map_congr_left (fun k hk => h.nch hL hc (List.mem_range.mp hk))
theorem z_tm.M (h : z_tm Z Z' n) (hM : z_M Z) (hN : ro_N n) (hL : 1 ≤ Z 1 0 ∧ Z 1 0 ≤ 12) (h8 : Z 3 0 < 8) (hc : ∀ k, k < Z 1 0 → ro_isC n (Z 2 k) = true) : z_M Z' := by
  refine ⟨by rw [h.2.1]; omega, fun i hi => ?_⟩
  rw [h.2.1] at hi
  by_cases e : i = Z 3 0
  · subst e
    rw [h.2.2.2.2.1, h.2.2.2.2.2.1]
    refine ⟨hN, hL.1, hL.2, fun k hk => ?_, fun c hc' => ?_⟩
    · rw [h.2.2.2.2.2.2.2.1 k hk]
      exact hc k hk
    · rcases (show c = 0 ∨ c = 1 by omega) with rfl | rfl
      · rw [Nat.add_zero, h.2.2.2.2.2.2.2.2.2.1]
        exact hc _ (by omega)
      · rw [h.2.2.2.2.2.2.2.2.2.2]
        exact hc _ (by omega)
  · have hi' : i < Z 3 0 := by omega
    have w := hM.2 i hi'
    rw [(h.2.2.2.1 i hi').1, (h.2.2.2.1 i hi').2]
    refine ⟨w.1, w.2.1, w.2.2.1, fun k hk => ?_, fun c hc' => ?_⟩
    · rw [h.2.2.2.2.2.2.1 _ (by have := w.2.2.1; omega)]
      exact w.2.2.2.1 k hk
    · rw [h.2.2.2.2.2.2.2.2.1 _ (by omega)]
      exact w.2.2.2.2 c hc'
theorem IZ.tm (hI : IZ Z) (h : z_tm Z Z' n) (hN : ro_N n) (hL : 1 ≤ Z 1 0 ∧ Z 1 0 ≤ 12) (h8 : Z 3 0 < 8) (hc : ∀ k, k < Z 1 0 → ro_isC n (Z 2 k) = true) : IZ Z' := by
  have T := fun t ht => hI.T.2 t ht
  have e20 : Z' 20 = Z 20 := h.1 20 (by decide)
  have ed : ∀ d, z_day Z' d = z_day Z d := z_day_congr (h.1 21 (by decide)) (h.1 22 (by decide))
  have e27 : Z' 27 = Z 27 := h.1 27 (by decide)
  have e28 : Z' 28 = Z 28 := h.1 28 (by decide)
  have e10 : Z' 10 = Z 10 := h.1 10 (by decide)
  have en : z_nw Z' = z_nw Z := z_nw_congr (h.1 17 (by decide)) (h.1 18 (by decide))
  refine ⟨⟨h.M hI.M hN hL h8 hc, ⟨by rw [e10]; exact hI.T.1, fun t ht => ?_⟩, z_B_congr (h.1 18 (by decide)) (h.1 19 (by decide)) hI.B, z_P_congr (h.1 21 (by decide)) (h.1 22 (by decide)) e10 hI.P, z_R4_cg hI.R4 (h.1 24 (by decide)) (h.1 25 (by decide)) (h.1 26 (by decide)), by rw [e20]; exact hI.d⟩, fun d h1 h2 t ht => ?_, fun d hd => by rw [ed]; exact hI.nd d hd, ?_, ?_, ?_⟩
  · rw [e10] at ht
    exact h.T (T t ht)
  · rw [e20] at h1
    rw [ed] at ht
    have := (hI.P d h2).2 t ht
    rw [h.fit hI.M (T t this)]
    exact hI.fit d h1 h2 t ht
  · unfold I_w
    rw [e27, en]
    exact hI.w
  · refine ⟨by rw [e27]; exact hI.g.1, fun on => ?_⟩
    rw [e27] at on
    have w := hI.g.2 on
    rw [e28, e10, ed, e20, h.1 29 (by decide), h.st (T _ w.1), h.1 30 (by decide), h.1 31 (by decide), h.L hI.M (T _ w.1), h.1 32 (by decide), en]
    exact w
  · unfold I_n
    rw [h.1 33 (by decide), h.1 34 (by decide), h.1 35 (by decide)]
    exact hI.n
theorem RV.tm {V V' : vV} (hV : RV V Z) (hI : IZ Z) (h : z_tm Z Z' n) (hN : ro_N n) (hL : 1 ≤ Z 1 0 ∧ Z 1 0 ≤ 12) (h8 : Z 3 0 < 8) (hc : ∀ k, k < Z 1 0 → ro_isC n (Z 2 k) = true)
    (va : ∀ f, f ∉ [500, 501, 502, 503, 504, 505, 506, 4504, 4505, 4506, 1000, 3000, 5000, 1002] → V' f = V f) (vi : ∀ f, f ∈ [500, 501, 502, 503, 504, 505, 506] → ∀ a, a ≠ Z 3 0 → V' f a = V f a)
    (w0 : V' 500 (Z 3 0) 0 = Z 3 0) (w1 : V' 501 (Z 3 0) 0 = n) (w2 : V' 502 (Z 3 0) 0 = Z 1 0) (w4 : ∀ k, k < Z 1 0 → V' 504 (Z 3 0) k = Z 2 k) (w5 : ∀ c, c < 3 → V' 505 (Z 3 0) c = Z 2 (Z 1 0 - 1))
    (fi : FI n (Z 1 0) (fun j => ro_la n (ro_rnd n) (((List.range (Z 1 0)).map (Z 2)).take (j + 1))) V' (Z 3 0) (Z 1 0) 0)
    (n1 : V' 1000 0 0 = Z 3 0 + 1) (n3 : ∀ j, V' 3000 0 j = if j = Z 3 0 then Z 3 0 else V 3000 0 j) (n2 : V' 1002 0 0 = 0) : RV V' Z' := by
  have z : ∀ l : List Nat, (∀ f, f ∈ l → f ∉ [0, 1, 3, 4, 5, 6, 7]) → ∀ f, f ∈ l → Z' f = Z f := fun l hl f hf => h.1 f (hl f hf)
  have v : ∀ l : List Nat, (∀ f, f ∈ l → f ∉ [500, 501, 502, 503, 504, 505, 506, 4504, 4505, 4506, 1000, 3000, 5000, 1002]) → ∀ f, f ∈ l → V' f = V f := fun l hl f hf => va f (hl f hf)
  have hM' := h.M hI.M hN hL h8 hc
  have T := fun t ht => hI.T.2 t ht
  refine ⟨⟨by rw [n1, h.2.1], fun i hi => ?_⟩, ⟨by rw [n2, h.2.2.1], by rw [h.2.2.1]; decide, fun k hk => ?_⟩, ⟨by rw [va 1003 (by decide), h.1 10 (by decide)]; exact hV.T.1, fun t ht => ?_⟩, hV.J.cg (v _ (by decide)) (h.1 10 (by decide)), ?_, hV.2.2.2.2.2.1.cg (va 600 (by decide)), hV.B.cg (v _ (by decide)) (z _ (by decide)), hV.Y.cg (v _ (by decide)) (z _ (by decide)), hV.R.cg (v _ (by decide)) (z _ (by decide)), hV.G.cg (v _ (by decide)) (z _ (by decide)), hV.S.cg (v _ (by decide)) (z _ (by decide))⟩
  · rw [h.2.1] at hi
    by_cases e : i = Z 3 0
    · subst e
      rw [h.2.2.2.2.1, h.2.2.2.2.2.1, n3, if_pos rfl]
      refine ⟨rfl, w0, w1, w2, fun k hk => ?_, fun c hc' => ?_, ?_⟩
      · rw [w4 k hk, h.2.2.2.2.2.2.2.1 k hk]
      · rw [w5 c hc', h.nch hL.1 hc' (by omega)]
      · have hi2 : Z 3 0 < Z' 3 0 := by rw [h.2.1]; omega
        have e4 : Z' 4 (Z 3 0) = n := h.2.2.2.2.1
        have vk : ∀ k, k < ro_fac n → v_has (V' 506 (Z 3 0)) (V' 503 (Z 3 0) 0) k = z_fl Z' (Z 3 0) k := fun k hk => by
          rw [Bool.eq_iff_iff, fi.2.2.1 k hk, z_fl_iff hM' hi2 (by rw [e4]; exact hk), e4]
          have mem : ∀ x, x ∈ z_pr Z' (Z 3 0) ↔ ∃ j, j < Z 1 0 ∧ x = ro_la n (ro_rnd n) (((List.range (Z 1 0)).map (Z 2)).take (j + 1)) := fun x => by
            unfold z_pr
            rw [e4, h.nlc hL.1 (by decide)]
            constructor
            · intro hx
              obtain ⟨j, hj⟩ := List.getElem?_of_mem hx
              have l := (List.getElem?_eq_some_iff.mp hj).1
              rw [ro_ws_len, List.length_map, List.length_range] at l
              exact ⟨j, l, (ro_la_take n _ _ j x hj).symm⟩
            · rintro ⟨j, hj, rfl⟩
              obtain ⟨x, hx⟩ := ro_ws_some (n := n) (cs := (List.range (Z 1 0)).map (Z 2)) (r := j) (by rw [List.length_map, List.length_range]; exact hj)
              rw [ro_la_take n _ _ j x hx]
              exact List.mem_of_getElem? hx
          constructor
          · rintro ⟨k0, j, k', c1, c2, c3⟩
            exact ⟨k0, _, _, (mem _).mpr ⟨j, by omega, rfl⟩, (mem _).mpr ⟨k', c2, rfl⟩, c3⟩
          · rintro ⟨k0, x, y, hx, hy, c3⟩
            obtain ⟨j, hj, rfl⟩ := (mem x).mp hx
            obtain ⟨k', hk', rfl⟩ := (mem y).mp hy
            exact ⟨k0, j, k', Or.inl hj, hk', c3⟩
        refine ⟨?_, fi.2.1, vk, ?_⟩
        · have l := fi.1
          rw [if_neg (by omega), Nat.add_zero] at l
          have : Z 1 0 * (Z 1 0 - 1) ≤ 12 * 11 := Nat.mul_le_mul hL.2 (by omega)
          omega
        · rw [← ro_cb_c (P := z_fl Z' (Z 3 0)) _ vk]
          exact fi.2.2.2
    · have hi' : i < Z 3 0 := by omega
      have w := hV.M.2 i hi'
      rw [n3, if_neg e, vi 500 (by decide) i e, vi 501 (by decide) i e, vi 502 (by decide) i e, vi 503 (by decide) i e, vi 504 (by decide) i e, vi 505 (by decide) i e, vi 506 (by decide) i e, (h.2.2.2.1 i hi').1, (h.2.2.2.1 i hi').2, h.fl hI.M hi']
      have b := z_M_n hI.M hi'
      refine ⟨w.1, w.2.1, w.2.2.1, w.2.2.2.1, fun k hk => ?_, fun c hc' => ?_, w.2.2.2.2.2.2⟩
      · rw [h.2.2.2.2.2.2.1 _ (by omega)]
        exact w.2.2.2.2.1 k hk
      · rw [h.ch hi' hc' (by omega)]
        exact w.2.2.2.2.2.1 c hc'
  · rw [va 1001 (by decide), h.1 2 (by decide)]
    exact hV.2.1.2.2 k hk
  · rw [h.1 10 (by decide)] at ht ⊢
    have w := hV.T.2 t ht
    have zt := T t ht
    rw [va 3003 (by decide)]
    refine ⟨w.1, ?_⟩
    have w2 := w.2.cg (V' := V') (Z' := Z) (fun f hf => by rw [v [900, 901, 902, 903, 905, 906, 907, 908, 2906] (by decide) f hf]) (fun _ _ => rfl)
    refine ⟨w2.1, by rw [h.st zt]; exact w2.2.1, by rw [h.L hI.M zt]; exact w2.2.2.1, by rw [h.1 11 (by decide)]; exact w2.2.2.2.1, fun k hk => ?_, by rw [h.L hI.M zt, h.f hI.M zt]; exact w2.2.2.2.2.2.1, by rw [h.L hI.M zt, h.f hI.M zt]; exact w2.2.2.2.2.2.2.1, by rw [h.st zt, h.la hI.M zt]; exact w2.2.2.2.2.2.2.2⟩
    rw [h.1 11 (by decide)] at hk
    rw [(h.mt k).1, (h.mt k).2]
    exact w2.2.2.2.2.1 k hk
  · obtain ⟨l1, l2, l3, l4⟩ := hV.L
    unfold V_L
    rw [va 1006 (by decide), va 906 (by decide), va 2906 (by decide), va 907 (by decide), va 901 (by decide), h.1 8 (by decide), h.1 9 (by decide), h.2.1]
    refine ⟨l1, l2, fun k hk => ?_, fun hk => ?_⟩
    · have w := l3 k hk
      have w0 := l3 0 (by omega)
      rw [(h.2.2.2.1 _ w.2.2.1).1, (h.2.2.2.1 _ w0.2.2.1).1]
      exact ⟨w.1, w.2.1, by omega, w.2.2.2⟩
    · have w0 := l3 0 hk
      rw [(h.2.2.2.1 _ w0.2.2.1).1]
      exact l4 hk
end TM
section OPT
variable {E : zE} {ma : Nat → Nat} {Z : zZ} {m : Nat} {S : zS} {X : String → zS → Prop}
theorem ro_ch_nI {n c : Nat} (hn : n ≤ 6) (hc : c < 64) : ro_ch n (nI c) ↔ ro_isC n c = true := by
  constructor
  · rintro ⟨d, e, hd⟩
    have := ro_isC_lt hd hn
    have : c = d := (nI_eq (by omega) (by omega)).mp e
    rw [this]
    exact hd
  · intro h
    exact ⟨c, rfl, h⟩
theorem m_meth52 {K : Nat → Int32 → Int32 → zS → Prop} {Q : Int32 → zS → Prop} {n : Nat} {g0 : Bool} (h : RM ma Z m S) (hn : 1 ≤ n ∧ n ≤ 6) (h1 : Z 1 0 ≤ 12) (h2 : ∀ k, k < 12 → Z 2 k < 64)
    (k : K m (nI n) (zb (g0 && (List.range (Z 1 0)).all (fun k => ro_isC n (Z 2 k)))) S) :
    ∀ (w j : Nat), j ≤ Z 1 0 → Z 1 0 < j + w → p_X11_method_L52 E K Q X w m (nI n) (zb (g0 && (List.range j).all (fun k => ro_isC n (Z 2 k)))) (nI j) S
  | 0, j, a, b => by omega
  | w + 1, j, a, b => by
    have e1 : gI S 1101 m = nI (Z 1 0) := h.i 1
    refine ⟨h.1, ?_⟩
    rw [e1]
    refine pk_le (Z 1 0) j (fun h3 => ?_) (fun h3 => ?_)
    · have : j = Z 1 0 := by omega
      subst this
      exact k
    · have e : (List.range (j + 1)).all (fun k => ro_isC n (Z 2 k)) = ((List.range j).all (fun k => ro_isC n (Z 2 k)) && ro_isC n (Z 2 j)) := by
        rw [List.range_succ, List.all_append]
        simp
      have ih := m_meth52 (Q := Q) h hn h1 h2 k w (j + 1) (by omega) (by omega)
      rw [e, ← Bool.and_assoc] at ih
      rw [nI_1]
      refine zb_c (fun c => ?_) (fun c => h.ij 2 j rfl (by show j < 12; omega) ?_)
      · rw [c, Bool.false_and] at ih
        exact ih
      · rw [c, Bool.true_and] at ih
        rw [h.a 2]
        refine w1_isChange hn (fun y => ⟨fun x => absurd x (by decide), fun _ => ?_⟩) (fun y => ⟨fun _ => ?_, fun x => absurd rfl x⟩)
        · rw [(ro_ch_nI hn.2 (h2 j (by omega))).mp y] at ih
          exact ih
        · have : ro_isC n (Z 2 j) = false := by
            cases x : ro_isC n (Z 2 j) with
            | false => rfl
            | true => exact absurd ((ro_ch_nI hn.2 (h2 j (by omega))).mpr x) y
          rw [this] at ih
          exact ih
theorem m_meth125 {K : Nat → zS → Prop} {Q : Int32 → zS → Prop} (h1 : Z 1 0 ≤ 12) (h3 : Z 3 0 < 8)
    (k : ∀ Z' S', RM ma Z' m S' → (∀ f, f ≠ 6 → Z' f = Z f) → (∀ x, x < 12 * Z 3 0 → Z' 6 x = Z 6 x) → (∀ k, k < Z 1 0 → Z' 6 (12 * Z 3 0 + k) = Z 2 k) → K m S') :
    ∀ (w j : Nat) (Z' : zZ) (S : zS), RM ma Z' m S → (∀ f, f ≠ 6 → Z' f = Z f) → (∀ x, x < 12 * Z 3 0 → Z' 6 x = Z 6 x) → (∀ k, k < j → Z' 6 (12 * Z 3 0 + k) = Z 2 k) → j ≤ Z 1 0 → Z 1 0 < j + w → p_X11_method_L125 E K Q X w m (nI j) S
  | 0, j, Z', S, h, a, b, c, d, e => by omega
  | w + 1, j, Z', S, h, a, b, c, d, e => by
    have e1 : gI S 1101 m = nI (Z 1 0) := (h.i 1).trans (by rw [a 1 (by decide)])
    have e3 : gI S 1103 m = nI (Z 3 0) := (h.i 3).trans (by rw [a 3 (by decide)])
    refine ⟨h.1, ?_⟩
    rw [e1, e3]
    refine pk_le (Z 1 0) j (fun h4 => ?_) (fun h4 => h.ij 2 j rfl (by show j < 12; omega) (h.ij 6 (12 * Z 3 0 + j) ?_ (by show _ < 96; omega) (h.wA 6 (12 * Z 3 0 + j) (Z 2 j) ?_ (fun S1 g1 => ?_))))
    · have : j = Z 1 0 := by omega
      subst this
      exact k Z' S h a b c
    · rw [show (12 : Int32) * nI (Z 3 0) = nI (12 * Z 3 0) from pk_mul 12 _, nI_add]
    · rw [h.a 2, a 2 (by decide)]
    · rw [nI_1]
      refine m_meth125 h1 h3 k w (j + 1) _ S1 g1 (fun f hf => by rw [up_f hf]; exact a f hf) (fun x hx => by rw [up_i (by omega)]; exact b x hx) (fun p hp => ?_) (by omega) (by omega)
      by_cases x : p = j
      · rw [x, up_s]
      · rw [up_i (by omega)]
        exact c p (by omega)
theorem m_method {Q : Int32 → zS → Prop} {n : Nat} (h : RM ma Z m S) (hM : z_M Z) (hn : 4 ≤ n ∧ n ≤ 6) (h1 : Z 1 0 ≤ 12) (h2 : ∀ k, k < 12 → Z 2 k < 64)
    (k2 : ¬ (0 < Z 1 0 ∧ Z 3 0 < 8 ∧ ∀ k, k < Z 1 0 → ro_isC n (Z 2 k) = true) → ∀ Z' S', RM ma Z' m S' → z_scr Z Z' → Z' 0 0 = 2 → Q 0 S')
    (k0 : 0 < Z 1 0 → Z 3 0 < 8 → (∀ k, k < Z 1 0 → ro_isC n (Z 2 k) = true) → ∀ Z' S', RM ma Z' m S' → z_tm Z Z' n → Z' 0 0 = 0 → Q (nI (Z 3 0)) S') : p_X11_method E m (nI n) S Q X := by
  have hM8 := hM.1
  refine w1_inR1 (lo := 4) (hi := 6) hn.1 hn.2 (by decide) ⟨fun x => absurd x (by decide), fun _ => m_t0 h (fun S1 g1 => ?_)⟩
  have e1 : gI S1 1101 m = nI (Z 1 0) := g1.i 1
  have e3 : gI S1 1103 m = nI (Z 3 0) := g1.i 3
  have bad : ¬ (0 < Z 1 0 ∧ Z 3 0 < 8 ∧ ∀ k, k < Z 1 0 → ro_isC n (Z 2 k) = true) → ∀ (S' : zS), RM ma (up Z 0 0 0) m S' → (m ∈ gL S' ∧ gK S' m = 11) ∧ ∀ S82, S82 = sI S' 1100 m 2 → Q 0 S82 := fun no S' g => ⟨g.1, g.wI 0 2 rfl (fun S2 g2 => k2 no _ S2 g2 (s0.up (by decide)) (up_s _ _ _ _))⟩
  have allk : (List.range (Z 1 0)).all (fun k => ro_isC n (Z 2 k)) = true ↔ ∀ k, k < Z 1 0 → ro_isC n (Z 2 k) = true := by
    rw [List.all_eq_true]
    exact ⟨fun x k hk => x k (List.mem_range.mpr hk), fun x k hk => x k (List.mem_range.mp hk)⟩
  have J48 : ¬ (0 < Z 1 0 ∧ Z 3 0 < 8 ∧ ∀ k, k < Z 1 0 → ro_isC n (Z 2 k) = true) → p_X11_method_J48 E Q X m (nI n) S1 := fun no => by
    refine ⟨13, m_meth52 (g0 := false) (K := fun (a0 : Nat) (l1 : Int32) (l2 : Int32) (S : zS) => _) g1 (by omega) h1 h2 ?_ 13 0 (Nat.zero_le _) (by show Z 1 0 < _; omega)⟩
    rw [Bool.false_and]
    exact ⟨fun x => absurd rfl x, fun _ => bad no S1 g1⟩
  rw [e1, e3]
  refine ⟨fun c => J48 (fun x => nI_nle x.1 (by omega) c), fun c => ?_⟩
  have p1 : 0 < Z 1 0 := Nat.pos_of_ne_zero (fun e => c (by rw [e]; decide))
  refine pk_le 8 (Z 3 0) (fun h8 => J48 (fun x => by omega)) (fun h8 => ⟨13, m_meth52 (g0 := true) (K := fun (a0 : Nat) (l1 : Int32) (l2 : Int32) (S : zS) => _) g1 (by omega) h1 h2 ?_ 13 0 (Nat.zero_le _) (by show Z 1 0 < _; omega)⟩)
  rw [Bool.true_and]
  refine zb_d (fun ok => ?_) (fun no => bad (fun x => by
    have no2 : (List.range (Z 1 0)).all (fun k => ro_isC n (Z 2 k)) = false := no
    rw [allk.mpr x.2.2] at no2
    cases no2) S1 g1)
  have okk := allk.mp ok
  refine ⟨g1.1, g1.ij 4 (Z 3 0) e3 (by show _ < 8; exact h8) (g1.wA 4 (Z 3 0) n rfl (fun S2 g2 => g2.ij 5 (Z 3 0) (g2.i 3) (by show _ < 8; exact h8) (g2.wA 5 (Z 3 0) (Z 1 0) (g2.i 1) (fun S3 g3 => ⟨13, ?_⟩))))⟩
  refine m_meth125 (Z := up (up (up Z 0 0 0) 4 (Z 3 0) n) 5 (Z 3 0) (Z 1 0)) h1 h8 (fun Z4 S4 g4 a4 b4 c4 => ?_) 13 0 _ S3 g3 (fun _ _ => rfl) (fun _ _ => rfl) (fun k hk => absurd hk (Nat.not_lt_zero k)) (Nat.zero_le _) (by show Z 1 0 < _; omega)
  have f1 : Z4 1 = Z 1 := a4 1 (by decide)
  have f2 : Z4 2 = Z 2 := a4 2 (by decide)
  have f3 : Z4 3 = Z 3 := a4 3 (by decide)
  have f7 : Z4 7 = Z 7 := a4 7 (by decide)
  have i1 : gI S4 1101 m = nI (Z 1 0) := (g4.i 1).trans (by rw [f1])
  have i3 : gI S4 1103 m = nI (Z 3 0) := (g4.i 3).trans (by rw [f3])
  have s1 : (nI (Z 1 0) - 1 : Int32) = nI (Z 1 0 - 1) := pk_sub (b := 1) (by omega)
  have t2 : (2 : Int32) * nI (Z 3 0) = nI (2 * Z 3 0) := pk_mul 2 _
  refine ⟨g4.1, g4.ij 2 (Z 1 0 - 1) (by rw [i1, s1]) (by show _ < 12; omega) (g4.ij 7 (2 * Z 3 0) (by rw [i3, t2]) (by show _ < 16; omega) (g4.wA 7 (2 * Z 3 0) (Z 2 (Z 1 0 - 1)) (by rw [g4.a 2, f2]) (fun S5 g5 => ?_)))⟩
  have i1' : gI S5 1101 m = nI (Z 1 0) := (g5.i 1).trans (by rw [up_f (by decide), f1])
  have i3' : gI S5 1103 m = nI (Z 3 0) := (g5.i 3).trans (by rw [up_f (by decide), f3])
  refine g5.ij 2 (Z 1 0 - 1) (by rw [i1', s1]) (by show _ < 12; omega) (g5.ij 7 (2 * Z 3 0 + 1) (by rw [i3', t2, nI_1]) (by show _ < 16; omega) (g5.wA 7 (2 * Z 3 0 + 1) (Z 2 (Z 1 0 - 1)) (by rw [g5.a 2, up_f (by decide), f2]) (fun S6 g6 => g6.wI 1 0 rfl (fun S7 g7 => g7.wI 3 (Z 3 0 + 1) ?_ (fun S8 g8 => ?_)))))
  · have i3'' : gI S7 1103 m = nI (Z 3 0) := (g7.i 3).trans (by rw [up_f (by decide), up_f (by decide), up_f (by decide), f3])
    rw [i3'']
    exact nI_1 _
  · have i8 : gI S8 1103 m = nI (Z 3 0 + 1) := (g8.i 3).trans (by rw [up_s])
    rw [i8, show nI (Z 3 0 + 1) - 1 = nI (Z 3 0) from by rw [← nI_1]; exact Int32.add_sub_cancel _ _]
    have fin : ∀ f, f ≠ 7 → f ≠ 1 → f ≠ 3 → up (up (up (up Z4 7 (2 * Z 3 0) (Z 2 (Z 1 0 - 1))) 7 (2 * Z 3 0 + 1) (Z 2 (Z 1 0 - 1))) 1 0 0) 3 0 (Z 3 0 + 1) f = Z4 f := fun f q7 q1 q3 => by
      rw [up_f q3, up_f q1, up_f q7, up_f q7]
    refine k0 p1 h8 okk _ S8 g8 ⟨fun f hf => ?_, up_s _ _ _ _, ?_, fun i hi => ?_, ?_, ?_, fun x hx => ?_, fun k hk => ?_, fun x hx => ?_, ?_, ?_⟩ ?_
    · have mm : f ≠ 0 ∧ f ≠ 1 ∧ f ≠ 3 ∧ f ≠ 4 ∧ f ≠ 5 ∧ f ≠ 6 ∧ f ≠ 7 := by
        simp only [List.mem_cons, List.not_mem_nil, or_false] at hf
        omega
      rw [fin f mm.2.2.2.2.2.2 mm.2.1 mm.2.2.1, a4 f mm.2.2.2.2.2.1, up_f mm.2.2.2.2.1, up_f mm.2.2.2.1, up_f mm.1]
    · rw [up_f (by decide), up_s]
    · rw [fin 4 (by decide) (by decide) (by decide), fin 5 (by decide) (by decide) (by decide), a4 4 (by decide), a4 5 (by decide), up_f (show 4 ≠ 5 by decide), up_i (show i ≠ Z 3 0 by omega), up_i (show i ≠ Z 3 0 by omega), up_f (show 5 ≠ 4 by decide)]
      exact ⟨rfl, rfl⟩
    · rw [fin 4 (by decide) (by decide) (by decide), a4 4 (by decide), up_f (show 4 ≠ 5 by decide), up_s]
    · rw [fin 5 (by decide) (by decide) (by decide), a4 5 (by decide), up_s]
    · rw [fin 6 (by decide) (by decide) (by decide)]
      exact b4 x hx
    · rw [fin 6 (by decide) (by decide) (by decide)]
      exact c4 k hk
    · rw [up_f (by decide), up_f (by decide), up_i (by omega), up_i (by omega), f7]
    · rw [up_f (by decide), up_f (by decide), up_i (by omega), up_s]
    · rw [up_f (by decide), up_f (by decide), up_s]
    · rw [fin 0 (by decide) (by decide) (by decide), a4 0 (by decide)]
      rfl
end OPT
section OPU
variable {E : zE} {ad la : Nat → Nat → Nat} {M T R : Nat} {V : vV} {Z : zZ} {S : zS} {X : String → zS → Prop}
theorem c_isDraft_L {K0 K1 : zS → Prop} {Q : Int32 → zS → Prop} {n : Nat} (h : RC E ad la (sd M T R) V S) (hn : n ≤ 6) (vd : V_D V Z) (k1 : (∀ k, k < Z 1 0 → ro_isC n (Z 2 k) = true) → K1 S) (k0 : ¬ (∀ k, k < Z 1 0 → ro_isC n (Z 2 k) = true) → K0 S) :
    ∀ (w j : Nat), j ≤ Z 1 0 → Z 1 0 < j + w → (∀ k, k < j → ro_isC n (Z 2 k) = true) → p_X10_isDraftOf_L2 E K0 K1 Q X w (ad 10 0) (nI n) (nI j) S
  | 0, j, a, b, c => by omega
  | w + 1, j, a, b, c => by
    have l12 := vd.2.1
    refine ⟨h.o 10 0 z1, ?_⟩
    rw [h.gi 1002 10 0 z1, vd.1]
    refine pk_le (Z 1 0) j (fun h3 => k1 (fun k hk => c k (by omega))) (fun h3 => h.ij 1001 0 j z1 rfl (by show j < 12; omega) ?_)
    have v := vd.2.2 j (by omega)
    rw [h.ga 1001 0 j z1, v.1]
    refine w8_isChange hn (fun y => ⟨fun _ => ?_, fun x => absurd x (by decide)⟩) (fun y => ⟨fun x => absurd rfl x, fun _ => k0 (fun all => y ((ro_ch_nI hn v.2).mpr (all j h3)))⟩)
    rw [nI_1]
    refine c_isDraft_L h hn vd k1 k0 w (j + 1) (by omega) (by omega) (fun k hk => ?_)
    by_cases e : k = j
    · rw [e]
      exact (ro_ch_nI hn v.2).mp y
    · exact c k (by omega)
theorem c_isDraft {Q : Int32 → zS → Prop} {n : Nat} (h : RC E ad la (sd M T R) V S) (hn : n ≤ 6) (vd : V_D V Z) (k1 : (∀ k, k < Z 1 0 → ro_isC n (Z 2 k) = true) → Q 1 S) (k0 : ¬ (∀ k, k < Z 1 0 → ro_isC n (Z 2 k) = true) → Q 0 S) : p_X10_isDraftOf E (ad 10 0) (nI n) S Q X :=
  ⟨13, c_isDraft_L (K0 := fun S => ((0 : Int32) = 0 ∨ (0 : Int32) = 1) ∧ Q 0 S) (K1 := fun S => ((1 : Int32) = 0 ∨ (1 : Int32) = 1) ∧ Q 1 S) h hn vd (fun x => ⟨Or.inr rfl, k1 x⟩) (fun x => ⟨Or.inl rfl, k0 x⟩) 13 0 (Nat.zero_le _) (by have := vd.2.1; omega) (fun k hk => absurd hk (Nat.not_lt_zero k))⟩
end OPU
section OPV
variable {E : zE} {x m : Nat}
end OPV
