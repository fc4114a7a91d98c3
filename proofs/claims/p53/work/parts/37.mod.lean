/-! what the planned touches are; what depends on methods and touches alone -/
def z_C (Z Z' : zZ) : Prop := ∀ f, f ∈ [3, 4, 5, 6, 7, 10, 11, 12] → Z' f = Z f
theorem z_C_st {Z Z' : zZ} (h : z_C Z Z') (t : Nat) : z_st Z' t = z_st Z t := by
  unfold z_st
  rw [h 4 (by decide), h 12 (by decide)]
theorem z_C_ch {Z Z' : zZ} (h : z_C Z Z') : z_ch Z' = z_ch Z := by
  funext a b c
  unfold z_ch
  rw [h 5 (by decide), h 6 (by decide), h 7 (by decide)]
theorem z_C_tc {Z Z' : zZ} (h : z_C Z Z') (t : Nat) : ∀ k, z_tc Z' t k = z_tc Z t k
  | 0 => rfl
  | k + 1 => by
    unfold z_tc
    rw [z_C_tc h t k]
    unfold z_lc z_mt z_cl
    rw [z_C_ch h, h 5 (by decide), h 12 (by decide)]
theorem z_C_cs {Z Z' : zZ} (h : z_C Z Z') (t : Nat) : z_cs Z' t = z_cs Z t := by
  unfold z_cs
  rw [z_C_tc h, h 11 (by decide)]
theorem z_C_f {Z Z' : zZ} (h : z_C Z Z') (t : Nat) : z_f Z' t = z_f Z t := by
  funext i
  unfold z_f z_rw
  rw [z_C_st h, z_C_cs h]
theorem z_C_L {Z Z' : zZ} (h : z_C Z Z') (t : Nat) : z_L Z' t = z_L Z t := by
  unfold z_L
  rw [z_C_cs h]
theorem z_C_la {Z Z' : zZ} (h : z_C Z Z') (t : Nat) : z_la Z' t = z_la Z t := by
  unfold z_la
  rw [z_C_cs h, z_C_st h]
theorem z_C_snd {Z Z' : zZ} (h : z_C Z Z') (t : Nat) : z_snd Z' t = z_snd Z t := by
  unfold z_snd
  rw [z_C_la h, z_C_st h, z_C_f h, z_C_L h]
theorem z_C_M {Z Z' : zZ} (h : z_C Z Z') (hM : z_M Z) : z_M Z' := by
  unfold z_M
  rw [h 3 (by decide), h 4 (by decide), h 5 (by decide), h 6 (by decide), h 7 (by decide)]
  exact hM
theorem z_C_T {Z Z' : zZ} (h : z_C Z Z') {t : Nat} (ht : z_T Z t) : z_T Z' t := by
  unfold z_T z_mt z_st
  rw [h 11 (by decide), h 12 (by decide), h 3 (by decide), h 4 (by decide)]
  exact ht
theorem z_in_congr {Z Z' : zZ} (h1 : Z' 18 = Z 18) (h2 : Z' 19 = Z 19) : z_in Z' = z_in Z := by
  funext b
  unfold z_in
  rw [h1, h2]
theorem z_are_congr {Z Z' : zZ} (h1 : Z' 18 = Z 18) (h2 : Z' 19 = Z 19) (n : Nat) : z_are Z' n = z_are Z n := by
  unfold z_are
  rw [z_in_congr h1 h2]
def z_fit (Z : zZ) (t : Nat) : Bool := z_are Z (z_st Z t) && z_snd Z t
theorem z_fit_congr {Z Z' : zZ} (h : z_C Z Z') (h1 : Z' 18 = Z 18) (h2 : Z' 19 = Z 19) : z_fit Z' = z_fit Z := by
  funext t
  unfold z_fit
  rw [z_C_st h, z_C_snd h, z_are_congr h1 h2]
theorem z_B_congr {Z Z' : zZ} (h1 : Z' 18 = Z 18) (h2 : Z' 19 = Z 19) (hB : z_B Z) : z_B Z' := by
  unfold z_B
  rw [h1, h2]
  exact hB
/-- all touches, the plan of a day -/
def z_TT (Z : zZ) : Prop := Z 10 0 ≤ 12 ∧ ∀ t, t < Z 10 0 → z_T Z t
def z_day (Z : zZ) (d : Nat) : List Nat := (List.range (Z 21 d)).map (fun k => Z 22 (4 * d + k))
def z_P (Z : zZ) : Prop := ∀ d, d ≤ 60 → Z 21 d ≤ 4 ∧ ∀ t, t ∈ z_day Z d → t < Z 10 0
theorem z_day_len (Z : zZ) (d : Nat) : (z_day Z d).length = Z 21 d := by
  unfold z_day
  rw [List.length_map, List.length_range]
theorem z_day_get (Z : zZ) (d k : Nat) : (z_day Z d)[k]? = if k < Z 21 d then some (Z 22 (4 * d + k)) else none := by
  unfold z_day
  rw [List.getElem?_map]
  split
  · rename_i h
    rw [List.getElem?_range h]
    rfl
  · rename_i h
    rw [List.getElem?_eq_none (by rw [List.length_range]; omega)]
    rfl
theorem z_day_mem {Z : zZ} {d k : Nat} (h : k < Z 21 d) : Z 22 (4 * d + k) ∈ z_day Z d := by
  refine List.mem_of_getElem? (i := k) ?_
  rw [z_day_get, if_pos h]
theorem z_C_TT {Z Z' : zZ} (h : z_C Z Z') (hT : z_TT Z) : z_TT Z' := by
  unfold z_TT
  rw [h 10 (by decide)]
  exact ⟨hT.1, fun t ht => z_C_T h (hT.2 t ht)⟩
/-- one place of a day's plan is taken -/
def z_tk (Z Z' : zZ) (d p : Nat) : Prop := (∀ f, f ≠ 21 → f ≠ 22 → Z' f = Z f) ∧ z_day Z' d = (z_day Z d).eraseIdx p ∧ ∀ d', d' ≠ d → d' ≤ 60 → z_day Z' d' = z_day Z d'
section MF
variable {E : zE} {ma : Nat → Nat} {Z : zZ} {m : Nat} {S : zS} {X : String → zS → Prop}
theorem m_takesPlan_L {K Q : zS → Prop} {d p : Nat} {Z1 : zZ} (hd : d ≤ 60) (hn : Z1 21 d ≤ 3) (k : ∀ Z' S', RM ma Z' m S' → (∀ f, f ≠ 22 → Z' f = Z1 f) → (∀ i, i < 4 * d + p ∨ 4 * d + Z1 21 d ≤ i → Z' 22 i = Z1 22 i) → (∀ i, 4 * d + p ≤ i → i < 4 * d + Z1 21 d → Z' 22 i = Z1 22 (i + 1)) → K S') :
    ∀ (w i : Nat) (Z' : zZ) (S : zS), RM ma Z' m S → (∀ f, f ≠ 22 → Z' f = Z1 f) → 4 * d + p ≤ i → i ≤ 4 * d + Z1 21 d → 4 * d + Z1 21 d < i + w → (∀ j, j < 4 * d + p ∨ i ≤ j → Z' 22 j = Z1 22 j) → (∀ j, 4 * d + p ≤ j → j < i → Z' 22 j = Z1 22 (j + 1)) → p_X11_takesPlan_L16 E K Q X w m (nI d) (nI i) S
  | 0, i, Z', S, h, hf, h1, h1', h2, h3, h4 => by omega
  | w + 1, i, Z', S, h, hf, h1, h1', h2, h3, h4 => by
    refine ⟨h.1, h.ij 21 d rfl (by show _ < 61; omega) ?_⟩
    rw [h.a 21, hf 21 (by decide), show (4 : Int32) * nI d = nI (4 * d) from pk_mul 4 d, nI_add]
    refine pk_le (4 * d + Z1 21 d) i (fun h5 => ?_) (fun h5 => ?_)
    · have e : i = 4 * d + Z1 21 d := by omega
      subst e
      exact k Z' S h hf h3 h4
    · refine h.ex 22 (h.ix 22 (i + 1) (nI_1 i) (by show _ < 244; omega) (h.ix 22 i rfl (by show _ < 244; omega) ?_))
      rw [h.a 22]
      refine h.wA 22 i (Z' 22 (i + 1)) rfl (fun S1 g1 => ?_)
      rw [nI_1]
      refine m_takesPlan_L hd hn k w (i + 1) _ S1 g1 (fun f hf2 => by rw [up_f hf2]; exact hf f hf2) (by omega) (by omega) (by omega) (fun j hj => ?_) (fun j hj hj2 => ?_)
      · rw [up_i (by omega)]
        exact h3 j (by omega)
      · by_cases e : j = i
        · subst e
          rw [up_s, h3 (j + 1) (by omega)]
        · rw [up_i e]
          exact h4 j hj (by omega)
theorem m_takesPlan {Q : zS → Prop} {d p : Nat} (h : RM ma Z m S) (hd : d ≤ 60) (hp : p < Z 21 d) (hn4 : ∀ d, d ≤ 60 → Z 21 d ≤ 4) (k : ∀ Z' S', RM ma Z' m S' → z_tk Z Z' d p → Q S') : p_X11_takesPlan E m (nI d) (nI p) S Q X := by
  have hn := hn4 d hd
  refine ⟨h.1, h.ex 21 (h.ix 21 d rfl (by show _ < 61; omega) (h.ix 21 d rfl (by show _ < 61; omega) ?_))⟩
  rw [h.a 21, show (nI (Z 21 d) - 1 : Int32) = nI (Z 21 d - 1) from pk_sub (b := 1) (by omega)]
  refine h.wA 21 d (Z 21 d - 1) rfl (fun S1 g1 => ⟨5, ?_⟩)
  rw [show (4 : Int32) * nI d = nI (4 * d) from pk_mul 4 d, nI_add]
  have e1 : (up Z 21 d (Z 21 d - 1)) 21 d = Z 21 d - 1 := up_s _ _ _ _
  refine m_takesPlan_L (p := p) (Z1 := up Z 21 d (Z 21 d - 1)) hd (by omega) (fun Z' S' g hf h3 h4 => k Z' S' g ?_) 5 (4 * d + p) _ S1 g1 (fun _ _ => rfl) (by omega) (by omega) (by omega) (fun _ _ => rfl) (fun j hj hj2 => by omega)
  rw [e1, show (up Z 21 d (Z 21 d - 1)) 22 = Z 22 from up_f (by decide)] at h3 h4
  refine ⟨fun f h5 h6 => by rw [hf f h6, up_f h5], ?_, fun d' h5 h6 => ?_⟩
  · have e2 : Z' 21 d = Z 21 d - 1 := by rw [hf 21 (by decide), e1]
    apply List.ext_getElem?
    intro i
    rw [List.getElem?_eraseIdx, z_day_get, z_day_get, z_day_get, e2]
    by_cases a : i < p
    · rw [if_pos a, if_pos (by omega), if_pos (by omega), h3 _ (by omega)]
    · rw [if_neg a]
      by_cases b : i < Z 21 d - 1
      · rw [if_pos b, if_pos (by omega), h4 _ (by omega) (by omega)]
        rfl
      · rw [if_neg b, if_neg (by omega)]
  · have e2 : Z' 21 d' = Z 21 d' := by rw [hf 21 (by decide), up_i h5]
    unfold z_day
    rw [e2]
    apply List.map_congr_left
    intro i hi
    have hi2 := List.mem_range.mp hi
    have h7 := hn4 d' h6
    exact h3 _ (by omega)
def z_D (Z Z' : zZ) : Prop := ∀ f, f ∉ [13, 14, 21, 22] → Z' f = Z f
theorem z_D_C {Z Z' : zZ} (h : z_D Z Z') : z_C Z Z' := fun f hf => h f (by
  intro h2
  simp only [List.mem_cons, List.not_mem_nil, or_false] at hf h2
  omega)
theorem z_D_E {Z Z' Z2 : zZ} (h : z_D Z Z') (h2 : z_E Z' Z2) : z_D Z Z2 := fun f hf => by
  rw [h2 f (fun e => hf (by rw [e]; decide)) (fun e => hf (by rw [e]; decide))]
  exact h f hf
theorem z_D_tk {Z Z' Z2 : zZ} {d p : Nat} (h : z_D Z Z') (h2 : z_tk Z' Z2 d p) : z_D Z Z2 := fun f hf => by
  rw [h2.1 f (fun e => hf (by rw [e]; decide)) (fun e => hf (by rw [e]; decide))]
  exact h f hf
theorem z_E_day {Z Z' : zZ} (h : z_E Z Z') (d : Nat) : z_day Z' d = z_day Z d := by
  unfold z_day
  rw [h 21 (by decide) (by decide), h 22 (by decide) (by decide)]
def z_un (fit : Nat → Bool) (l : List Nat) : Nat := (l.filter (fun t => !fit t)).length
theorem z_drop1 {l0 : List Nat} {k x : Nat} (h : l0[k]? = some x) : l0.drop k = x :: l0.drop (k + 1) := by
  obtain ⟨hk, e⟩ := List.getElem?_eq_some_iff.mp h
  rw [List.drop_eq_getElem_cons hk, e]
theorem z_take1 {l0 : List Nat} {k x : Nat} (h : l0[k]? = some x) : l0.take (k + 1) = l0.take k ++ [x] := by
  rw [List.take_add_one, h]
  rfl
theorem z_era {l0 : List Nat} {k x : Nat} (h : l0[k]? = some x) (r : List Nat) : (l0.take (k + 1) ++ r).eraseIdx k = l0.take k ++ r := by
  obtain ⟨hk, e⟩ := List.getElem?_eq_some_iff.mp h
  have hl : (l0.take k).length = k := by rw [List.length_take]; omega
  rw [z_take1 h, List.append_assoc, List.eraseIdx_append_of_length_le (by omega), hl, Nat.sub_self]
  rfl
theorem m_drops_L22 {K : Nat → Int32 → Int32 → zS → Prop} {Q : Int32 → zS → Prop} {d n0 : Nat} (hM : z_M Z) (hT : z_TT Z) (hB : z_B Z) (hP : z_P Z) (hd : d ≤ 60)
    (k0 : ∀ Z' S', RM ma Z' m S' → z_D Z Z' → (∀ d', d' ≠ d → d' ≤ 60 → z_day Z' d' = z_day Z d') → z_day Z' d = (z_day Z d).filter (z_fit Z) → K m (nI (n0 + z_un (z_fit Z) (z_day Z d))) (nI d) S') :
    ∀ (w k : Nat) (Z' : zZ) (S : zS), RM ma Z' m S → z_D Z Z' → (∀ d', d' ≠ d → d' ≤ 60 → z_day Z' d' = z_day Z d') → k ≤ (z_day Z d).length → k < w → z_day Z' d = (z_day Z d).take k ++ ((z_day Z d).drop k).filter (z_fit Z) → p_X11_drops_L22 E K Q X w m (nI (n0 + z_un (z_fit Z) ((z_day Z d).drop k))) (nI d) (nI k + (-1)) S
  | 0, k, Z', S, h, hD, hd2, h1, h2, h3 => by omega
  | w + 1, 0, Z', S, h, hD, hd2, h1, h2, h3 => by
    refine ⟨fun _ => ?_, fun h9 => absurd (by decide) h9⟩
    exact k0 Z' S h hD hd2 (by rw [h3]; rfl)
  | w + 1, k + 1, Z', S, h, hD, hd2, h1, h2, h3 => by
    rw [pk_m1]
    have hC := z_D_C hD
    have hP4 := (hP d hd).1
    have hlen := z_day_len Z d
    refine ⟨fun h9 => absurd h9 (nI_pos (by omega)), fun _ => ⟨h.1, ?_⟩⟩
    have hx : (z_day Z d)[k]? = some ((z_day Z d)[k]'(by omega)) := List.getElem?_eq_getElem (by omega)
    generalize (z_day Z d)[k]'(by omega) = x at hx
    have hx2 : (z_day Z' d)[k]? = some x := by
      rw [h3, List.getElem?_append_left (by rw [List.length_take]; omega), List.getElem?_take_of_lt (by omega), hx]
    rw [z_day_get] at hx2
    have hk2 : k < Z' 21 d := by
      by_cases a : k < Z' 21 d
      · exact a
      · rw [if_neg a] at hx2
        exact absurd hx2 (by simp)
    rw [if_pos hk2] at hx2
    have hx3 := Option.some.inj hx2
    have hxT : x < Z 10 0 := (hP d hd).2 x (List.mem_of_getElem? hx)
    have hxt := hT.2 x hxT
    have hxt' := z_C_T hC hxt
    have hM' := z_C_M hC hM
    have e18 : Z' 18 = Z 18 := hD 18 (by decide)
    have e19 : Z' 19 = Z 19 := hD 19 (by decide)
    have hB' := z_B_congr e18 e19 hB
    have hP' : ∀ d, d ≤ 60 → Z' 21 d ≤ 4 := by
      intro d' h7
      by_cases e : d' = d
      · subst e
        rw [← z_day_len Z' d', h3, List.length_append, List.length_take]
        have := List.length_filter_le (z_fit Z) ((z_day Z d').drop (k + 1))
        rw [List.length_drop] at this
        omega
      · rw [← z_day_len Z' d', hd2 d' e h7, z_day_len]
        exact (hP d' h7).1
    refine h.ij 22 (4 * d + k) ?_ (by show _ < 244; omega) ?_
    · rw [show (4 : Int32) * nI d = nI (4 * d) from pk_mul 4 d, nI_add]
    · rw [h.a 22, hx3]
      refine m_stageOf h hM' hxt'.1 (z_T_x hxt') ⟨h.1, ?_⟩
      rw [z_C_st hC]
      have hN := z_T_N hM hxt
      refine m_areIn h hB' (by unfold ro_N at hN; omega) ?_
      rw [z_are_congr e18 e19]
      have e9 := z_drop1 hx
      have eu : z_un (z_fit Z) ((z_day Z d).drop k) = z_un (z_fit Z) ((z_day Z d).drop (k + 1)) + (if z_fit Z x = true then 0 else 1) := by
        unfold z_un
        rw [e9]
        cases hfx : z_fit Z x with
        | true => simp [List.filter_cons, hfx]
        | false => simp [List.filter_cons, hfx]
      have ef : ((z_day Z d).drop k).filter (z_fit Z) = (if z_fit Z x = true then [x] else []) ++ ((z_day Z d).drop (k + 1)).filter (z_fit Z) := by
        rw [e9]
        cases hfx : z_fit Z x with
        | true => simp [List.filter_cons, hfx]
        | false => simp [List.filter_cons, hfx]
      have drop : ∀ (Z2 : zZ) (S2 : zS), RM ma Z2 m S2 → z_E Z' Z2 → z_fit Z x = false → p_X11_takesPlan E m (nI d) (nI k) S2 (fun (S18 : zS) => p_X11_drops_L22 E K Q X w m (nI (n0 + z_un (z_fit Z) ((z_day Z d).drop (k + 1))) + 1) (nI d) (nI k + (-1)) S18) (fun _ _ => False) := by
        intro Z2 S2 g2 hE hf
        have e21 : Z2 21 = Z' 21 := hE 21 (by decide) (by decide)
        refine m_takesPlan g2 hd (by rw [e21]; exact hk2) (by rw [e21]; exact hP') (fun Z3 S3 g3 htk => ?_)
        have h5 := m_drops_L22 (Q := Q) hM hT hB hP hd k0 w k Z3 S3 g3 (z_D_tk (z_D_E hD hE) htk) (fun d' a b => by rw [htk.2.2 d' a b, z_E_day hE, hd2 d' a b]) (by omega) (by omega) (by
          rw [htk.2.1, z_E_day hE, h3, z_era hx, ef, if_neg (by rw [hf]; decide)]
          rfl)
        rw [eu, if_neg (by rw [hf]; decide), ← Nat.add_assoc] at h5
        rw [nI_1]
        exact h5
      refine zb_c (fun h4 => ⟨h.1, ?_⟩) (fun h4 => ⟨h.1, ?_⟩)
      · exact drop Z' S h (fun f _ _ => rfl) (by unfold z_fit; rw [h4]; rfl)
      · refine m_isSound h hM' hxt' (fun Z2 S2 g2 hE hW => ?_)
        rw [z_C_snd hC]
        refine zb_d (fun h5 => ?_) (fun h5 => ⟨g2.1, ?_⟩)
        · have hfx : z_fit Z x = true := by unfold z_fit; rw [h4, h5]; rfl
          have h6 := m_drops_L22 (Q := Q) hM hT hB hP hd k0 w k Z2 S2 g2 (z_D_E hD hE) (fun d' a b => by rw [z_E_day hE, hd2 d' a b]) (by omega) (by omega) (by
            rw [z_E_day hE, h3, ef, if_pos hfx, z_take1 hx, List.append_assoc])
          rw [eu, if_pos hfx, Nat.add_zero] at h6
          exact h6
        · exact drop Z2 S2 g2 hE (by unfold z_fit; rw [h4, h5]; rfl)
end MF
