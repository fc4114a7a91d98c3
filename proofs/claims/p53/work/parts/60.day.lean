/-! the class's days -/
theorem cm2 (x : Int32) : x + (-1) = x - 1 := (Int32.sub_eq_add_neg x 1).symm
theorem v_day_len (V : vV) (d : Nat) : (v_day V d).length = V 400 d 0 := by
  unfold v_day
  rw [List.length_map, List.length_range]
theorem v_day_get (V : vV) (d k : Nat) : (v_day V d)[k]? = if k < V 400 d 0 then some (V 2400 d k) else none := by
  unfold v_day
  rw [List.getElem?_map]
  split
  · rename_i h
    rw [List.getElem?_range h]
    rfl
  · rename_i h
    rw [List.getElem?_eq_none (by rw [List.length_range]; omega)]
    rfl
theorem v_day_mem {V : vV} {d x : Nat} : x ∈ v_day V d ↔ ∃ k, k < V 400 d 0 ∧ V 2400 d k = x := by
  unfold v_day
  rw [List.mem_map]
  exact ⟨fun ⟨k, a, b⟩ => ⟨k, List.mem_range.mp a, b⟩, fun ⟨k, a, b⟩ => ⟨k, List.mem_range.mpr a, b⟩⟩
theorem v_day_rem {V : vV} {d j : Nat} (hj : j < V 400 d 0) : v_day (vrem V 400 d j) d = (v_day V d).eraseIdx j := by
  apply List.ext_getElem?
  intro k
  rw [List.getElem?_eraseIdx, v_day_get, v_day_get, v_day_get, vrem_0, show vrem V 400 d j 2400 d k = if j ≤ k then V 2400 d (k + 1) else V 2400 d k from vrem_e V 400 d j k]
  by_cases e : k < j
  · have c1 : k < V 400 d 0 - 1 := by omega
    have c2 : k < V 400 d 0 := by omega
    have c3 : ¬ j ≤ k := by omega
    rw [if_pos e, if_pos c1, if_pos c2, if_neg c3]
  · have c3 : j ≤ k := by omega
    rw [if_neg e, if_pos c3]
    by_cases e2 : k + 1 < V 400 d 0
    · have c1 : k < V 400 d 0 - 1 := by omega
      rw [if_pos c1, if_pos e2]
    · have c1 : ¬ k < V 400 d 0 - 1 := by omega
      rw [if_neg c1, if_neg e2]
theorem z_emap (f : Nat → Nat) : ∀ (l : List Nat) (k : Nat), (l.map f).eraseIdx k = (l.eraseIdx k).map f
  | [], _ => rfl
  | a :: l, 0 => rfl
  | a :: l, k + 1 => congrArg (f a :: ·) (z_emap f l k)
/-- only the day d has changed -/
def v_dd (V V' : vV) (d : Nat) : Prop := (∀ f, f ≠ 400 → f ≠ 2400 → V' f = V f) ∧ ∀ f a, a ≠ d → V' f a = V f a
theorem v_dd.refl (V : vV) (d : Nat) : v_dd V V d := ⟨fun _ _ _ => rfl, fun _ _ _ => rfl⟩
theorem v_dd.rem {V V1 : vV} {d j : Nat} (h : v_dd V V1 d) : v_dd V (vrem V1 400 d j) d :=
  ⟨fun f h1 h2 => by rw [vrem_f h1 h2]; exact h.1 f h1 h2, fun f a ha => by rw [vrem_i ha]; exact h.2 f a ha⟩
theorem v_dd.day {V V' : vV} {d d' : Nat} (h : v_dd V V' d) (hd : d' ≠ d) : v_day V' d' = v_day V d' := by
  unfold v_day
  rw [h.2 400 d' hd, h.2 2400 d' hd]
theorem W_nd {V : vV} {Z : zZ} {s t : Nat} (hM : z_M Z) (ht : z_T Z t) (w : W_T V Z s t) : nI (V 903 s 0) = -1 ↔ z_ndB (z_f Z t) (z_L Z t) = true := by
  have hL := z_L_bd hM ht
  rw [z_ndB_iff]
  rcases w.2.2.2.2.2.2.1 with ⟨e, h⟩ | ⟨r, e, hr, ⟨k, hk, ek⟩, h⟩
  · exact ⟨fun _ => h, fun _ => e⟩
  · refine ⟨fun x => ?_, fun x => absurd ek (x r hr k hk)⟩
    rw [e] at x
    exact absurd x (z_oi_n (by omega))
theorem z_un_len (p : Nat → Bool) (l : List Nat) : z_un p l + (l.filter p).length = l.length := by
  unfold z_un
  induction l with
  | nil => rfl
  | cons a l ih =>
    cases e : p a with
    | true =>
      rw [List.filter_cons_of_neg (by rw [e]; decide), List.filter_cons_of_pos e, List.length_cons, List.length_cons]
      omega
    | false =>
      rw [List.filter_cons_of_pos (by rw [e]; rfl), List.filter_cons_of_neg (by rw [e]; decide), List.length_cons, List.length_cons]
      omega
section DAY
variable {E : zE} {ad la : Nat → Nat → Nat} {M T R : Nat} {V : vV} {Z : zZ} {S : zS} {X : String → zS → Prop}
theorem c_isSound {Q : Int32 → zS → Prop} {s t : Nat} (h : RC E ad la (sd M T R) V S) (hs : s < T) (hM : z_M Z) (ht : z_T Z t) (w : W_T V Z s t) (k : Q (zb (z_snd Z t)) S) : p_X9_isSound E (ad 9 s) S Q X := by
  have nd := W_nd hM ht w
  have e5 := w.2.2.2.2.2.2.2
  have b5 : V 905 s 0 < 2 := by rw [e5]; split <;> decide
  refine ⟨h.o 9 s hs, ?_⟩
  rw [h.gi 903 9 s hs, h.gi 905 9 s hs, nd, ri_0 b5, e5]
  have es : z_snd Z t = (z_la Z t == ro_rnd (z_st Z t) && z_ndB (z_f Z t) (z_L Z t)) := rfl
  refine ⟨fun h1 => ⟨Or.inl rfl, ?_⟩, fun h1 => ?_⟩
  · rw [es, show z_ndB (z_f Z t) (z_L Z t) = false by simpa using h1, Bool.and_false] at k
    exact k
  · rw [es, h1, Bool.and_true] at k
    by_cases e : z_la Z t = ro_rnd (z_st Z t)
    · rw [if_pos e]
      rw [show (z_la Z t == ro_rnd (z_st Z t)) = true by simpa using e] at k
      exact ⟨fun x => absurd x (by decide), fun _ => ⟨Or.inr rfl, k⟩⟩
    · rw [if_neg e]
      rw [show (z_la Z t == ro_rnd (z_st Z t)) = false by simpa using e] at k
      exact ⟨fun _ => ⟨Or.inl rfl, k⟩, fun x => absurd rfl x⟩
theorem c_isFit {Q : Int32 → zS → Prop} {s t : Nat} (h : RC E ad la (sd M T R) V S) (hs : s < T) (hM : z_M Z) (ht : z_T Z t) (w : W_T V Z s t) (k : Q (zb (z_fit Z t)) S) : p_X9_isFit E (ad 9 s) (nI (z_mk Z 6)) S Q X := by
  have hn6 := ro_N6 (z_T_N hM ht)
  refine ⟨h.o 9 s hs, c_isSound h hs hM ht w ?_⟩
  rw [h.gi 901 9 s hs, w.2.1, mk_fit Z (by omega)]
  have es : z_fit Z t = (z_are Z (z_st Z t) && z_snd Z t) := rfl
  refine zb_c (fun e => ⟨Or.inl rfl, ?_⟩) (fun e => ⟨fun h1 => ⟨Or.inl rfl, ?_⟩, fun h1 => ⟨Or.inr rfl, ?_⟩⟩)
  · rw [es, e, Bool.and_false] at k
    exact k
  · rw [es, e, show z_are Z (z_st Z t) = false by simpa using h1] at k
    exact k
  · rw [es, e, h1] at k
    exact k
theorem c_hasTouch_L {K1 K0 : zS → Prop} {Q : Int32 → zS → Prop} {d s : Nat} (h : RC E ad la (sd M T R) V S) (hd : d < 61) (hs : s < T) (k1 : s ∈ v_day V d → K1 S) (k0 : s ∉ v_day V d → K0 S) :
    ∀ (w j : Nat), j ≤ V 400 d 0 → V 400 d 0 < j + w → (∀ i, i < j → V 2400 d i ≠ s) → p_X3_hasTouch_L2 E K1 K0 Q X w (ad 4 d) (ad 9 s) (nI j) S
  | 0, j, h1, h2, h3 => by omega
  | w + 1, j, h1, h2, h3 => by
    have hz := h.sz 400 d hd
    refine ⟨h.o 4 d hd, h.ex 400 d hd (c_size h 400 d hd ?_)⟩
    refine pk_le (V 400 d 0) j (fun h4 => k0 (fun hm => ?_)) (fun h4 => ⟨h.o 4 d hd, h.ex 400 d hd (c_get (g := 2400) (t := 9) h 400 d j hd h4 (fun hm => ⟨fun h5 => ?_, fun h5 => k1 ?_⟩))⟩)
    · obtain ⟨i, hi, e⟩ := v_day_mem.mp hm
      exact h3 i (by omega) e
    · rw [nI_1]
      refine c_hasTouch_L h hd hs k1 k0 w (j + 1) (by omega) (by omega) (fun i hi e => ?_)
      by_cases x : i = j
      · subst x
        exact h5 (by rw [e])
      · exact h3 i (by omega) e
    · exact v_day_mem.mpr ⟨j, h4, (h.1.2.1 9 _ 9 s rfl rfl hm hs (Option.some.inj h5)).2⟩
theorem c_hasTouch {Q : Int32 → zS → Prop} {d s : Nat} (h : RC E ad la (sd M T R) V S) (hd : d < 61) (hs : s < T) (k1 : s ∈ v_day V d → Q 1 S) (k0 : s ∉ v_day V d → Q 0 S) : p_X3_hasTouch E (ad 4 d) (ad 9 s) S Q X :=
  ⟨V 400 d 0 + 1, c_hasTouch_L (K1 := fun S => ((1 : Int32) = 0 ∨ (1 : Int32) = 1) ∧ Q 1 S) (K0 := fun S => ((0 : Int32) = 0 ∨ (0 : Int32) = 1) ∧ Q 0 S) h hd hs (fun x => ⟨Or.inr rfl, k1 x⟩) (fun x => ⟨Or.inl rfl, k0 x⟩) _ 0 (by omega) (by omega) (fun i hi => absurd hi (Nat.not_lt_zero i))⟩
theorem c_takesTouch {Q : Int32 → zS → Prop} {d s : Nat} (h : RC E ad la (sd M T R) V S) (hd : d < 61) (hs : s < T) (k1 : V 400 d 0 < 4 → s ∉ v_day V d → Q 1 S) (k0 : ¬ (V 400 d 0 < 4 ∧ s ∉ v_day V d) → Q 0 S) : p_X3_takesTouch E (ad 4 d) (ad 9 s) S Q X := by
  have hz := h.sz 400 d hd
  refine ⟨h.o 4 d hd, h.ex 400 d hd (c_size h 400 d hd ?_)⟩
  refine pk_le 4 (V 400 d 0) (fun h4 => ⟨Or.inl rfl, k0 (fun x => by omega)⟩) (fun h4 => ⟨h.o 4 d hd, c_hasTouch h hd hs (fun hm => ⟨fun _ => ⟨Or.inl rfl, k0 (fun x => x.2 hm)⟩, fun x => absurd x (by decide)⟩) (fun hm => ⟨fun x => absurd rfl x, fun _ => ⟨Or.inr rfl, k1 h4 hm⟩⟩)⟩)
theorem c_greatest_L {K : Int32 → zS → Prop} {Q : Int32 → zS → Prop} {d : Nat} (h : RC E ad la (sd M T R) V S) (hd : d < 61) (e0 : V 400 d 0 = Z 21 d) (e1 : ∀ j, j < Z 21 d → V 901 (V 2400 d j) 0 = z_st Z (Z 22 (4 * d + j))) (h6 : ∀ j, j ≤ Z 21 d → z_mx Z d j < 2 ^ 31) (k : K (nI (z_mx Z d (Z 21 d))) S) :
    ∀ (w j : Nat), j ≤ Z 21 d → Z 21 d < j + w → p_X3_greatestStage_L4 E K Q X w (ad 4 d) (nI (z_mx Z d j)) (nI j) S
  | 0, j, h1, h2 => by omega
  | w + 1, j, h1, h2 => by
    have hz := h.sz 400 d hd
    refine ⟨h.o 4 d hd, h.ex 400 d hd (c_size h 400 d hd ?_)⟩
    rw [e0]
    refine pk_le (Z 21 d) j (fun h4 => ?_) (fun h4 => ⟨h.o 4 d hd, h.ex 400 d hd (c_get (g := 2400) (t := 9) h 400 d j hd (by omega) (fun hm => ⟨_, rfl, h.o 9 _ hm, ?_⟩))⟩)
    · have : j = Z 21 d := by omega
      subst this
      exact k
    · rintro _ rfl
      rw [h.gi 901 9 _ hm, e1 j h4, nI_1]
      have ih := c_greatest_L (Q := Q) h hd e0 e1 h6 k w (j + 1) (by omega) (by omega)
      have em : z_mx Z d (j + 1) = if z_mx Z d j < z_st Z (Z 22 (4 * d + j)) then z_st Z (Z 22 (4 * d + j)) else z_mx Z d j := rfl
      have b1 := h6 j h1
      have b2 := h6 (j + 1) (by omega)
      rw [em] at ih b2
      by_cases e : z_mx Z d j < z_st Z (Z 22 (4 * d + j))
      · rw [if_pos e] at ih b2
        rw [if_pos (nI_lt e b2)]
        exact ih
      · rw [if_neg e] at ih
        by_cases e3 : z_st Z (Z 22 (4 * d + j)) < 2 ^ 31
        · rw [if_neg (nI_nlt (by omega) (by omega))]
          exact ih
        · omega
theorem c_greatest {Q : Int32 → zS → Prop} {d : Nat} (h : RC E ad la (sd M T R) V S) (hd : d < 61) (e0 : V 400 d 0 = Z 21 d) (e1 : ∀ j, j < Z 21 d → V 901 (V 2400 d j) 0 = z_st Z (Z 22 (4 * d + j))) (h6 : ∀ j, j ≤ Z 21 d → z_mx Z d j < 2 ^ 31) (k : Q (nI (z_mx Z d (Z 21 d))) S) : p_X3_greatestStage E (ad 4 d) S Q X :=
  ⟨Z 21 d + 1, c_greatest_L h hd e0 e1 h6 k _ 0 (by omega) (by omega)⟩
theorem c_takeAway_L {K Q : zS → Prop} {d s : Nat} {l0 : List Nat} (hd : d < 61) (hs : s < T) (k : ∀ V' S', RC E ad la (sd M T R) V' S' → v_dd V V' d → v_day V' d = l0.filter (fun x => !(x == s)) → K S') :
    ∀ (w j : Nat) (V' : vV) (S : zS), RC E ad la (sd M T R) V' S → v_dd V V' d → j ≤ l0.length → j < w → v_day V' d = l0.take j ++ (l0.drop j).filter (fun x => !(x == s)) → p_X3_takeAway_L10 E K Q X w (ad 4 d) (ad 9 s) (nI j - 1) S
  | 0, j, V', S, h, ha, h1, h2, h3 => by omega
  | w + 1, 0, V', S, h, ha, h1, h2, h3 => by
    refine ⟨fun _ => k V' S h ha ?_, fun x => absurd (by decide) x⟩
    rw [h3]
    rfl
  | w + 1, j + 1, V', S, h, ha, h1, h2, h3 => by
    have hz := h.sz 400 d hd
    obtain ⟨x, hx⟩ : ∃ x, l0[j]? = some x := ⟨_, List.getElem?_eq_getElem (by omega)⟩
    have hl : (v_day V' d)[j]? = some x := by
      rw [h3, z_take1 hx, List.append_assoc, List.getElem?_append_right (by rw [List.length_take]; omega), List.length_take, show j - min j l0.length = 0 by omega]
      rfl
    have hj : j < V' 400 d 0 ∧ V' 2400 d j = x := by
      rw [v_day_get] at hl
      by_cases e : j < V' 400 d 0
      · rw [if_pos e] at hl
        exact ⟨e, Option.some.inj hl⟩
      · rw [if_neg e] at hl
        exact absurd hl (by simp)
    rw [nI_pred]
    refine ⟨fun y => absurd y (nI_pos (by omega)), fun _ => ⟨h.o 4 d hd, h.ex 400 d hd (c_get (g := 2400) (t := 9) h 400 d j hd hj.1 (fun hm => ?_))⟩⟩
    rw [hj.2] at hm ⊢
    rw [cm2]
    refine ⟨fun h5 => c_takeAway_L hd hs k w j V' S h ha (by omega) (by omega) ?_, fun h5 => ⟨h.o 4 d hd, h.ex 400 d hd (c_remove h 400 d j hd hj.1 (fun r S' g => c_takeAway_L hd hs k w j _ S' g ha.rem (by omega) (by omega) ?_))⟩⟩
    · rw [h3, z_take1 hx, z_drop1 hx, List.filter_cons_of_pos, List.append_assoc]
      · rfl
      · have : x ≠ s := fun e => h5 (by rw [e])
        simpa using this
    · have e : x = s := (h.1.2.1 9 _ 9 s rfl rfl hm hs (Option.some.inj h5)).2
      rw [v_day_rem hj.1, h3, z_era hx, z_drop1 hx, List.filter_cons_of_neg]
      simp [e]
theorem c_takeAway {Q : zS → Prop} {d s : Nat} (h : RC E ad la (sd M T R) V S) (hd : d < 61) (hs : s < T) (k : ∀ V' S', RC E ad la (sd M T R) V' S' → v_dd V V' d → v_day V' d = (v_day V d).filter (fun x => !(x == s)) → Q S') : p_X3_takeAway E (ad 4 d) (ad 9 s) S Q X := by
  refine ⟨h.o 4 d hd, h.ex 400 d hd (c_size h 400 d hd ⟨V 400 d 0 + 1, ?_⟩)⟩
  exact c_takeAway_L (l0 := v_day V d) hd hs k (V 400 d 0 + 1) (V 400 d 0) V S h (v_dd.refl V d) (by rw [v_day_len]; exact Nat.le_refl _) (by omega) (by rw [← v_day_len V d, List.take_length, List.drop_length]; exact (List.append_nil _).symm)
/-- the touches t in their slots -/
def v_SL (T : Nat) (V : vV) (Z : zZ) : Prop := ∀ t, t < Z 10 0 → V 3003 0 t < T ∧ W_T V Z (V 3003 0 t) t
theorem v_SL.dd {T : Nat} {V V' : vV} {Z : zZ} {d : Nat} (h : v_SL T V Z) (ha : v_dd V V' d) : v_SL T V' Z := by
  intro t ht
  have e : V' 3003 = V 3003 := ha.1 3003 (by decide) (by decide)
  rw [e]
  exact ⟨(h t ht).1, (h t ht).2.cg (fun f hf => by
    have : ∀ f, f ∈ [900, 901, 902, 903, 905, 906, 907, 908, 2906] → f ≠ 400 ∧ f ≠ 2400 := by decide
    rw [ha.1 f (this f hf).1 (this f hf).2]) (fun _ _ => rfl)⟩
theorem c_dropDay_L {K : Nat → Int32 → zS → Prop} {Q : Int32 → zS → Prop} {d : Nat} {l2 : Int32} {l0 : List Nat} (hd : d < 61) (hM : z_M Z) (hT : z_TT Z) (hl0 : ∀ t, t ∈ l0 → t < Z 10 0) (sl : v_SL T V Z) (k : ∀ V' S', RC E ad la (sd M T R) V' S' → v_dd V V' d → v_day V' d = (l0.filter (z_fit Z)).map (V 3003 0) → K (ad 4 d) l2 S') :
    ∀ (w j : Nat) (V' : vV) (S : zS), RC E ad la (sd M T R) V' S → v_dd V V' d → j ≤ l0.length → j < w → v_day V' d = (l0.take j ++ (l0.drop j).filter (z_fit Z)).map (V 3003 0) → p_X3_dropUnfit_L12 E K Q X w (ad 4 d) (nI (z_mk Z 6)) l2 (nI j - 1) S
  | 0, j, V', S, h, ha, h1, h2, h3 => by omega
  | w + 1, 0, V', S, h, ha, h1, h2, h3 => by
    refine ⟨fun _ => k V' S h ha ?_, fun x => absurd (by decide) x⟩
    rw [h3]
    rfl
  | w + 1, j + 1, V', S, h, ha, h1, h2, h3 => by
    have hz := h.sz 400 d hd
    obtain ⟨x, hx⟩ : ∃ x, l0[j]? = some x := ⟨_, List.getElem?_eq_getElem (by omega)⟩
    have hxt := hl0 x (List.mem_of_getElem? hx)
    have hl : (v_day V' d)[j]? = some (V 3003 0 x) := by
      rw [h3, List.getElem?_map, z_take1 hx, List.append_assoc, List.getElem?_append_right (by rw [List.length_take]; omega), List.length_take, show j - min j l0.length = 0 by omega]
      rfl
    have hj : j < V' 400 d 0 ∧ V' 2400 d j = V 3003 0 x := by
      rw [v_day_get] at hl
      by_cases e : j < V' 400 d 0
      · rw [if_pos e] at hl
        exact ⟨e, Option.some.inj hl⟩
      · rw [if_neg e] at hl
        exact absurd hl (by simp)
    have w1 := (sl.dd ha) x hxt
    rw [show V' 3003 = V 3003 from ha.1 3003 (by decide) (by decide)] at w1
    rw [nI_pred]
    refine ⟨fun y => absurd y (nI_pos (by omega)), fun _ => ⟨h.o 4 d hd, h.ex 400 d hd (c_get (g := 2400) (t := 9) h 400 d j hd hj.1 (fun hm => ?_))⟩⟩
    rw [hj.2] at hm ⊢
    refine ⟨_, rfl, h.o 9 _ hm, c_isFit h hm hM (hT.2 x hxt) w1.2 ?_⟩
    rw [cm2]
    refine zb_d (fun h5 => c_dropDay_L hd hM hT hl0 sl k w j V' S h ha (by omega) (by omega) ?_) (fun h5 => ⟨h.o 4 d hd, h.ex 400 d hd (c_remove h 400 d j hd hj.1 (fun r S' g => c_dropDay_L hd hM hT hl0 sl k w j _ S' g ha.rem (by omega) (by omega) ?_))⟩)
    · rw [h3, z_take1 hx, z_drop1 hx, List.filter_cons_of_pos h5, List.append_assoc]
      rfl
    · rw [v_day_rem hj.1, h3, z_drop1 hx, List.filter_cons_of_neg (by rw [h5]; decide), ← z_era hx ((l0.drop (j + 1)).filter (z_fit Z))]
      exact z_emap _ _ _
theorem c_dropDay {Q : Int32 → zS → Prop} {d : Nat} {l0 : List Nat} (h : RC E ad la (sd M T R) V S) (hd : d < 61) (hM : z_M Z) (hT : z_TT Z) (hl0 : ∀ t, t ∈ l0 → t < Z 10 0) (sl : v_SL T V Z) (e0 : v_day V d = l0.map (V 3003 0)) (k : ∀ V' S', RC E ad la (sd M T R) V' S' → v_dd V V' d → v_day V' d = (l0.filter (z_fit Z)).map (V 3003 0) → Q (nI (z_un (z_fit Z) l0)) S') : p_X3_dropUnfit E (ad 4 d) (nI (z_mk Z 6)) S Q X := by
  have hz := h.sz 400 d hd
  have len : V 400 d 0 = l0.length := by rw [← v_day_len V d, e0, List.length_map]
  refine ⟨h.o 4 d hd, h.ex 400 d hd (c_size h 400 d hd ⟨V 400 d 0 + 1, ?_⟩)⟩
  refine c_dropDay_L (l0 := l0) (V := V) hd hM hT hl0 sl (fun V' S' g ga ge => ⟨g.o 4 d hd, g.ex 400 d hd (c_size g 400 d hd ?_)⟩) (V 400 d 0 + 1) (V 400 d 0) V S h (v_dd.refl V d) (by omega) (by omega) (by rw [len, List.take_length, List.drop_length, e0]; exact congrArg (List.map (V 3003 0)) (List.append_nil _).symm)
  have e2 : V' 400 d 0 = (l0.filter (z_fit Z)).length := by rw [← v_day_len V' d, ge, List.length_map]
  have e3 := z_un_len (z_fit Z) l0
  have := k V' S' g ga ge
  rw [e2, len, pk_sub (by omega), show l0.length - (l0.filter (z_fit Z)).length = z_un (z_fit Z) l0 by omega]
  exact this
end DAY
