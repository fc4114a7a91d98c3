/-! touch -/
section KP
variable {Z Z' : zZ} {q : Nat} {g : Nat → Nat} {t : Nat}
theorem vW_T2 {s t : Nat} {V' : vV} {q : Nat} {ofs : Nat → Nat} (ht : z_T Z t) (hq : Z 11 t = q) (hn : V' 900 s 0 = t) (l : v_LD V' s (z_st Z t) q (z_mt Z t) (z_cl Z t)) (w : v_W (z_st Z t) V' s (z_cs Z t) ofs) (e5 : V' 905 s 0 = (if ro_la (z_st Z t) (ro_rnd (z_st Z t)) (z_cs Z t) = ro_rnd (z_st Z t) then 1 else 0)) : W_T V' Z s t := by
  subst hq
  obtain ⟨w1, w2, w3, B, b1, b2, b3⟩ := w
  have r8 : ∀ r, r < z_L Z t → V' 908 s r = z_f Z t r := fun r hr => w2 r _ (z_f_get hr)
  refine ⟨hn, l.1, w1, l.2.1, l.2.2, r8, ?_, e5⟩
  rcases b3 with ⟨e1, e2⟩ | ⟨e1, e2, ⟨k, hk, ek⟩, _⟩
  · refine Or.inl ⟨e2, fun r hr k hk => ?_⟩
    rw [← r8 r hr, ← r8 k (by omega)]
    exact b1 r (by rw [e1]; exact hr) k hk
  · have eB : B < z_L Z t := e1
    refine Or.inr ⟨B, by rw [e2], e1, ⟨k, hk, ?_⟩, fun r hr k hk => ?_⟩
    · rw [← r8 B e1, ← r8 k (by omega)]
      exact ek
    · rw [← r8 r (by omega), ← r8 k (by omega)]
      exact b1 r hr k hk
theorem RV.kp {V V' : vV} {s fr : Nat} {ofs : Nat → Nat} (hV : RV V Z) (hI : IZ Z) (h : z_ta Z Z' q g) (h12 : Z 10 0 < 12) (hq : 1 ≤ q ∧ q ≤ 20) (hg : ∀ k, k < q → g k / 3 < Z 3 0 ∧ Z 4 (g k / 3) = Z 4 (g 0 / 3))
    (hs : (fr = 1006 ∧ s = V 1006 0 0) ∨ (fr = 301 ∧ s = V 301 0 0))
    (p0 : ∀ f, f ∉ [600, 900, 901, 902, 903, 904, 905, 906, 907, 908, 2906, 4906, 4907, 4908, 1003, 3003, 5003, fr] → V' f = V f)
    (p1 : ∀ f, f ∈ [900, 901, 902, 903, 905, 906, 907, 908, 2906] → ∀ a, a ≠ s → a ≠ Z 10 0 + 2 → V' f a = V f a)
    (p3 : V' 900 s 0 = Z 10 0) (p4 : V' 1003 0 0 = Z 10 0 + 1) (p5 : ∀ j, V' 3003 0 j = if j = Z 10 0 then s else V 3003 0 j) (p6 : V' fr 0 0 = Z 10 0 + 2)
    (l : v_LD V' s (Z 4 (g 0 / 3)) q (fun k => g k / 3) (fun k => g k % 3)) (w : v_W (Z 4 (g 0 / 3)) V' s (z_tcG Z (fun k => g k / 3) (fun k => g k % 3) q) ofs) (e5 : V' 905 s 0 = (if ro_la (Z 4 (g 0 / 3)) (ro_rnd (Z 4 (g 0 / 3))) (z_tcG Z (fun k => g k / 3) (fun k => g k % 3) q) = ro_rnd (Z 4 (g 0 / 3)) then 1 else 0)) (vL : V_L V' Z') : RV V' Z' ∧ IZ Z' := by
  have nT := h.nT h12 hq hg
  have j := hV.J
  have hsT : s < Z 10 0 + 2 := by
    rcases hs with ⟨_, rfl⟩ | ⟨_, rfl⟩
    · exact j.2.2.2.1
    · exact j.2.2.2.2
  have hst : ∀ t, t < Z 10 0 → V 3003 0 t ≠ s := fun t ht => by
    rcases hs with ⟨_, rfl⟩ | ⟨_, rfl⟩
    · exact (j.2.1 t ht).1
    · exact (j.2.1 t ht).2
  refine ⟨hV.ta hI h (s0 := s) (fun f hf => p0 f (fun x => hf ?_)) p4 (fun t ht => ?_) ?_ (by omega) (fun t ht f hf => ?_) ?_ ?_ vL w.2.2.1, hI.ta h h12 nT⟩
  · simp only [List.mem_cons, List.not_mem_nil, or_false] at x ⊢
    rcases hs with ⟨e, _⟩ | ⟨e, _⟩ <;> omega
  · rw [p5, if_neg (by omega)]
  · rw [p5, if_pos rfl]
  · have := (hV.T.2 t ht).1
    exact p1 f hf _ (hst t ht) (by omega)
  · refine vW_T2 (q := q) (ofs := ofs) nT h.2.2.2.1 p3 ?_ ?_ ?_
    · rw [h.nst hq.1]
      refine ⟨l.1, l.2.1, fun k hk => ?_⟩
      rw [(h.nmt hk).1, (h.nmt hk).2]
      exact l.2.2 k hk
    · rw [h.nst hq.1, h.ncs]
      exact w
    · rw [h.nst hq.1, h.ncs]
      exact e5
  · have six : V' 1006 0 0 = (if fr = 1006 then Z 10 0 + 2 else V 1006 0 0) ∧ V' 301 0 0 = (if fr = 301 then Z 10 0 + 2 else V 301 0 0) := by
      rcases hs with ⟨rfl, _⟩ | ⟨rfl, _⟩
      · rw [if_pos rfl, if_neg (by decide), p6, p0 301 (by decide)]
        exact ⟨rfl, rfl⟩
      · rw [if_neg (by decide), if_pos rfl, p6, p0 1006 (by decide)]
        exact ⟨rfl, rfl⟩
    have lt : ∀ t, t < Z 10 0 → V 3003 0 t < Z 10 0 + 2 := fun t ht => (hV.T.2 t ht).1
    refine ⟨fun a b ha hb e => ?_, fun a ha => ?_, ?_, ?_, ?_⟩
    · rw [h.2.1] at ha hb
      rw [p5, p5] at e
      by_cases ea : a = Z 10 0
      · by_cases eb : b = Z 10 0
        · rw [ea, eb]
        · rw [if_pos ea, if_neg eb] at e
          exact absurd e.symm (hst b (by omega))
      · by_cases eb : b = Z 10 0
        · rw [if_neg ea, if_pos eb] at e
          exact absurd e (hst a (by omega))
        · rw [if_neg ea, if_neg eb] at e
          exact j.1 a b (by omega) (by omega) e
    · rw [h.2.1] at ha
      rw [p5, six.1, six.2]
      by_cases ea : a = Z 10 0
      · rw [if_pos ea]
        rcases hs with ⟨rfl, rfl⟩ | ⟨rfl, rfl⟩
        · rw [if_pos rfl, if_neg (by decide)]
          exact ⟨by omega, j.2.2.1⟩
        · rw [if_neg (by decide), if_pos rfl]
          exact ⟨fun e => j.2.2.1 e.symm, by omega⟩
      · rw [if_neg ea]
        have w1 := lt a (by omega)
        have w2 := j.2.1 a (by omega)
        refine ⟨?_, ?_⟩
        · split
          · omega
          · exact w2.1
        · split
          · omega
          · exact w2.2
    · rw [six.1, six.2]
      have w1 := j.2.2.2.1
      have w2 := j.2.2.2.2
      rcases hs with ⟨rfl, _⟩ | ⟨rfl, _⟩
      · rw [if_pos rfl, if_neg (by decide)]
        omega
      · rw [if_neg (by decide), if_pos rfl]
        omega
    · rw [six.1, h.2.1]
      have w1 := j.2.2.2.1
      split <;> omega
    · rw [six.2, h.2.1]
      have w1 := j.2.2.2.2
      split <;> omega
end KP
section OPM
variable {E : zE} {ma : Nat → Nat} {Z : zZ} {m : Nat} {S : zS} {X : String → zS → Prop}
theorem m_touch_L {K : Nat → zS → Prop} {Q : Int32 → zS → Prop} (h8 : Z 8 0 ≤ 20) (h10 : Z 10 0 < 12) (k : ∀ Z' S', RM ma Z' m S' → agZ [0, 11, 12] Z Z' → Z' 0 0 = 0 → (∀ t, t < Z 10 0 → Z' 11 t = Z 11 t) → Z' 11 (Z 10 0) = Z 8 0 → (∀ x, x < 20 * Z 10 0 → Z' 12 x = Z 12 x) → (∀ k, k < Z 8 0 → Z' 12 (20 * Z 10 0 + k) = Z 9 k) → K m S') :
    ∀ (w j : Nat) (Z' : zZ) (S : zS), RM ma Z' m S → agZ [0, 11, 12] Z Z' → Z' 0 0 = 0 → (∀ t, t < Z 10 0 → Z' 11 t = Z 11 t) → Z' 11 (Z 10 0) = Z 8 0 → (∀ x, x < 20 * Z 10 0 → Z' 12 x = Z 12 x) → (∀ k, k < j → Z' 12 (20 * Z 10 0 + k) = Z 9 k) → j ≤ Z 8 0 → Z 8 0 < j + w → p_X11_touch_L49 E K Q X w m (nI j) S
  | 0, j, Z', S, h, a, a0, b, c, d, e, h1, h2 => by omega
  | w + 1, j, Z', S, h, a, a0, b, c, d, e, h1, h2 => by
    have e8 : gI S 1108 m = nI (Z 8 0) := (h.i 8).trans (by rw [a 8 (by decide)])
    have e10 : gI S 1110 m = nI (Z 10 0) := (h.i 10).trans (by rw [a 10 (by decide)])
    refine ⟨h.1, ?_⟩
    rw [e8, e10]
    refine pk_le (Z 8 0) j (fun h3 => ?_) (fun h3 => h.ij 9 j rfl (by show j < 20; omega) (h.ij 12 (20 * Z 10 0 + j) ?_ (by show _ < 240; omega) (h.wA 12 (20 * Z 10 0 + j) (Z 9 j) ?_ (fun S1 g1 => ?_))))
    · have : j = Z 8 0 := by omega
      subst this
      exact k Z' S h a a0 b c d e
    · rw [show (20 : Int32) * nI (Z 10 0) = nI (20 * Z 10 0) from pk_mul 20 _, nI_add]
    · rw [h.a 9, a 9 (by decide)]
    · rw [nI_1]
      refine m_touch_L h8 h10 k w (j + 1) _ S1 g1 (a.u) a0 b c (fun x hx => ?_) (fun k hk => ?_) (by omega) (by omega)
      · rw [up_i (by omega)]
        exact d x hx
      · by_cases x : k = j
        · rw [x, up_s]
        · rw [up_i (by omega)]
          exact e k (by omega)
theorem m_touch {Q : Int32 → zS → Prop} (h : RM ma Z m S) (h8 : Z 8 0 ≤ 20) (h10 : Z 10 0 ≤ 12)
    (k1 : ¬ (0 < Z 8 0 ∧ Z 10 0 < 12) → ∀ Z' S', RM ma Z' m S' → z_scr Z Z' → Z' 0 0 = 1 → Q 0 S')
    (k0 : 0 < Z 8 0 → Z 10 0 < 12 → ∀ Z' S', RM ma Z' m S' → z_ta Z Z' (Z 8 0) (Z 9) → Z' 8 0 = 0 → Z' 0 0 = 0 → Q (nI (Z 10 0)) S') : p_X11_touch E m S Q X := by
  have e8 : gI S 1108 m = nI (Z 8 0) := h.i 8
  have e10 : gI S 1110 m = nI (Z 10 0) := h.i 10
  have bad : ¬ (0 < Z 8 0 ∧ Z 10 0 < 12) → p_X11_touch_J17 E Q X m m S := fun no => m_tk h 1 (by omega) rfl (fun S1 g1 => k1 no _ S1 g1 s0 (up_s _ _ _ _))
  refine ⟨h.1, ?_⟩
  rw [e8, e10]
  refine ⟨fun c => bad (fun x => ?_), fun c => ⟨fun c2 => m_t0 h (fun S1 g1 => ?_), fun c2 => bad (fun x => ?_)⟩⟩
  · have := (nI_eq (b := 0) (by omega) (by decide)).mp c
    omega
  · have p8 : 0 < Z 8 0 := Nat.pos_of_ne_zero (fun e => c (by rw [e]; rfl))
    have p10 : Z 10 0 < 12 := Nat.lt_of_le_of_ne h10 (fun e => c2 (by rw [e]; rfl))
    have f8 : gI S1 1108 m = nI (Z 8 0) := g1.i 8
    refine g1.ij 11 (Z 10 0) (g1.i 10) (by show _ < 12; exact p10) (g1.wA 11 (Z 10 0) (Z 8 0) f8 (fun S2 g2 => ⟨21, ?_⟩))
    refine m_touch_L h8 p10 (fun Z3 S3 g3 a a0 b c d e => ⟨g3.1, g3.wI 8 0 rfl (fun S4 g4 => g4.wI 10 (Z 10 0 + 1) ?_ (fun S5 g5 => ?_))⟩) 21 0 _ S2 g2 (((agZ.refl _ _).u).u) rfl (fun t ht => by rw [up_i (by omega)]; rfl) (up_s _ _ _ _) (fun x _ => rfl) (fun k hk => by omega) (by omega) (by omega)
    · have f10 : gI S4 1110 m = nI (Z3 10 0) := g4.i 10
      rw [f10, a 10 (by decide)]
      exact nI_1 _
    · have f10 : gI S5 1110 m = nI (Z 10 0 + 1) := (g5.i 10).trans (by rw [up_s])
      rw [f10, show nI (Z 10 0 + 1) - 1 = nI (Z 10 0) from by rw [← nI_1]; exact Int32.add_sub_cancel _ _]
      refine k0 p8 p10 _ S5 g5 ⟨fun f hf => ?_, up_s _ _ _ _, b, c, d, e⟩ rfl a0
      have mm : f ≠ 0 ∧ f ≠ 8 ∧ f ≠ 10 ∧ f ≠ 11 ∧ f ≠ 12 := by
        simp only [List.mem_cons, List.not_mem_nil, or_false] at hf
        omega
      rw [up_f mm.2.2.1, up_f mm.2.1]
      exact a f (by simp only [List.mem_cons, List.not_mem_nil, or_false]; omega)
  · have := (nI_eq (b := 12) (by omega) (by decide)).mp c2
    omega
end OPM
section OPN
variable {E : zE} {x m : Nat}
end OPN
