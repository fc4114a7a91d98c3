/-! calls that change bells -/
theorem RR.mk3 {E : zE} {x m : Nat} {ad la : Nat → Nat → Nat} {V' : vV} {Z' : zZ} {Sc Sm : zS} {ma : Nat → Nat} {M T R : Nat} (hM : RM ma Z' m Sm) (hC : RC E ad la (sd M T R) V' Sc) (hx : ad 10 0 = x) (hV : RV V' Z') (hI : IZ Z') (e3 : Z' 3 0 = M) (e10 : Z' 10 0 + 2 = T) (e27 : Z' 27 0 = R) : RR E x m Sc Sm := by
  refine ⟨ad, la, V', ma, Z', ⟨?_, hx⟩, hM, hV, hI⟩
  rw [e3, e10, e27]
  exact hC
theorem z_R4_cg {Z Z' : zZ} (hR : z_R4 Z) (h1 : Z' 24 = Z 24) (h2 : Z' 25 = Z 25) (h3 : Z' 26 = Z 26) : z_R4 Z' := by
  unfold z_R4
  rw [h1, h2, h3]
  exact hR
theorem IZ.dr {Z Z' : zZ} (h27 : Z 27 0 = 0) (hM : z_M Z) (hT : z_TT Z) (hB : z_B Z) (hP : z_P Z) (hR : z_R4 Z) (h20 : Z 20 0 ≤ 60) (nd : I_nd Z) (w : I_w Z) (n : I_n Z) (h : z_dr Z Z') : IZ Z' := by
  have c := z_dr_C h
  have f := h.1
  have e20 : Z' 20 = Z 20 := f 20 (by decide)
  have ef : z_fit Z' = z_fit Z := z_fit_congr c (f 18 (by decide)) (f 19 (by decide))
  refine ⟨⟨z_C_M c hM, z_C_TT c hT, z_B_congr (f 18 (by decide)) (f 19 (by decide)) hB, z_dr_P h hP, z_R4_cg hR (f 24 (by decide)) (f 25 (by decide)) (f 26 (by decide)), by rw [e20]; exact h20⟩, fun d h1 h2 t ht => ?_, fun d hd => ?_, ?_, ?_, ?_⟩
  · rw [e20] at h1
    rw [h.2.2.2 d h1 h2] at ht
    rw [ef]
    exact (List.mem_filter.mp ht).2
  · by_cases x : d < Z 20 0
    · rw [h.2.2.1 d x]
      exact nd d hd
    · rw [h.2.2.2 d (by omega) hd]
      exact (nd d hd).filter _
  · intro e i hi
    rw [z_nw_congr (f 17 (by decide)) (f 18 (by decide))]
    exact w h27 i hi
  · have e : Z' 27 0 = 0 := by rw [f 27 (by decide)]; exact h27
    exact ⟨by omega, fun x => by omega⟩
  · unfold I_n
    rw [f 33 (by decide), f 34 (by decide), f 35 (by decide)]
    exact n
theorem IZ.lo {Z Z' : zZ} (h27 : Z 27 0 = 0) (hM : z_M Z) (hT : z_TT Z) (hB : z_B Z) (hP : z_P Z) (hR : z_R4 Z) (h20 : Z 20 0 ≤ 60) (ft : I_fit Z) (nd : I_nd Z) (n : I_n Z) (h : z_lo Z Z') : IZ Z' := by
  have c := z_lo_C h
  have f := z_lo_f h
  have e20 : Z' 20 = Z 20 := f 20 (by decide)
  have li := z_lo_I hM hT hP hB h20 ft nd h
  refine ⟨⟨z_C_M c hM, z_C_TT c hT, z_lo_B h hB, z_lo_P h hP, z_R4_cg hR (f 24 (by decide)) (f 25 (by decide)) (f 26 (by decide)), by rw [e20]; exact h20⟩, li.1, li.2.1, fun _ => li.2.2.1, ?_, ?_⟩
  · have e : Z' 27 0 = 0 := by rw [f 27 (by decide)]; exact h27
    exact ⟨by omega, fun x => by omega⟩
  · unfold I_n
    rw [f 33 (by decide), f 34 (by decide), f 35 (by decide)]
    exact n
theorem V_B.u0 {V : vV} {Z : zZ} (h : V_B V Z) (b v : Nat) (h9 : Z 0 = Z 0 := by rfl) : V_B (u3 V 200 b 0 v) (up (up Z 0 0 0) 19 b v) := by
  intro b' hb'
  have w := h b' hb'
  refine ⟨?_, w.2.1, w.2.2.1, w.2.2.2.1, w.2.2.2.2.1, w.2.2.2.2.2.1, w.2.2.2.2.2.2.1, w.2.2.2.2.2.2.2.1, w.2.2.2.2.2.2.2.2.1, w.2.2.2.2.2.2.2.2.2⟩
  by_cases e : b' = b
  · rw [e, u3_s, up_s]
  · rw [u3_i e, up_i e]
    exact w.1
theorem z_in_le {Z Z' : zZ} (h : ∀ b, b < 6 → z_in Z b = true → z_in Z' b = true) {n : Nat} (hn : n ≤ 6) (a : z_are Z n = true) : z_are Z' n = true := by
  unfold z_are at a ⊢
  rw [List.all_eq_true] at a ⊢
  exact fun b hb => h b (by have := List.mem_range.mp hb; omega) (a b hb)
theorem z_fit_le {Z Z' : zZ} (hM : z_M Z) (hT : z_TT Z) (c : z_C Z Z') (h : ∀ b, b < 6 → z_in Z b = true → z_in Z' b = true) {t : Nat} (ht : t < Z 10 0) (a : z_fit Z t = true) : z_fit Z' t = true := by
  unfold z_fit at a ⊢
  rw [Bool.and_eq_true] at a ⊢
  rw [z_C_st c, z_C_snd c]
  exact ⟨z_in_le h (ro_N6 (z_T_N hM (hT.2 t ht))).1 a.1, a.2⟩
section OPG
variable {E : zE} {x m : Nat}
theorem z_nw0 {Z : zZ} {i : Nat} (h : Z 17 i = 0) (hi : i < 12) : z_nw Z i = false := by
  unfold z_nw
  rw [h]
  have : ∀ i, i < 12 → decide (nI 0 < z_lim i) = true := by decide
  rw [this i hi]
  exact Bool.and_false _
end OPG
