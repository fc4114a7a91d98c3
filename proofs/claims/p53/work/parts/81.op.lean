/-! setCall -/
theorem z_TT_cg {Z Z' : zZ} (h3 : Z' 3 = Z 3) (h4 : Z' 4 = Z 4) (h10 : Z' 10 = Z 10) (h11 : Z' 11 = Z 11) (h12 : Z' 12 = Z 12) (hT : z_TT Z) : z_TT Z' := by
  unfold z_TT z_T z_mt z_st
  rw [h3, h4, h10, h11, h12]
  exact hT
section OPO
variable {E : zE} {ad la : Nat → Nat → Nat} {M T R : Nat} {V : vV} {Z : zZ} {S : zS} {X : String → zS → Prop}
/-- every touch is written anew -/
theorem c_rewr_L {K Q : zS → Prop} (hM : z_M Z) (hT : z_TT Z) (eM : Z 3 0 = M) (eT : Z 10 0 + 2 = T) (vm : V_M V Z) (e3 : V 1003 0 0 = Z 10 0) (vJ : V_J V Z)
    (sl : ∀ t, t < Z 10 0 → V 3003 0 t < T ∧ V 900 (V 3003 0 t) 0 = t ∧ v_LD V (V 3003 0 t) (z_st Z t) (Z 11 t) (z_mt Z t) (z_cl Z t))
    (k : ∀ V' S', RC E ad la (sd M T R) V' S' → (∀ f, f ∉ [600, 902, 903, 904, 905, 908] → V' f = V f) → V_P V' → (∀ t, t < Z 10 0 → W_T V' Z (V 3003 0 t) t) → K S') :
    ∀ (w j : Nat) (V' : vV) (S : zS), RC E ad la (sd M T R) V' S → (∀ f, f ∉ [600, 902, 903, 904, 905, 908] → V' f = V f) → V_P V' → (∀ t, t < j → W_T V' Z (V 3003 0 t) t) → j ≤ Z 10 0 → Z 10 0 < j + w → p_X10_rewriteTouches_L2 E K Q X w (ad 10 0) (nI j) S
  | 0, j, V', S, h, a, p, b, h1, h2 => by omega
  | w + 1, j, V', S, h, a, p, b, h1, h2 => by
    have h12 := hT.1
    refine ⟨h.o 10 0 z1, h.ex 1003 0 z1 (c_size h 1003 0 z1 ?_)⟩
    have en : V' 1003 0 0 = Z 10 0 := by rw [a 1003 (by decide)]; exact e3
    have en3 : V' 3003 = V 3003 := a 3003 (by decide)
    rw [en]
    refine pk_le (Z 10 0) j (fun h3 => ?_) (fun h3 => ⟨h.o 10 0 z1, h.ex 1003 0 z1 (c_get (g := 3003) (t := 9) h 1003 0 j z1 (by rw [en]; exact h3) (fun hm => ⟨_, rfl, h.o 9 _ hm, h.o 10 0 z1, _, h.sgR 1004 6 z1, ?_⟩))⟩)
    · have : j = Z 10 0 := by omega
      subst this
      exact k V' S h a p b
    · have zt := hT.2 j h3
      have w1 := sl j h3
      have nslot : ∀ f, f ≠ 600 → f ≠ 902 → f ≠ 903 → f ≠ 904 → f ≠ 905 → f ≠ 908 → V' f = V f := fun f q1 q2 q3 q4 q5 q6 => a f (by simp only [List.mem_cons, List.not_mem_nil, or_false]; omega)
      have ld : v_LD V' (V 3003 0 j) (z_st Z j) (Z 11 j) (z_mt Z j) (z_cl Z j) := by
        unfold v_LD
        rw [a 901 (by decide), a 906 (by decide), a 2906 (by decide), a 907 (by decide)]
        exact w1.2.2
      have LD : z_LD Z (z_mt Z j) (z_cl Z j) (z_st Z j) (Z 11 j) := ⟨z_T_N hM zt, zt.2.2.1, fun k hk => ⟨(zt.2.2.2 k hk).1, Nat.mod_lt _ (by decide), (zt.2.2.2 k hk).2⟩⟩
      rw [en3]
      refine c_writeFrom (a := 0) h (vm.cg (fun f hf => ?_) (fun _ _ => rfl)) hM (fun k hk => by rw [← eM]; exact (zt.2.2.2 k hk).1) LD w1.1 ld (Nat.zero_le _) (v_Wp0 p) (fun V2 S2 g2 ag wW e5 => ?_)
      · exact a f (by
          have : ∀ f, f ∈ [1000, 3000, 500, 501, 502, 503, 504, 505, 506] → f ∉ [600, 902, 903, 904, 905, 908] := by decide
          exact this f hf)
      rw [nI_1]
      have wT : W_T V2 Z (V 3003 0 j) j := vW_T hM zt rfl (by rw [ag.f (by decide) (by decide) (by decide) (by decide) (by decide) (by decide), a 900 (by decide)]; exact w1.2.1) (ld.ag ag) wW e5
      refine c_rewr_L hM hT eM eT vm e3 vJ sl k w (j + 1) V2 S2 g2 (fun f hf => ?_) wW.2.2.1 (fun t ht => ?_) (by omega) (by omega)
      · have mm : f ≠ 600 ∧ f ≠ 902 ∧ f ≠ 903 ∧ f ≠ 904 ∧ f ≠ 905 ∧ f ≠ 908 := by
          simp only [List.mem_cons, List.not_mem_nil, or_false] at hf
          omega
        rw [ag.f mm.1 mm.2.1 mm.2.2.1 mm.2.2.2.1 mm.2.2.2.2.1 mm.2.2.2.2.2]
        exact a f hf
      · by_cases e : t = j
        · rw [e]
          exact wT
        · have ne : V 3003 0 t ≠ V 3003 0 j := fun x => e (vJ.1 t j (by omega) h3 x)
          refine (b t (by omega)).cg (fun f hf => ag f _ ?_ (fun x => ne x.2)) (fun _ _ => rfl)
          intro e6
          subst e6
          exact absurd hf (by decide)
end OPO
theorem ro_isC_lt {n c : Nat} (h : ro_isC n c = true) (hn : n ≤ 6) : c < 64 := by
  unfold ro_isC at h
  rw [Bool.and_eq_true, decide_eq_true_eq] at h
  have : 2 ^ n ≤ 2 ^ 6 := Nat.pow_le_pow_right (by decide) hn
  omega
section OPP
variable {E : zE} {x m : Nat}
end OPP
