/-! all is told -/
section LTO
variable {E : zE} {aa : Nat → Nat} {x : Nat} {L Z : zZ} {S C : zS} {Q : Int32 → zS → zS → Prop} {X : String → zS → Prop}
theorem l_behind0 {Q : Int32 → zS → Prop} {X : String → zS → Prop} {i c : Nat} (hM : z_M Z) (hi : i < Z 3 0) (h5 : Z 5 i ≤ 4) (hc : c < 3) (k : Q (nI (iv (Z 4 i) (ro_la (Z 4 i) (ro_rnd (Z 4 i)) (z_lc Z i c)))) S) : p_L_behind E (nI (ro_rnd (Z 4 i))) (lN (lz_m Z i)) (nI c) S Q X := by
  have := l_behind (E := E) (X := X) hM hi h5 hc (ro_V_rnd (hM.2 i hi).1).1 k
  rw [iv_rnd (hM.2 i hi).1] at this
  exact this
theorem it_1 (hM : z_M Z) {i : Nat} (hi : i < Z 3 0) : ro_it (Z 4 i) (z_lc Z i 0) 1 = ro_la (Z 4 i) (ro_rnd (Z 4 i)) (z_lc Z i 0) := rfl
theorem lt_L46 {K : Nat → Int32 → Int32 → Nat → Nat → Nat → Nat → Nat → Nat → Nat → Nat → Nat → Nat → Int32 → Int32 → Int32 → Int32 → zS → zS → Prop} {i k0 : Nat} {l1 l2 l15 : Int32} (h : RA aa L S) (hz : LZ L Z) (hM : z_M Z) (hi : i < Z 3 0) (h3 : ro_it (Z 4 i) (z_lc Z i 0) k0 = ro_rnd (Z 4 i)) (h4 : ∀ q, 1 ≤ q → q < k0 → ro_it (Z 4 i) (z_lc Z i 0) q ≠ ro_rnd (Z 4 i)) (hk6 : k0 ≤ 6)
    (k : K x l1 l2 (aa 0) (aa 1) (aa 2) (aa 3) (aa 4) (aa 5) (aa 6) (aa 7) (aa 9) (aa 10) (nI i) (nI (Z 4 i)) l15 (nI k0) S C) :
    ∀ (w q : Nat), 1 ≤ q → q ≤ k0 → k0 < q + w → p_L_isTold_L46 E K Q X w x l1 l2 (aa 0) (aa 1) (aa 2) (aa 3) (aa 4) (aa 5) (aa 6) (aa 7) (aa 9) (aa 10) (nI i) (nI (Z 4 i)) l15 (nI (iv (Z 4 i) (ro_it (Z 4 i) (z_lc Z i 0) q))) (nI q) S C
  | 0, q, h1, h2, h5 => by omega
  | w + 1, q, h1, h2, h5 => by
    have hN := (hM.2 i hi).1
    have hn6 := ro_N6 hN
    have mi := hz.M.2.2 i hi
    have b3 : Z 3 0 ≤ 3 := hz.M.2.1
    have hV := ro_it_V hN (z_M_lc hM hi (c := 0) (by decide)) q
    have b1 := iv_lt2 hN hV
    have b2 := ro_V_lt hN (ro_V_rnd hN).1
    unfold p_L_isTold_L46
    refine l_rounds hn6.1 ?_
    rw [nI_eq (by omega) (by omega), iv_eq_rnd hN hV]
    refine ⟨fun e => ?_, fun ne => ⟨h.o 0, h.ix 0 i rfl (by show _ < 3; omega) ?_⟩⟩
    · have : q = k0 := by
        rcases Nat.lt_or_ge q k0 with y | y
        · exact absurd e (h4 q h1 y)
        · omega
      subst this
      exact k
    · have lt : q < k0 := by
        rcases Nat.lt_or_ge q k0 with y | y
        · exact y
        · have : q = k0 := by omega
          subst this
          exact absurd h3 ne
      rw [h.j 0, show L 0 i = lz_m Z i from mi.2]
      refine l_behind (c := 0) hM hi mi.1 (by decide) hV ?_
      rw [nI_1]
      exact lt_L46 h hz hM hi h3 h4 hk6 k w (q + 1) (by omega) (by omega) (by omega)
theorem lt_L3 {K285 K314 : zS → zS → Prop} {K322 : Nat → Int32 → Nat → Nat → Nat → Nat → Nat → Nat → Nat → Nat → Nat → Nat → zS → zS → Prop} {l1 l2 : Int32} (hc : RZ E x Z C) :
    ∀ (w i : Nat) (L : zZ) (S : zS), RA aa L S → LZ L Z → i ≤ Z 3 0 → Z 3 0 < i + w → (∀ L' S', RA aa L' S' → LZ L' Z → K322 x l2 (aa 0) (aa 1) (aa 2) (aa 3) (aa 4) (aa 5) (aa 6) (aa 7) (aa 9) (aa 10) S' C) →
    p_L_isTold_L3 E K285 K314 K322 Q X w x l1 l2 (aa 0) (aa 1) (aa 2) (aa 3) (aa 4) (aa 5) (aa 6) (aa 7) (aa 9) (aa 10) (nI i) S C
  | 0, i, L, S, h, hz, h1, h2, k => by omega
  | w + 1, i, L, S, h, hz, h1, h2, k => by
    have hI := hc.I
    have hM := hI.M
    have g0 : L 10 0 = Z 3 0 := hz.M.1
    have b3 : Z 3 0 ≤ 3 := hz.M.2.1
    unfold p_L_isTold_L3
    refine ⟨h.o 10, h.i0 10 0, ?_⟩
    rw [h.a 10 0, g0]
    refine pk_le (Z 3 0) i (fun _ => k L S h hz) (fun hi => ⟨h.o 0, h.ix 0 i rfl (by show _ < 3; omega) ?_⟩)
    have mi := hz.M.2.2 i hi
    have h5 := mi.1
    have hN := (hM.2 i hi).1
    have hn6 := ro_N6 hN
    have nm := z_M_n hM hi
    have em : gJ S (aa 0) i = lN (lz_m Z i) := by rw [h.j 0]; exact congrArg lN mi.2
    rw [em]
    obtain ⟨k1, k11, k16, k1e⟩ := ro_it_back hN (z_M_lc hM hi (c := 0) (by decide))
    have least : ∃ k0, 1 ≤ k0 ∧ k0 ≤ 6 ∧ ro_it (Z 4 i) (z_lc Z i 0) k0 = ro_rnd (Z 4 i) ∧ ∀ q, 1 ≤ q → q < k0 → ro_it (Z 4 i) (z_lc Z i 0) q ≠ ro_rnd (Z 4 i) := by
      have : ∀ n, 1 ≤ n → n ≤ 6 → ro_it (Z 4 i) (z_lc Z i 0) n = ro_rnd (Z 4 i) → ∃ k0, 1 ≤ k0 ∧ k0 ≤ 6 ∧ ro_it (Z 4 i) (z_lc Z i 0) k0 = ro_rnd (Z 4 i) ∧ ∀ q, 1 ≤ q → q < k0 → ro_it (Z 4 i) (z_lc Z i 0) q ≠ ro_rnd (Z 4 i) := by
        intro n
        induction n using Nat.strongRecOn with
        | ind n ih =>
          intro n1 n6 en
          by_cases y : ∃ q, 1 ≤ q ∧ q < n ∧ ro_it (Z 4 i) (z_lc Z i 0) q = ro_rnd (Z 4 i)
          · obtain ⟨q, q1, q2, q3⟩ := y
            exact ih q q2 q1 (by omega) q3
          · exact ⟨n, n1, n6, en, fun q q1 q2 q3 => y ⟨q, q1, q2, q3⟩⟩
      exact this k1 k11 k16 k1e
    obtain ⟨k0, k01, k06, k0e, k0l⟩ := least
    refine l_stageOf hM hi h5 (l_low (n := 3) (by decide) (by decide) (fun c hcl => l_rounds hn6.1 ⟨h.o 0, h.ix 0 i rfl (by show _ < 3; omega) ?_⟩))
    rw [em]
    refine l_behind0 (c := 0) hM hi h5 (by decide) ⟨7, ?_⟩
    have hch := fun c' p' (hc' : c' < 3) (hp' : p' < Z 5 i) => z_M_ch hM hi hc' hp'
    refine lt_L46 (k0 := k0) h hz hM hi k0e k0l k06 ⟨h.o 0, h.ix 0 i rfl (by show _ < 3; omega) ?_⟩ 7 1 (Nat.le_refl _) k01 (by omega)
    rw [em]
    refine l_size hM hi h5 (l_low (n := Z 5 i) (by omega) (by omega) (fun p hp => ?_))
    refine j_stage hc hi (pe rfl (j_head hc hi hcl (l_rounds hn6.1 ⟨h.o 0, h.ix 0 i rfl (by show _ < 3; omega) ?_⟩)))
    rw [em]
    have hV := ro_la_V hN (z_lc Z i c) _ (ro_V_rnd hN).1 (z_M_lc hM hi hcl)
    refine l_behind0 hM hi h5 hcl (l_number hN hV (pe rfl (j_course hc hi k01 k06 k0e k0l (pe rfl (j_chAt hc hi hcl hp ⟨h.o 0, h.ix 0 i rfl (by show _ < 3; omega) ?_⟩)))))
    rw [em]
    refine l_its hM hi h5 hcl hp (pe rfl ⟨h.o 0, h.ix 0 i rfl (by show _ < 3; omega) ?_⟩)
    rw [em]
    refine l_size hM hi h5 (j_chAt_n hc hi hcl (Nat.le_refl _) (by omega) (pe rfl (j_chAt_r hc hi (by decide) (ne_r (a := 3) (Or.inr (by decide)) (by decide) (by decide)) (pe rfl (j_chAt_p hc hi (by decide) (pe rfl (j_head_r hc hi (ne_rm (by decide) (by decide)) (pe rfl ?_))))))))
    have pf : 0 < ro_fac (Z 4 i) := by rcases hN with e | e | e <;> rw [e] <;> decide
    have z0 : z_fl Z i 0 = false := by
      cases y : z_fl Z i 0 with
      | false => rfl
      | true => exact absurd rfl ((z_fl_iff hM hi pf).mp y).1
    refine j_isFalse (p := 0) hc hi pf (pe (by rw [z0]; rfl) (j_isFalse_p hc hi (ne_m (by decide) (by have := ro_fac_lt (n := Z 4 i); omega)) (pe rfl ?_)))
    have J : ∀ l100 : Int32, l100 = nI (ro_fac (Z 4 i)) → p_L_isTold_J276 E (fun (a0 : Nat) (l1 : Int32) (l2 : Int32) (a3 : Nat) (a4 : Nat) (a5 : Nat) (a6 : Nat) (a7 : Nat) (a8 : Nat) (a9 : Nat) (a10 : Nat) (a11 : Nat) (a12 : Nat) (l13 : Int32) (S C : zS) => p_L_isTold_L3 E K285 K314 K322 Q X w a0 l1 l2 a3 a4 a5 a6 a7 a8 a9 a10 a11 a12 l13 S C) (fun (S C : zS) => K285 S C) (fun (S C : zS) => K314 S C) Q X x l1 l2 (aa 0) (aa 1) (aa 2) (aa 3) (aa 4) (aa 5) (aa 6) (aa 7) (aa 9) (aa 10) (nI i) l100 (nI i) x S C := by
      intro l100 el
      subst el
      have fl := ro_fac_lt (n := Z 4 i)
      refine j_isFalse_p hc hi (ne_i (Nat.le_refl _) (by omega)) (py' ⟨fun _ => ?_, fun _ => ?_⟩)
      · rw [nI_1]
        exact lt_L3 hc w (i + 1) L S h hz (by omega) (by omega) k
      · refine j_falseRows hc hi ⟨h.o 0, h.ix 0 i rfl (by show _ < 3; omega) (l_falseMany h hz hM hi rfl (fun f S' h' => ⟨fun _ => ?_, fun y => absurd rfl y⟩))⟩
        rw [nI_1]
        exact lt_L3 hc w (i + 1) _ S' h' hz.sr (by omega) (by omega) k
    rw [show (nI (Z 4 i) = 4 ↔ Z 4 i = 4) from nI_eq (b := 4) (by omega) (by decide), show (nI (Z 4 i) = 5 ↔ Z 4 i = 5) from nI_eq (b := 5) (by omega) (by decide)]
    exact ⟨fun n4 => ⟨fun n5 => J 720 (by rw [show Z 4 i = 6 by omega]; rfl), fun e => J 120 (by rw [e]; rfl)⟩, fun e => J 24 (by rw [e]; rfl)⟩
end LTO
