/-! compose -/
theorem pn_0 {d : Nat → Nat} : ∀ N, (∀ k, k < N → d k = 0) → pn d N = 0
  | 0, _ => rfl
  | N + 1, h => by
    show 3 * pn d N + d N = 0
    rw [pn_0 N (fun k hk => h k (by omega)), h N (by omega)]
section OPW
variable {E : zE} {x m : Nat}
theorem s_compose : sim_compose E x m (RR E x m) := by
  intro Sc Sm hRR l1 l2
  obtain ⟨ad, la, V, ma, Z, ⟨hC, rfl⟩, hM, hV, hI⟩ := hRR
  unfold pm_compose
  have vm := hV.M
  have hMz := hI.M
  have h12 := hI.T.1
  have e3 := hV.T.1
  have vJ := hV.J
  have hs : V 301 0 0 < Z 10 0 + 2 := vJ.2.2.2.2
  have e10 : gI Sm 1110 m = nI (Z 10 0) := hM.i 10
  refine ⟨hC.o 10 0 z1, c_methodAt hC vm.1 (fun i hi => (vm.2 i hi).1) (fun i hi hm e => c_rqR (lo := 1) (hi := 6) (by decide) (by decide) (fun N n1 n6 e2 => ⟨hC.o 10 0 z1, c_room hC (fun lt => ⟨hC.o 10 0 z1, _, hC.sgR 1005 3 z1, _, rfl, hC.o 3 0 z1, hC.o 3 0 z1, ?_⟩) (fun nl => Or.inr (Or.inr ⟨rfl, ?_⟩))⟩) (fun hn => Or.inr (Or.inl ⟨rfl, ?_⟩))) (fun hn => Or.inl ⟨rfl, ?_⟩)⟩
  · subst e
    subst e2
    rw [e3] at lt
    have b := z_M_n hMz hi
    have p6 : 3 ^ N ≤ 3 ^ 6 := Nat.pow_le_pow_right (by decide) n6
    have p7 : (3 : Nat) ^ 6 = 729 := by decide
    refine hC.vr 301 z1 (fun _ => ⟨hC.o 9 _ hs, hC.ex 906 _ hs (c_clear hC 906 _ hs (fun S1 g1 => ⟨7, Nat.le_refl _, ?_⟩))⟩)
    have e301 : u3 V 906 (V 301 0 0) 0 0 301 0 0 = V 301 0 0 := by rw [u3_f (by decide)]
    refine c_adds_L (V := u3 V 906 (V 301 0 0) 0 0) (n := Z 4 i) hm hs e301 (by rw [u3_f (by decide)]; exact (vm.2 i hi).2.2.1) n6 (fun la2 V2 S2 g2 a2 b2 c2 d2 f2 => ⟨730, ?_⟩) 7 0 la _ S1 g1 (fun _ _ => rfl) (fun _ _ _ => rfl) (u3_s _ _ _ _ _) (fun q hq => absurd hq (Nat.not_lt_zero q)) (fun h => absurd h (Nat.lt_irrefl 0)) (Nat.zero_le _) (by omega)
    have va2 : ∀ f, f ∉ [901, 906, 907, 2906, 4906] → V2 f = V f := fun f hf => by
      rw [a2 f hf, u3_f (fun e => hf (by rw [e]; decide))]
    have vb2 : ∀ f a, a ≠ V 301 0 0 → V2 f a = V f a := fun f a ha => by
      rw [b2 f a ha, u3_i ha]
    have z0 : ∀ k, k < N → V2 907 (V 301 0 0) k = 0 := fun k hk => (d2 k hk).2
    have pn0 : pn (V2 907 (V 301 0 0)) N = 0 := pn_0 N z0
    have vP2 : V_P V2 := by
      unfold V_P
      rw [va2 600 (by decide)]
      exact hV.2.2.2.2.2.1
    have vm2 : V_M V2 Z := vm.cg (fun f hf => va2 f (by
      have : ∀ f, f ∈ [1000, 3000, 500, 501, 502, 503, 504, 505, 506] → f ∉ [901, 906, 907, 2906, 4906] := by decide
      exact this f hf)) (fun _ _ => rfl)
    -- what is known of a later state
    have l34 : ∀ V' : vV, (∀ f, f ∉ [600, 902, 903, 904, 905, 907, 908] → V' f = V2 f) → ∀ f, f ∉ [600, 901, 902, 903, 904, 905, 906, 907, 908, 2906, 4906] → V' f = V f := fun V' a' f hf => by
      have m1 : f ∉ [600, 902, 903, 904, 905, 907, 908] ∧ f ∉ [901, 906, 907, 2906, 4906] := by
        simp only [List.mem_cons, List.not_mem_nil, or_false] at hf ⊢
        omega
      rw [a' f m1.1]
      exact va2 f m1.2
    refine c_st_L (Z := Z) vm2 hMz hm hi ⟨n1, n6⟩ hs (by rw [va2 301 (by decide)]) (f2 (by omega)) c2 (fun k hk => (d2 k hk).1) (fun V3 S3 ofs g3 a3 b3 d3 sy U w3 e5 => ⟨g3.o 3 0 z1, g3.o 3 0 z1, ?_⟩) (fun V3 S3 g3 a3 b3 p3 U => ⟨fun _ => ?_, fun b14 x => by cases x⟩) 730 0 0 V2 S2 g2 (fun _ _ => rfl) (fun _ _ _ _ => rfl) (fun k hk => by rw [z0 k hk]; decide) (fun k _ hk => z0 k hk) (v_Wp0 vP2) (fun e he h => by rw [pn0] at h; exact absurd h (Nat.not_lt_zero e)) (Nat.zero_le _) (by omega) (by omega)
    · -- a sound touch
      have r3 := (g3.vrR 301 z1).2
      rw [show V3 301 = V2 301 from a3 301 (by decide), va2 301 (by decide), show (301 : Nat) / 100 = 3 from rfl] at r3
      have la3 := l34 V3 a3
      have lb3 : ∀ f a, f ≠ 600 → a ≠ V 301 0 0 → V3 f a = V f a := fun f a hf ha => (b3 f a hf ha).trans (vb2 f a ha)
      refine c_newTouch (P := fun q2 S6 => _) g3 (fun ad' q2 V4 S4 g4 eq ea b1 b4 b6 => ?_)
      have ea3 : ad' 3 0 = ad 3 0 := ea 3 0 z1
      have ea10 : ad' 10 0 = ad 10 0 := ea 10 0 z1
      have ea9 : ad' 9 (V 301 0 0) = ad 9 (V 301 0 0) := ea 9 _ hs
      have o3 := g4.o 3 0 z1
      have gV := g4.wV 301 (Z 10 0 + 2) (by decide) z1 (Nat.lt_succ_self _)
      rw [show (301 : Nat) / 100 = 3 from rfl, ea3, eq] at gV
      rw [ea3] at o3
      refine ⟨o3, ?_⟩
      rintro _ rfl
      refine ⟨fun x => (by rw [r3] at x; cases x), fun b14 x => ?_⟩
      rw [r3] at x
      cases x
      have o10 := gV.o 10 0 z1
      rw [ea10] at o10
      refine ⟨o10, ?_⟩
      rw [← ea10, ← ea9]
      have v1003 : u3 V4 301 0 0 (Z 10 0 + 2) 1003 0 0 = Z 10 0 := by
        rw [u3_f (by decide), b1 1003 (by decide), la3 1003 (by decide), e3]
      have sT : V 301 0 0 ≠ Z 10 0 + 2 := by omega
      refine c_keep gV (Nat.lt_succ_of_lt hs) (by rw [v1003]; omega) (fun la5 cp S5 g5 => ?_)
      obtain ⟨k1, k2, k3, k4, k5⟩ := v_kp (u3 V4 301 0 0 (Z 10 0 + 2)) (V 301 0 0) cp (u3 V4 301 0 0 (Z 10 0 + 2) 1003 0 0)
      rw [v1003] at g5 k1 k2 k3 k4 k5 ⊢
      generalize vadd (u3 (u3 V4 301 0 0 (Z 10 0 + 2)) 900 (V 301 0 0) 0 (Z 10 0)) 1003 0 cp (V 301 0 0) = V5 at *
      have snd3 : sw Z i N (D3 N (pn (V3 907 (V 301 0 0)) N)) = true := by
        rw [sw_c (D3_pn d3)]
        exact sy
      have pl := pn_b N d3
      refine m_compose hM hMz hi ⟨n1, n6⟩ lt (fun w hw sw1 sl Z6 S6 g6 ta z8 z00 => ?_) (fun no => absurd snd3 (by rw [no _ pl]; decide))
      have ew : w = pn (V3 907 (V 301 0 0)) N := by
        rcases Nat.lt_trichotomy w (pn (V3 907 (V 301 0 0)) N) with y | y | y
        · rw [U w hw y] at sw1
          cases sw1
        · exact y
        · rw [sl _ y] at snd3
          cases snd3
      subst ew
      have dg : ∀ k, k < N → D3 N (pn (V3 907 (V 301 0 0)) N) k = V3 907 (V 301 0 0) k := D3_pn d3
      have gd : ∀ k, (3 * i + D3 N (pn (V3 907 (V 301 0 0)) N) k) / 3 = i ∧ (3 * i + D3 N (pn (V3 907 (V 301 0 0)) N) k) % 3 = D3 N (pn (V3 907 (V 301 0 0)) N) k := fun k => by
        have := D3_lt (N := N) (w := pn (V3 907 (V 301 0 0)) N) (k := k)
        omega
      have tcg : z_tcG Z (fun k => (3 * i + D3 N (pn (V3 907 (V 301 0 0)) N) k) / 3) (fun k => (3 * i + D3 N (pn (V3 907 (V 301 0 0)) N) k) % 3) N = cw Z i N (V3 907 (V 301 0 0)) :=
        z_tcG_congr (fun k hk => ⟨(gd k).1, by rw [(gd k).2]; exact dg k hk⟩)
      -- the slot that is kept
      have f6 : ∀ f, f ≠ 900 → f ≠ 1003 → f ≠ 3003 → f ≠ 5003 → f ≠ 301 → V5 f (V 301 0 0) = V3 f (V 301 0 0) := fun f a1 a2 a3 a4 a5 => by
        rw [k1 f (by simp only [List.mem_cons, List.not_mem_nil, or_false]; omega), u3_f a5, b4 f _ sT]
      have f600 : V5 600 = V3 600 := by
        rw [k1 600 (by decide), u3_f (by decide), b1 600 (by decide)]
      have fs : ∀ f a, f ≠ 600 → f ≠ 1003 → f ≠ 3003 → f ≠ 5003 → f ≠ 301 → a ≠ V 301 0 0 → a ≠ Z 10 0 + 2 → V5 f a = V f a := fun f a q1 q2 q3 q4 q5 ha haT => by
        rw [← lb3 f a q1 ha, ← b4 f a haT]
        by_cases e : f = 900
        · rw [e, k5 a ha, u3_f (by decide)]
        · rw [k1 f (by simp only [List.mem_cons, List.not_mem_nil, or_false]; omega), u3_f q5]
      have p0 : ∀ f, f ∉ [600, 900, 901, 902, 903, 904, 905, 906, 907, 908, 2906, 4906, 4907, 4908, 1003, 3003, 5003, 301] → V5 f = V f := fun f hf => by
        have m1 : f ∉ [900, 1003, 3003, 5003] ∧ f ≠ 301 ∧ f ∉ [900, 901, 902, 903, 904, 905, 906, 907, 908, 4906, 4907, 4908] ∧ f ∉ [600, 901, 902, 903, 904, 905, 906, 907, 908, 2906, 4906] := by
          simp only [List.mem_cons, List.not_mem_nil, or_false] at hf ⊢
          omega
        rw [k1 f m1.1, u3_f m1.2.1, b1 f m1.2.2.1]
        exact la3 f m1.2.2.2
      have r := RV.kp (V' := V5) (s := V 301 0 0) (fr := 301) (ofs := ofs) hV hI ta lt ⟨n1, by omega⟩ (fun k hk => by
        show (3 * i + D3 N (pn (V3 907 (V 301 0 0)) N) k) / 3 < Z 3 0 ∧ Z 4 ((3 * i + D3 N (pn (V3 907 (V 301 0 0)) N) k) / 3) = Z 4 ((3 * i + D3 N (pn (V3 907 (V 301 0 0)) N) 0) / 3)
        rw [(gd k).1, (gd 0).1]
        exact ⟨hi, rfl⟩) (Or.inr ⟨rfl, rfl⟩) p0 (fun f hf a ha haT => ?_) k4 ?_ (fun j => ?_) ?_ ?_ ?_ ?_ ?_
      · exact fin0 g6 z00 rfl (RR.mk3 g6 g5 rfl r.1 r.2 (by rw [ta.1 3 (by decide)]) (by rw [ta.2.1]) (by rw [ta.1 27 (by decide)]))
      · have m6 : f ≠ 600 ∧ f ≠ 1003 ∧ f ≠ 3003 ∧ f ≠ 5003 ∧ f ≠ 301 := by
          simp only [List.mem_cons, List.not_mem_nil, or_false] at hf
          omega
        exact fs f a m6.1 m6.2.1 m6.2.2.1 m6.2.2.2.1 m6.2.2.2.2 ha haT
      · rw [k2]
      · rw [k3, u3_f (by decide), b1 3003 (by decide), la3 3003 (by decide)]
      · rw [k1 301 (by decide), u3_s]
      · unfold v_LD
        rw [f6 901 (by decide) (by decide) (by decide) (by decide) (by decide), f6 906 (by decide) (by decide) (by decide) (by decide) (by decide), f6 2906 (by decide) (by decide) (by decide) (by decide) (by decide), f6 907 (by decide) (by decide) (by decide) (by decide) (by decide), a3 901 (by decide), a3 906 (by decide), a3 2906 (by decide)]
        refine ⟨by rw [f2 (by omega), (gd 0).1], c2, fun k hk => ?_⟩
        show _ = (3 * i + D3 N (pn (V3 907 (V 301 0 0)) N) k) / 3 ∧ _ = (3 * i + D3 N (pn (V3 907 (V 301 0 0)) N) k) % 3
        rw [(gd k).1, (gd k).2, dg k hk]
        exact ⟨(d2 k hk).1, rfl⟩
      · rw [tcg]
        show v_W (Z 4 ((3 * i + D3 N (pn (V3 907 (V 301 0 0)) N) 0) / 3)) V5 _ _ _
        rw [(gd 0).1]
        exact vW_cg w3 (f6 902 (by decide) (by decide) (by decide) (by decide) (by decide)) (f6 903 (by decide) (by decide) (by decide) (by decide) (by decide)) (f6 904 (by decide) (by decide) (by decide) (by decide) (by decide)) (f6 908 (by decide) (by decide) (by decide) (by decide) (by decide)) f600
      · rw [tcg]
        show V5 905 _ 0 = if ro_la (Z 4 ((3 * i + D3 N (pn (V3 907 (V 301 0 0)) N) 0) / 3)) (ro_rnd (Z 4 ((3 * i + D3 N (pn (V3 907 (V 301 0 0)) N) 0) / 3))) _ = ro_rnd (Z 4 ((3 * i + D3 N (pn (V3 907 (V 301 0 0)) N) 0) / 3)) then 1 else 0
        rw [(gd 0).1, f6 905 (by decide) (by decide) (by decide) (by decide) (by decide)]
        exact e5
      · have dn : V 1006 0 0 ≠ V 301 0 0 := vJ.2.2.1
        have dT : V 1006 0 0 ≠ Z 10 0 + 2 := by have := vJ.2.2.2.1; omega
        refine hV.L.cg (p0 1006 (by decide)) (fun f hf => ?_) (fun f hf => ?_)
        · have m6 : f ≠ 600 ∧ f ≠ 1003 ∧ f ≠ 3003 ∧ f ≠ 5003 ∧ f ≠ 301 := by
            simp only [List.mem_cons, List.not_mem_nil, or_false] at hf
            omega
          exact fs f _ m6.1 m6.2.1 m6.2.2.1 m6.2.2.2.1 m6.2.2.2.2 dn dT
        · by_cases e : f = 8
          · rw [e]
            exact z8
          · exact ta.1 f (by
              simp only [List.mem_cons, List.not_mem_nil, or_false] at hf ⊢
              omega)
    · -- none
      refine m_compose hM hMz hi ⟨n1, n6⟩ lt (fun w hw sw1 _ _ _ _ _ _ _ => absurd sw1 (by rw [U w hw]; decide)) (fun _ Z6 S6 g6 t6 z00 => ?_)
      have hV6 : RV V3 Z6 := hV.t0 hI t6 (l34 V3 a3) (fun f a hf ha => (b3 f a hf ha).trans (vb2 f a ha)) p3
      exact fin0 g6 z00 rfl (RR.mk3 g6 g3 rfl hV6 (hI.t0 t6) (by rw [t6.1 3 (by decide)]) (by rw [t6.1 10 (by decide)]) (by rw [t6.1 27 (by decide)]))
  · subst e
    subst e2
    rw [e3] at nl
    have z12 : Z 10 0 = 12 := by omega
    refine ⟨hM.1, m_isM1 hM hi hMz ⟨fun _ => w1_inR1 (lo := 1) (hi := 6) n1 n6 (by decide) ⟨fun _ => ⟨hM.1, ?_⟩, fun x => absurd x (by decide)⟩, fun x => absurd x (by decide)⟩⟩
    rw [e10, z12]
    exact ⟨fun x => absurd rfl x, fun _ => m_composeX (j := 3) hM (by omega) (fun S1 g1 => finK g1 3 rfl rfl (by omega) (RR.mk hC rfl hV hI g1 s0))⟩
  · subst e
    exact ⟨hM.1, m_isM1 hM hi hMz ⟨fun _ => w1_inR0 (lo := 1) (hi := 6) (by decide) (by decide) hn ⟨fun x => absurd rfl x, fun _ => m_composeX (j := 2) hM (by omega) (fun S1 g1 => finK g1 2 rfl rfl (by omega) (RR.mk hC rfl hV hI g1 s0))⟩, fun x => absurd x (by decide)⟩⟩
  · exact ⟨hM.1, m_isM0 hM hn hMz ⟨fun x => absurd rfl x, fun _ => m_composeX (j := 1) hM (by omega) (fun S1 g1 => finK g1 1 rfl rfl (by omega) (RR.mk hC rfl hV hI g1 s0))⟩⟩
end OPW
