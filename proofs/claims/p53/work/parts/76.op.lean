/-! plan -/
theorem v_day_add {V : vV} {d d' c e : Nat} : v_day (vadd V 400 d c e) d' = if d' = d then v_day V d ++ [e] else v_day V d' := by
  unfold v_day vadd
  by_cases h : d' = d
  · rw [if_pos h, h, u3_s, List.range_succ, List.map_append]
    congr 1
    · apply List.map_congr_left
      intro j hj
      have := List.mem_range.mp hj
      rw [u3_f (show 2400 ≠ 400 by decide), u3_j (show j ≠ V 400 d 0 by omega), u3_f (show 2400 ≠ 400 + 4000 by decide)]
    · show [_] = [_]
      rw [u3_f (show 2400 ≠ 400 by decide), u3_s]
  · rw [if_neg h, u3_i (g := 400) h, u3_f (show 400 ≠ 400 + 2000 by decide), u3_f (show 400 ≠ 400 + 4000 by decide)]
    apply List.map_congr_left
    intro j hj
    rw [u3_f (show 2400 ≠ 400 by decide), u3_i h, u3_f (show 2400 ≠ 400 + 4000 by decide)]
theorem z_day_add {Z : zZ} {d t : Nat} (hP : z_P Z) (hd : d ≤ 60) (h4 : Z 21 d < 4) {d' : Nat} (hd' : d' ≤ 60) : z_day (up (up Z 22 (4 * d + Z 21 d) t) 21 d (Z 21 d + 1)) d' = if d' = d then z_day Z d ++ [t] else z_day Z d' := by
  unfold z_day
  have h4' := (hP d' hd').1
  by_cases h : d' = d
  · rw [if_pos h, h, up_s, List.range_succ, List.map_append]
    congr 1
    · apply List.map_congr_left
      intro j hj
      have := List.mem_range.mp hj
      rw [up_f (show 22 ≠ 21 by decide), up_i (show 4 * d + j ≠ 4 * d + Z 21 d by omega)]
    · show [up Z 22 (4 * d + Z 21 d) t 22 (4 * d + Z 21 d)] = [t]
      rw [up_s]
  · rw [if_neg h, up_i h, up_f (show 21 ≠ 22 by decide)]
    apply List.map_congr_left
    intro j hj
    have := List.mem_range.mp hj
    rw [up_f (show 22 ≠ 21 by decide), up_i (show 4 * d' + j ≠ 4 * d + Z 21 d by omega)]
section OPI
variable {E : zE} {ma : Nat → Nat} {Z : zZ} {m : Nat} {S : zS} {X : String → zS → Prop}
theorem m_plan80 {Q : Int32 → zS → Prop} {l1 l2 : Int32} (h : RM ma Z m S) (k3 : ∀ S', RM ma (up Z 0 0 3) m S' → Q 0 S') : p_X11_plan_J80 E Q X m l1 l2 S :=
  ⟨fun _ => m_tk h 3 (by omega) rfl (fun S1 g1 => k3 S1 g1), fun x => absurd rfl x⟩
theorem m_plan {Q : Int32 → zS → Prop} {d t : Nat} (h : RM ma Z m S) (hI : IZ Z) (ht : t < Z 10 0) (h1 : Z 20 0 ≤ d) (h2 : d ≤ 60)
    (k3 : ¬ (Z 21 d < 4 ∧ t ∉ z_day Z d ∧ z_fit Z t = true) → ∀ Z' S', RM ma Z' m S' → z_scr Z Z' → Z' 0 0 = 3 → Q 0 S')
    (k0 : Z 21 d < 4 → t ∉ z_day Z d → z_fit Z t = true → ∀ Z' S', RM ma (up (up Z' 22 (4 * d + Z 21 d) t) 21 d (Z 21 d + 1)) m S' → z_scr Z Z' → Z' 0 0 = 0 → Q (nI (Z 21 d + 1)) S') : p_X11_plan E m (nI d) (nI t) S Q X := by
  have h12 := hI.T.1
  have zt := hI.T.2 t ht
  have hd4 := (hI.P d h2).1
  refine ⟨h.1, m_isT1 h ht hI.T ⟨fun _ => ⟨h.1, m_isDay h hI.d (fun _ _ _ _ => ⟨fun x => absurd x (by decide), fun _ => ⟨h.1, h.wI 0 0 rfl (fun S1 g1 => ⟨g1.1, ?_⟩)⟩⟩) (fun hn => absurd rfl (hn d h1 h2))⟩, fun x => absurd x (by decide)⟩⟩
  have e0 : gI S1 1100 m = nI 0 := by
    have := g1.i 0
    rw [up_s] at this
    exact this
  rw [e0]
  have hI1 : IZ (up Z 0 0 0) := hI.scr s0
  refine ⟨fun x => absurd rfl x, fun _ => g1.ij 21 d rfl (show d < 61 by omega) ?_⟩
  rw [g1.a 21, show (4 : Int32) = nI 4 from rfl]
  refine ⟨fun c => m_plan80 g1 (fun S2 g2 => k3 (fun x => ?_) _ S2 g2 (s0.up (by decide)) (up_s _ _ _ _)), fun c => ?_⟩
  · have : 4 ≤ Z 21 d := (nI_leI (by decide) (by show Z 21 d < 2 ^ 31; omega)).mp c
    omega
  · have c4 : Z 21 d < 4 := Nat.lt_of_not_le (fun y => c ((nI_leI (by decide) (by show Z 21 d < 2 ^ 31; omega)).mpr y))
    refine m_placeOf g1 hI1.P hI1.T h2 (by omega) (fun v hv => ?_)
    rcases hv with ⟨rfl, hn⟩ | ⟨k, hk, rfl, ek⟩
    · have tn : t ∉ z_day Z d := by
        intro y
        obtain ⟨k, hk, e⟩ := List.mem_map.mp y
        exact hn k (List.mem_range.mp hk) e
      refine ⟨fun x => absurd rfl x, fun _ => ⟨g1.1, m_isSound g1 hI1.M (hI1.T.2 t ht) (fun Z2 S2 g2 hE hW => ?_)⟩⟩
      have s2 : z_scr Z Z2 := s0.E hE
      have hI2 := hI.scr s2
      rw [z_C_snd s0.C]
      refine zb_c (fun ns => m_plan80 g2 (fun S3 g3 => k3 (fun x => ?_) _ S3 g3 (s2.up (by decide)) (up_s _ _ _ _))) (fun ys => ⟨g2.1, m_stageOf g2 hI2.M (by omega) (z_T_x (z_C_T s2.C zt)) ⟨g2.1, ?_⟩⟩)
      · have := x.2.2
        unfold z_fit at this
        rw [ns, Bool.and_false] at this
        cases this
      · rw [z_C_st s2.C]
        refine m_areIn g2 hI2.B (ro_N6 (z_T_N hI.M zt)).1 ?_
        rw [z_are_congr (s2 18 (by decide)) (s2 19 (by decide))]
        refine zb_c (fun na => m_plan80 g2 (fun S3 g3 => k3 (fun x => ?_) _ S3 g3 (s2.up (by decide)) (up_s _ _ _ _))) (fun ya => ⟨fun x => absurd x (by decide), fun _ => m_t0 g2 (fun S3 g3 => ?_)⟩)
        · have := x.2.2
          unfold z_fit at this
          rw [na, Bool.false_and] at this
          cases this
        · have fit : z_fit Z t = true := by
            unfold z_fit
            rw [ya, ys]
            rfl
          have s3 : z_scr Z (up Z2 0 0 0) := s2.up (by decide)
          have e21 : up Z2 0 0 0 21 = Z 21 := s3 21 (by decide)
          refine g3.ij 21 d rfl (show d < 61 by omega) ?_
          rw [g3.a 21, e21]
          refine g3.ij 22 (4 * d + Z 21 d) ?_ (show _ < 244 by omega) (g3.wA 22 (4 * d + Z 21 d) t rfl (fun S4 g4 => g4.ij 21 d rfl (show d < 61 by omega) (g4.ix 21 d rfl (show d < 61 by omega) ?_)))
          · rw [show (4 : Int32) * nI d = nI (4 * d) from pk_mul 4 d, nI_add]
          · rw [g4.a 21, up_f (show 21 ≠ 22 by decide), e21]
            refine g4.wA 21 d (Z 21 d + 1) (nI_1 _) (fun S5 g5 => g5.ij 21 d rfl (show d < 61 by omega) ?_)
            rw [g5.a 21, up_s]
            exact k0 c4 tn fit _ S5 g5 s3 (up_s _ _ _ _)
    · refine ⟨fun _ => m_plan80 g1 (fun S2 g2 => k3 (fun x => x.2.1 (List.mem_map.mpr ⟨k, List.mem_range.mpr hk, ek⟩)) _ S2 g2 (s0.up (by decide)) (up_s _ _ _ _)), fun x => absurd x (z_oi_n ?_)⟩
      have : k < Z 21 d := hk
      omega
end OPI
section OPJ
variable {E : zE} {x m : Nat}
end OPJ
