/-! plan -/
theorem v_day_add {V : vV} {d d' c e : Nat} : v_day (vadd V 400 d c e) d' = if d' = d then v_day V d ++ [e] else v_day V d' := by
  unfold v_day vadd
  by_cases h : d' = d
  · rw [if_pos h, h, u3_s, List.range_succ, List.map_append]
    congr 1
    · apply List.map_congr_left
      intro j hj
      have := List.mem_range.mp hj
      rw [u3_f (show 2400 ≠ 400 by decide), u3_j (show j ≠ V 400 d 0 by omega), u3_f (show 2400 ≠ 400 + 4000 by decide)]
    · show [_] = [_]
      rw [u3_f (show 2400 ≠ 400 by decide), u3_s]
  · rw [if_neg h, u3_i (g := 400) h, u3_f (show 400 ≠ 400 + 2000 by decide), u3_f (show 400 ≠ 400 + 4000 by decide)]
    apply List.map_congr_left
    intro j hj
    rw [u3_f (show 2400 ≠ 400 by decide), u3_i h, u3_f (show 2400 ≠ 400 + 4000 by decide)]
theorem z_day_add {Z : zZ} {d t : Nat} (hP : z_P Z) (hd : d ≤ 60) (h4 : Z 21 d < 4) {d' : Nat} (hd' : d' ≤ 60) : z_day (up (up Z 22 (4 * d + Z 21 d) t) 21 d (Z 21 d + 1)) d' = if d' = d then z_day Z d ++ [t] else z_day Z d' := by
  unfold z_day
  have h4' := (hP d' hd').1
  by_cases h : d' = d
  · rw [if_pos h, h, up_s, List.range_succ, List.map_append]
    congr 1
    · apply List.map_congr_left
      intro j hj
      have := List.mem_range.mp hj
      rw [up_f (show 22 ≠ 21 by decide), up_i (show 4 * d + j ≠ 4 * d + Z 21 d by omega)]
    · show [up Z 22 (4 * d + Z 21 d) t 22 (4 * d + Z 21 d)] = [t]
      rw [up_s]
  · rw [if_neg h, up_i h, up_f (show 21 ≠ 22 by decide)]
    apply List.map_congr_left
    intro j hj
    have := List.mem_range.mp hj
    rw [up_f (show 22 ≠ 21 by decide), up_i (show 4 * d' + j ≠ 4 * d + Z 21 d by omega)]
section OPI
variable {E : zE} {ma : Nat → Nat} {Z : zZ} {m : Nat} {S : zS} {X : String → zS → Prop}
theorem m_plan80 {Q : Int32 → zS → Prop} {l1 l2 : Int32} (h : RM ma Z m S) (k3 : ∀ S', RM ma (up Z 0 0 3) m S' → Q 0 S') : p_X11_plan_J80 E Q X m l1 l2 S :=
  ⟨fun _ => m_tk h 3 (by omega) rfl (fun S1 g1 => k3 S1 g1), fun x => absurd rfl x⟩
theorem m_plan {Q : Int32 → zS → Prop} {d t : Nat} (h : RM ma Z m S) (hI : IZ Z) (ht : t < Z 10 0) (h1 : Z 20 0 ≤ d) (h2 : d ≤ 60)
    (k3 : ¬ (Z 21 d < 4 ∧ t ∉ z_day Z d ∧ z_fit Z t = true) → ∀ Z' S', RM ma Z' m S' → z_scr Z Z' → Z' 0 0 = 3 → Q 0 S')
    (k0 : Z 21 d < 4 → t ∉ z_day Z d → z_fit Z t = true → ∀ Z' S', RM ma (up (up Z' 22 (4 * d + Z 21 d) t) 21 d (Z 21 d + 1)) m S' → z_scr Z Z' → Z' 0 0 = 0 → Q (nI (Z 21 d + 1)) S') : p_X11_plan E m (nI d) (nI t) S Q X := by
  have h12 := hI.T.1
  have zt := hI.T.2 t ht
  have hd4 := (hI.P d h2).1
  refine ⟨h.1, m_isT1 h ht hI.T ⟨fun _ => ⟨h.1, m_isDay h hI.d (fun _ _ _ _ => ⟨fun x => absurd x (by decide), fun _ => ⟨h.1, h.wI 0 0 rfl (fun S1 g1 => ⟨g1.1, ?_⟩)⟩⟩) (fun hn => absurd rfl (hn d h1 h2))⟩, fun x => absurd x (by decide)⟩⟩
  have e0 : gI S1 1100 m = nI 0 := by
    have := g1.i 0
    rw [up_s] at this
    exact this
  rw [e0]
  have hI1 : IZ (up Z 0 0 0) := hI.scr s0
  refine ⟨fun x => absurd rfl x, fun _ => g1.ij 21 d rfl (show d < 61 by omega) ?_⟩
  rw [g1.a 21, show (4 : Int32) = nI 4 from rfl]
  refine ⟨fun c => m_plan80 g1 (fun S2 g2 => k3 (fun x => ?_) _ S2 g2 (s0.up (by decide)) (up_s _ _ _ _)), fun c => ?_⟩
  · have : 4 ≤ Z 21 d := (nI_leI (by decide) (by show Z 21 d < 2 ^ 31; omega)).mp c
    omega
  · have c4 : Z 21 d < 4 := Nat.lt_of_not_le (fun y => c ((nI_leI (by decide) (by show Z 21 d < 2 ^ 31; omega)).mpr y))
    refine m_placeOf g1 hI1.P hI1.T h2 (by omega) (fun v hv => ?_)
    rcases hv with ⟨rfl, hn⟩ | ⟨k, hk, rfl, ek⟩
    · have tn : t ∉ z_day Z d := by
        intro y
        obtain ⟨k, hk, e⟩ := List.mem_map.mp y
        exact hn k (List.mem_range.mp hk) e
      refine ⟨fun x => absurd rfl x, fun _ => ⟨g1.1, m_isSound g1 hI1.M (hI1.T.2 t ht) (fun Z2 S2 g2 hE hW => ?_)⟩⟩
      have s2 : z_scr Z Z2 := s0.E hE
      have hI2 := hI.scr s2
      rw [z_C_snd s0.C]
      refine zb_c (fun ns => m_plan80 g2 (fun S3 g3 => k3 (fun x => ?_) _ S3 g3 (s2.up (by decide)) (up_s _ _ _ _))) (fun ys => ⟨g2.1, m_stageOf g2 hI2.M (by omega) (z_T_x (z_C_T s2.C zt)) ⟨g2.1, ?_⟩⟩)
      · have := x.2.2
        unfold z_fit at this
        rw [ns, Bool.and_false] at this
        cases this
      · rw [z_C_st s2.C]
        refine m_areIn g2 hI2.B (ro_N6 (z_T_N hI.M zt)).1 ?_
        rw [z_are_congr (s2 18 (by decide)) (s2 19 (by decide))]
        refine zb_c (fun na => m_plan80 g2 (fun S3 g3 => k3 (fun x => ?_) _ S3 g3 (s2.up (by decide)) (up_s _ _ _ _))) (fun ya => ⟨fun x => absurd x (by decide), fun _ => m_t0 g2 (fun S3 g3 => ?_)⟩)
        · have := x.2.2
          unfold z_fit at this
          rw [na, Bool.false_and] at this
          cases this
        · have fit : z_fit Z t = true := by
            unfold z_fit
            rw [ya, ys]
            rfl
          have s3 : z_scr Z (up Z2 0 0 0) := s2.up (by decide)
          have e21 : up Z2 0 0 0 21 = Z 21 := s3 21 (by decide)
          refine g3.ij 21 d rfl (show d < 61 by omega) ?_
          rw [g3.a 21, e21]
          refine g3.ij 22 (4 * d + Z 21 d) ?_ (show _ < 244 by omega) (g3.wA 22 (4 * d + Z 21 d) t rfl (fun S4 g4 => g4.ij 21 d rfl (show d < 61 by omega) (g4.ix 21 d rfl (show d < 61 by omega) ?_)))
          · rw [show (4 : Int32) * nI d = nI (4 * d) from pk_mul 4 d, nI_add]
          · rw [g4.a 21, up_f (show 21 ≠ 22 by decide), e21]
            refine g4.wA 21 d (Z 21 d + 1) (nI_1 _) (fun S5 g5 => g5.ij 21 d rfl (show d < 61 by omega) ?_)
            rw [g5.a 21, up_s]
            exact k0 c4 tn fit _ S5 g5 s3 (up_s _ _ _ _)
    · refine ⟨fun _ => m_plan80 g1 (fun S2 g2 => k3 (fun x => x.2.1 (List.mem_map.mpr ⟨k, List.mem_range.mpr hk, ek⟩)) _ S2 g2 (s0.up (by decide)) (up_s _ _ _ _)), fun x => absurd x (z_oi_n ?_)⟩
      have : k < Z 21 d := hk
      omega
end OPI
section OPJ
variable {E : zE} {x m : Nat}
theorem s_plan : sim_plan E x m (RR E x m) := by
  intro Sc Sm hRR l1 l2
  obtain ⟨ad, la, V, ma, Z, ⟨hC, rfl⟩, hM, hV, hI⟩ := hRR
  unfold pm_plan
  have vJ := hV.J
  refine ⟨hC.o 10 0 z1, c_touchAt hC hV.T.1 (fun t ht e => ⟨hC.o 10 0 z1, c_day hC hV.R.2.1 hI.d (fun d h1 h2 e2 => ⟨_, rfl, _, rfl, hC.o 4 d (show d < 61 by omega), ?_⟩) (fun hn => Or.inr (Or.inl ⟨rfl, ?_⟩))⟩) (fun hn => Or.inl ⟨rfl, ?_⟩)⟩
  · subst e
    subst e2
    have w := hV.T.2 t ht
    have hsl := w.1
    have d61 : d < 61 := by omega
    have y := hV.Y.get h2
    have mem : V 3003 0 t ∈ v_day V d ↔ t ∈ z_day Z d := by
      rw [hV.Y d h2]
      exact v_mem_sl vJ.1 (hI.P d h2).2 ht
    have bad : ¬ (Z 21 d < 4 ∧ t ∉ z_day Z d ∧ z_fit Z t = true) → p_X11_plan E m (nI d) (nI t) Sm (fun b9 Sm1 => gI Sm1 1100 m = 3 ∧ ((3 : Int32) = 0 → 0 = b9) ∧ RR E (ad 10 0) m Sc Sm1) (fun _ _ => False) := fun no =>
      m_plan hM hI ht h1 h2 (fun _ Z' S' g s z0 => finK g 3 z0 rfl (by omega) (RR.mk hC rfl hV hI g s)) (fun a b c => absurd ⟨a, b, c⟩ no)
    refine c_takesTouch hC d61 hsl (fun a b => ⟨fun x => absurd x (by decide), fun _ => ⟨hC.o 10 0 z1, hC.sg 1007 1 z1 (c_bellsOut hC hV.B hI.B ⟨hC.o 9 _ hsl, c_isFit hC hsl hI.M (hI.T.2 t ht) w.2 (zb_d (fun ft => ⟨hC.o 4 d d61, hC.ex 400 d d61 (c_add hC 400 d _ d61 hsl (by omega) (fun la' c S1 g1 => ⟨g1.o 4 d d61, g1.ex 400 d d61 (c_size g1 400 d d61 ?_)⟩))⟩) (fun nf => Or.inr (Or.inr ⟨rfl, bad (fun x => by rw [x.2.2] at nf; cases nf)⟩)))⟩)⟩⟩) (fun no => ⟨fun _ => Or.inr (Or.inr ⟨rfl, bad (fun x => no ⟨by rw [y.1]; exact x.1, fun q => x.2.1 (mem.mp q)⟩)⟩), fun x => absurd rfl x⟩)
    rw [y.1] at a
    have tn : t ∉ z_day Z d := fun q => b (mem.mpr q)
    have es : vadd V 400 d c (V 3003 0 t) 400 d 0 = Z 21 d + 1 := by
      unfold vadd
      rw [u3_s, y.1]
    rw [es]
    refine m_plan hM hI ht h1 h2 (fun no => absurd ⟨a, tn, ft⟩ no) (fun _ _ _ Z' S' g s z0 => ?_)
    have e21 : Z' 21 = Z 21 := s 21 (by decide)
    have hI' := hI.scr s
    have hV' := hV.scr s
    have va : agV [400, 2400, 4400] V (vadd V 400 d c (V 3003 0 t)) := (((agV.refl _ _).u).u).u
    have za : agZ [21, 22] Z' (up (up Z' 22 (4 * d + Z 21 d) t) 21 d (Z 21 d + 1)) := ((agZ.refl _ _).u).u
    have dz : ∀ d', d' ≤ 60 → z_day (up (up Z' 22 (4 * d + Z 21 d) t) 21 d (Z 21 d + 1)) d' = if d' = d then z_day Z' d ++ [t] else z_day Z' d' := by
      intro d' hd'
      have := z_day_add (t := t) hI'.P h2 (by rw [e21]; exact a) hd'
      rw [e21] at this
      exact this
    have dc : ∀ d', z_day Z' d' = z_day Z d' := z_day_congr e21 (s 22 (by decide))
    have e10 : Z' 10 0 = Z 10 0 := by rw [s 10 (by decide)]
    have ef : z_fit Z' = z_fit Z := z_fit_congr s.C (s 18 (by decide)) (s 19 (by decide))
    have ef2 : z_fit (up (up Z' 22 (4 * d + Z 21 d) t) 21 d (Z 21 d + 1)) = z_fit Z' := z_fit_congr (za.m (k := [3, 4, 5, 6, 7, 10, 11, 12]) rfl) rfl rfl
    have e20 : Z' 20 0 = Z 20 0 := by rw [s 20 (by decide)]
    refine fin0 g z0 rfl (RR.mk3 g g1 rfl (hV'.ch (lv := [400, 2400, 4400]) (lz := [21, 22]) va za (kY := Or.inr (fun d' hd' => ?_))) (hI'.ch2 (lz := [21, 22]) za (kP := Or.inr (fun d' hd' => ⟨?_, fun u hu => ?_⟩)) (kf := Or.inr (fun d' k1 k2 u hu => ?_)) (kn := Or.inr (fun d' hd' => ?_)) (kg := Or.inr ⟨hI'.g.1, fun on => ?_⟩)) (by show Z' 3 0 = Z 3 0; rw [s 3 (by decide)]) (by show Z' 10 0 + 2 = _; rw [e10]) (by show Z' 27 0 = Z 27 0; rw [s 27 (by decide)]))
    · rw [v_day_add, dz d' hd']
      by_cases e : d' = d
      · rw [if_pos e, if_pos e, List.map_append, hV'.Y d h2]
        rfl
      · rw [if_neg e, if_neg e, hV'.Y d' hd']
        rfl
    · by_cases e : d' = d
      · rw [e, up_s]
        omega
      · rw [up_i e]
        exact (hI'.P d' hd').1
    · rw [dz d' hd'] at hu
      show u < Z' 10 0
      rw [e10]
      split at hu
      · rcases List.mem_append.mp hu with q | q
        · rw [dc] at q
          exact (hI.P d h2).2 u q
        · rw [List.mem_singleton.mp q]
          exact ht
      · rw [dc] at hu
        exact (hI.P d' hd').2 u hu
    · rw [dz d' k2] at hu
      rw [ef2]
      split at hu
      · rcases List.mem_append.mp hu with q | q
        · exact hI'.fit d (by rw [e20]; exact h1) h2 u q
        · rw [List.mem_singleton.mp q, ef]
          exact ft
      · exact hI'.fit d' k1 k2 u hu
    · rw [dz d' hd']
      split
      · refine List.nodup_append.mpr ⟨hI'.nd d h2, List.nodup_cons.mpr ⟨List.not_mem_nil, List.nodup_nil⟩, fun p hp q hq e => ?_⟩
        rw [List.mem_singleton.mp hq] at e
        rw [e, dc] at hp
        exact tn hp
      · exact hI'.nd d' hd'
    · have w9 := hI'.g.2 on
      have c := za.m (k := [3, 4, 5, 6, 7, 10, 11, 12]) rfl
      refine ⟨w9.1, ?_, by rw [z_C_st c, z_C_L c]; exact w9.2.2⟩
      have : Z' 20 0 ≤ 60 := hI'.d
      show Z' 28 0 ∈ z_day _ (Z' 20 0)
      rw [dz _ this]
      split
      · rename_i e
        rw [← e]
        exact List.mem_append.mpr (Or.inl w9.2.1)
      · exact w9.2.1
  · subst e
    refine ⟨hM.1, m_isT1 hM ht hI.T ⟨fun _ => ⟨hM.1, m_isDay hM hI.d (fun d' h1' h2' e' => absurd e' (hn d' h1' h2')) (fun _ => ⟨fun _ => ⟨hM.1, hM.wI 0 2 rfl (fun S1 g1 => ⟨g1.1, ?_⟩)⟩, fun x => absurd rfl x⟩)⟩, fun x => absurd x (by decide)⟩⟩
    have e0 : gI S1 1100 m = nI 2 := by
      have := g1.i 0
      rw [up_s] at this
      exact this
    unfold p_X11_plan_J95
    rw [e0]
    exact ⟨fun _ => ⟨g1.1, fun x => absurd x (by decide), fun _ => finK g1 2 rfl rfl (by omega) (RR.mk hC rfl hV hI g1 s0)⟩, fun x => absurd x (by decide)⟩
  · refine ⟨hM.1, m_isT0 hM hn hI.T ⟨fun x => absurd rfl x, fun _ => ⟨hM.1, hM.wI 0 1 rfl (fun S1 g1 => ⟨g1.1, ?_⟩)⟩⟩⟩
    have e0 : gI S1 1100 m = nI 1 := by
      have := g1.i 0
      rw [up_s] at this
      exact this
    unfold p_X11_plan_J95
    rw [e0]
    exact ⟨fun _ => ⟨g1.1, fun x => absurd x (by decide), fun _ => finK g1 1 rfl rfl (by omega) (RR.mk hC rfl hV hI g1 s0)⟩, fun x => absurd x (by decide)⟩
end OPJ
