/-! stand, due, pass -/
theorem I_fit.cg {Z Z' : zZ} (h : I_fit Z) (c : z_C Z Z') (h18 : Z' 18 = Z 18) (h19 : Z' 19 = Z 19) (h20 : Z' 20 = Z 20) (h21 : Z' 21 = Z 21) (h22 : Z' 22 = Z 22) : I_fit Z' := by
  unfold I_fit
  rw [h20, z_fit_congr c h18 h19]
  intro d h1 h2 t ht
  rw [z_day_congr h21 h22] at ht
  exact h d h1 h2 t ht
theorem I_fit.u27 {Z : zZ} (h : I_fit Z) : I_fit (up Z 27 0 0) := h.cg (fun f hf => up_f (fun e => by subst e; exact absurd hf (by decide))) (up_f (by decide)) (up_f (by decide)) (up_f (by decide)) (up_f (by decide)) (up_f (by decide))
theorem z_endR_lo {Z Z3 : zZ} (hM : z_M Z) (hT : z_TT Z) (hP : z_P Z) (hB : z_B Z) (h20 : Z 20 0 ≤ 60) (f1 : I_fit Z) (f2 : I_nd Z) (h : z_lo (up Z 27 0 0) Z3) : z_endR Z Z3 := by
  have lk : ∀ W, z_lk (up Z 27 0 0) W → z_lk Z (fun f i => if f = 27 then Z 27 i else W f i) := by
    intro W l
    refine ⟨fun f hf => funext fun i => ?_, fun i hi => ?_⟩
    · show (if f = 27 then Z 27 i else W f i) = Z f i
      by_cases e : f = 27
      · rw [if_pos e, e]
      · rw [if_neg e, l.1 f hf, up_f e]
    · show (if 18 = 27 then Z 27 i else W 18 i) = _
      rw [if_neg (by decide), l.2 i hi]
      rfl
  have ne : ∀ (W : zZ) (f : Nat), f ≠ 27 → (fun f i => if f = 27 then Z 27 i else W f i) f = W f := fun W f hf => funext fun i => if_neg hf
  have dy : ∀ (W : zZ) (d : Nat), z_day (fun f i => if f = 27 then Z 27 i else W f i) d = z_day W d := fun W d => z_day_congr (ne W 21 (by decide)) (ne W 22 (by decide)) d
  have ft : ∀ W : zZ, z_fit (fun f i => if f = 27 then Z 27 i else W f i) = z_fit W := fun W => z_fit_congr (fun f hf => ne W f (fun e => by subst e; exact absurd hf (by decide))) (ne W 18 (by decide)) (ne W 19 (by decide))
  have li := z_lo_I (Z := up Z 27 0 0) hM hT hP hB h20 f1.u27 f2 h
  have z0 : Z3 27 0 = 0 := by
    rw [z_lo_f h 27 (by decide), up_s]
  rcases h with ⟨e, l⟩ | ⟨e, W, l, dr⟩
  · refine ⟨_, fun f i => if f = 27 then Z 27 i else Z3 f i, lk Z3 l, z_dr_id ?_ ?_, fun f hf _ => (ne Z3 f hf).symm, z0⟩
    · intro d h1 h2 t ht
      rw [ft]
      rw [dy] at ht
      refine li.1 d ?_ h2 t ht
      rw [ne Z3 20 (by decide)] at h1
      exact h1
    · have e20 : Z3 20 0 = Z 20 0 := by rw [l.1 20 (by decide)]; rfl
      show (if 20 = 27 then Z 27 0 else Z3 20 0) ≤ 60
      rw [if_neg (by decide), e20]
      exact h20
  · refine ⟨_, fun f i => if f = 27 then Z 27 i else Z3 f i, lk W l, ⟨fun f hf => funext fun i => ?_, ?_, fun d hd => ?_, fun d h1 h2 => ?_⟩, fun f hf _ => (ne Z3 f hf).symm, z0⟩
    · show (if f = 27 then Z 27 i else Z3 f i) = if f = 27 then Z 27 i else W f i
      rw [dr.1 f hf]
    · rw [ne Z3 23 (by decide), ne W 23 (by decide), ne W 20 (by decide), dr.2.1, z_cnt_c (Z := W) (Z' := fun f i => if f = 27 then Z 27 i else W f i) (fun d _ t _ => by rw [ft]) (fun d _ => dy W d) (W 20 0) (61 - W 20 0) (by rw [l.1 20 (by decide)]; have : (up Z 27 0 0) 20 0 = Z 20 0 := rfl; omega)]
    · rw [ne W 20 (by decide)] at hd
      rw [dy, dy]
      exact dr.2.2.1 d hd
    · rw [ne W 20 (by decide)] at h1
      rw [dy, dy, ft]
      exact dr.2.2.2 d h1 h2
/-- every bell has a place in a row -/
def ro_chk5 (n : Nat) (r : Nat) : Bool := (List.range n).all (fun b => (List.range n).any (fun p => ro_bl r p == b))
theorem ro_c5_5 : ro_en 4 (ro_chk5 4) 4 [] 0 = true ∧ ro_en 5 (ro_chk5 5) 5 [] 0 = true ∧ ro_en 6 (ro_chk5 6) 6 [] 0 = true := by decide +kernel
theorem ro_min {P : Nat → Prop} : ∀ (k : Nat), P k → ∃ j, j ≤ k ∧ P j ∧ ∀ q, q < j → ¬ P q := by
  intro k
  induction k using Nat.strongRecOn with
  | ind k ih =>
    intro h
    by_cases e : ∃ q, q < k ∧ P q
    · obtain ⟨q, hq, h2⟩ := e
      obtain ⟨j, a, b, c⟩ := ih q hq h2
      exact ⟨j, by omega, b, c⟩
    · exact ⟨k, Nat.le_refl _, h, fun q hq hp => e ⟨q, hq, hp⟩⟩
theorem ro_place {n r b : Nat} (hN : ro_N n) (hr : ro_V n r) (hb : b < n) : ∃ p, p < n ∧ ro_bl r p = b ∧ ∀ q, q < p → ro_bl r q ≠ b := by
  have c : ro_chk5 n r = true := by
    rcases hN with rfl | rfl | rfl
    · exact ro_all ro_c5_5.1 hr
    · exact ro_all ro_c5_5.2.1 hr
    · exact ro_all ro_c5_5.2.2 hr
  unfold ro_chk5 at c
  rw [List.all_eq_true] at c
  have c := c b (List.mem_range.mpr hb)
  rw [List.any_eq_true] at c
  obtain ⟨p, hp, e⟩ := c
  obtain ⟨j, h1, h2, h3⟩ := ro_min (P := fun p => ro_bl r p = b) p (beq_iff_eq.mp e)
  have := List.mem_range.mp hp
  exact ⟨j, by omega, h2, h3⟩
section OPH
variable {E : zE} {x m : Nat}
theorem IZ.on {Z : zZ} (h : IZ Z) (on : Z 27 0 = 1) {V : vV} (g : V_G V Z) : G_on V Z (Z 28 0) (z_st Z (Z 28 0)) := by
  have := h.g.2 on
  exact ⟨g, on, rfl, this.1, rfl, this.2.2.1⟩
end OPH
