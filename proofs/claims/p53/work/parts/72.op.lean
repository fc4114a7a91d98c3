/-! calls that ask for bells, for the day and for the ringing -/
theorem RV.B {V : vV} {Z : zZ} (h : RV V Z) : V_B V Z := h.2.2.2.2.2.2.1
theorem RV.Y {V : vV} {Z : zZ} (h : RV V Z) : V_Y V Z := h.2.2.2.2.2.2.2.1
theorem RV.R {V : vV} {Z : zZ} (h : RV V Z) : V_R V Z := h.2.2.2.2.2.2.2.2.1
theorem RV.G {V : vV} {Z : zZ} (h : RV V Z) : V_G V Z := h.2.2.2.2.2.2.2.2.2.1
theorem RV.S {V : vV} {Z : zZ} (h : RV V Z) : V_S V Z := h.2.2.2.2.2.2.2.2.2.2
theorem RV.M {V : vV} {Z : zZ} (h : RV V Z) : V_M V Z := h.1
theorem RV.T {V : vV} {Z : zZ} (h : RV V Z) : V_T V Z := h.2.2.1
theorem RV.J {V : vV} {Z : zZ} (h : RV V Z) : V_J V Z := h.2.2.2.1
theorem RV.L {V : vV} {Z : zZ} (h : RV V Z) : V_L V Z := h.2.2.2.2.1
theorem IZ.M {Z : zZ} (h : IZ Z) : z_M Z := h.1.1
theorem IZ.T {Z : zZ} (h : IZ Z) : z_TT Z := h.1.2.1
theorem IZ.B {Z : zZ} (h : IZ Z) : z_B Z := h.1.2.2.1
theorem IZ.P {Z : zZ} (h : IZ Z) : z_P Z := h.1.2.2.2.1
theorem IZ.R4 {Z : zZ} (h : IZ Z) : z_R4 Z := h.1.2.2.2.2.1
theorem IZ.d {Z : zZ} (h : IZ Z) : Z 20 0 ≤ 60 := h.1.2.2.2.2.2
theorem IZ.fit {Z : zZ} (h : IZ Z) : I_fit Z := h.2.1
theorem IZ.nd {Z : zZ} (h : IZ Z) : I_nd Z := h.2.2.1
theorem IZ.w {Z : zZ} (h : IZ Z) : I_w Z := h.2.2.2.1
theorem IZ.g {Z : zZ} (h : IZ Z) : I_g Z := h.2.2.2.2.1
theorem IZ.n {Z : zZ} (h : IZ Z) : I_n Z := h.2.2.2.2.2
theorem IZ.ch2 {lz : List Nat} {Z Z' : zZ} (hI : IZ Z) (z : agZ lz Z Z')
    (kM : dj lz [3, 4, 5, 6, 7, 10, 11, 12] = true ∨ (z_M Z' ∧ z_TT Z') := by exact Or.inl rfl)
    (kB : dj lz [18, 19] = true ∨ z_B Z' := by exact Or.inl rfl)
    (kP : dj lz [10, 21, 22] = true ∨ z_P Z' := by exact Or.inl rfl)
    (kR : dj lz [24, 25, 26] = true ∨ z_R4 Z' := by exact Or.inl rfl)
    (kd : dj lz [20] = true ∨ Z' 20 0 ≤ 60 := by exact Or.inl rfl)
    (kf : dj lz [3, 4, 5, 6, 7, 10, 11, 12, 18, 19, 20, 21, 22] = true ∨ I_fit Z' := by exact Or.inl rfl)
    (kn : dj lz [21, 22] = true ∨ I_nd Z' := by exact Or.inl rfl)
    (kw : dj lz [17, 18, 27] = true ∨ I_w Z' := by exact Or.inl rfl)
    (kg : dj lz [3, 4, 5, 6, 7, 10, 11, 12, 17, 18, 20, 21, 22, 27, 28, 29, 30, 31, 32] = true ∨ I_g Z' := by exact Or.inl rfl)
    (kN : dj lz [33, 34, 35] = true ∨ I_n Z' := by exact Or.inl rfl) : IZ Z' := by
  obtain ⟨⟨h1, h2, h3, h4, h5, h6⟩, f1, f2, f3, f4, f5⟩ := hI
  refine ⟨⟨kM.elim (fun h => z_C_M (z.m h) h1) And.left, kM.elim (fun h => z_C_TT (z.m h) h2) And.right, kB.elim (fun h => z_B_congr (z.m h 18 (by decide)) (z.m h 19 (by decide)) h3) id, kP.elim (fun h => z_P_congr (z.m h 21 (by decide)) (z.m h 22 (by decide)) (z.m h 10 (by decide)) h4) id, kR.elim (fun h => ?_) id, kd.elim (fun h => by rw [z.m h 20 (by decide)]; exact h6) id⟩, kf.elim (fun h => ?_) id, kn.elim (fun h => ?_) id, kw.elim (fun h => ?_) id, kg.elim (fun h => ?_) id, kN.elim (fun h => ?_) id⟩
  · unfold z_R4
    rw [z.m h 24 (by decide), z.m h 25 (by decide), z.m h 26 (by decide)]
    exact h5
  · have a := z.m h
    have c : z_C Z Z' := fun f hf => a f (by
      have : ∀ f, f ∈ [3, 4, 5, 6, 7, 10, 11, 12] → f ∈ [3, 4, 5, 6, 7, 10, 11, 12, 18, 19, 20, 21, 22] := by decide
      exact this f hf)
    unfold I_fit
    rw [a 20 (by decide), z_fit_congr c (a 18 (by decide)) (a 19 (by decide))]
    intro d h1 h2 t ht
    rw [z_day_congr (a 21 (by decide)) (a 22 (by decide))] at ht
    exact f1 d h1 h2 t ht
  · intro d hd
    rw [z_day_congr (z.m h 21 (by decide)) (z.m h 22 (by decide))]
    exact f2 d hd
  · unfold I_w
    rw [z.m h 27 (by decide), z_nw_congr (z.m h 17 (by decide)) (z.m h 18 (by decide))]
    exact f3
  · have e := z.m h
    have c : z_C Z Z' := fun f hf => e f (by
      have : ∀ f, f ∈ [3, 4, 5, 6, 7, 10, 11, 12] → f ∈ [3, 4, 5, 6, 7, 10, 11, 12, 17, 18, 20, 21, 22, 27, 28, 29, 30, 31, 32] := by decide
      exact this f hf)
    unfold I_g
    rw [e 27 (by decide), e 28 (by decide), e 10 (by decide), e 20 (by decide), z_day_congr (e 21 (by decide)) (e 22 (by decide)), e 29 (by decide), z_C_st c, e 30 (by decide), e 31 (by decide), z_C_L c, e 32 (by decide), z_nw_congr (e 17 (by decide)) (e 18 (by decide))]
    exact f4
  · unfold I_n
    rw [z.m h 33 (by decide), z.m h 34 (by decide), z.m h 35 (by decide)]
    exact f5
section OPD
variable {E : zE} {ma : Nat → Nat} {Z : zZ} {m : Nat} {S : zS} {X : String → zS → Prop}
theorem m_asB1 {Q : Int32 → zS → Prop} {b : Nat} (h : RM ma Z m S) (hb : b < 6) (k : ∀ S', RM ma (up Z 0 0 0) m S' → Q 1 S') : p_X11_asksBell E m (nI b) S Q X := by
  refine w1_isBell1 hb ⟨fun x => absurd x (by decide), fun _ => ⟨h.1, h.wI 0 0 rfl (fun S1 g => ?_)⟩⟩
  have e : gI S1 1100 m = nI 0 := by
    have := g.i 0
    rw [up_s] at this
    exact this
  rw [e]
  exact ⟨fun x => absurd rfl x, fun _ => ⟨Or.inr rfl, k S1 g⟩⟩
theorem m_asB0 {Q : Int32 → zS → Prop} {l : Int32} (h : RM ma Z m S) (hl : ∀ b, b < 6 → l ≠ nI b) (k : ∀ S', RM ma (up Z 0 0 1) m S' → Q 0 S') : p_X11_asksBell E m l S Q X := by
  refine w1_isBell0 hl ⟨fun _ => ⟨h.1, h.wI 0 1 rfl (fun S1 g => ?_)⟩, fun x => absurd rfl x⟩
  have e : gI S1 1100 m = nI 1 := by
    have := g.i 0
    rw [up_s] at this
    exact this
  rw [e]
  exact ⟨fun _ => ⟨Or.inl rfl, k S1 g⟩, fun x => absurd x (by decide)⟩
/-- as `m_t0`, where the status is asked to be zero -/
theorem m_e0 {A B : zS → Prop} (h : RM ma Z m S) (k : ∀ S', RM ma (up Z 0 0 0) m S' → B S') : (m ∈ gL S ∧ gK S m = 11) ∧ ∀ S', S' = sI S 1100 m 0 → ((¬ gI S' 1100 m = 0) → A S') ∧ ((gI S' 1100 m = 0) → B S') := by
  refine ⟨h.1, h.wI 0 0 rfl (fun S1 g => ⟨fun x => absurd ?_ x, fun _ => k S1 g⟩)⟩
  have := g.i 0
  rw [up_s] at this
  exact this
theorem m_e1 {A B : zS → Prop} (h : RM ma Z m S) (k : ∀ S', RM ma (up Z 0 0 1) m S' → A S') : (m ∈ gL S ∧ gK S m = 11) ∧ ∀ S', S' = sI S 1100 m 1 → ((¬ gI S' 1100 m = 0) → A S') ∧ ((gI S' 1100 m = 0) → B S') := by
  refine ⟨h.1, h.wI 0 1 rfl (fun S1 g => ⟨fun _ => k S1 g, fun x => absurd (show nI 1 = 0 from ?_) (by decide)⟩)⟩
  have := g.i 0
  rw [up_s] at this
  exact this.symm.trans x
/-- as `m_t0`, where the thing itself is known -/
theorem m_u0 {A B : zS → Prop} (h : RM ma Z m S) (k : ∀ S', RM ma (up Z 0 0 0) m S' → A S') : (m ∈ gL S ∧ gK S m = 11) ∧ ∀ S', S' = sI S 1100 m 0 → ((gI S' 1100 m ≤ 0) → A S') ∧ ((¬ gI S' 1100 m ≤ 0) → B S') := by
  have := m_t0 (B := B) h k
  exact ⟨this.1, fun S' e => (this.2 S' e).2⟩
theorem m_uk {A B : zS → Prop} {l : Int32} (h : RM ma Z m S) (j : Nat) (hj : 1 ≤ j ∧ j ≤ 3) (e : l = nI j) (k : ∀ S', RM ma (up Z 0 0 j) m S' → B S') : (m ∈ gL S ∧ gK S m = 11) ∧ ∀ S', S' = sI S 1100 m l → ((gI S' 1100 m ≤ 0) → A S') ∧ ((¬ gI S' 1100 m ≤ 0) → B S') := by
  have := m_tk (A := A) h j hj e k
  exact ⟨this.1, fun S' e => (this.2 S' e).2⟩
end OPD
section OPE
variable {E : zE} {x m : Nat}
theorem z_27 {Z : zZ} (h : Z 27 0 < 2) : (Z 27 0 = 0 ∨ Z 27 0 = 1) := by omega
theorem RC.r9s {ad la : Nat → Nat → Nat} {M T R : Nat} {V : vV} {S : zS} (h : RC E ad la (sd M T R) V S) (e : V 1009 0 0 = 1) : 0 < R ∧ gR S 1009 (ad 10 0) = some (ad 7 0) := by
  have g := h.1.2.2.2.2.2.1 z1
  rcases g.2 with y | y
  · rw [e] at y
    exact absurd y.1 (by decide)
  · exact y.2
/-- a ringing is there -/
theorem c_r9 {ad la : Nat → Nat → Nat} {M T R : Nat} {V : vV} {S : zS} (h : RC E ad la (sd M T R) V S) {A : Prop} {B : Nat → Prop} (k0 : V 1009 0 0 = 0 → A) (k1 : V 1009 0 0 = 1 → 0 < R → gR S 1009 (ad 10 0) = some (ad 7 0) → B (ad 7 0)) : (gR S 1009 (ad 10 0) = none → A) ∧ (∀ b, gR S 1009 (ad 10 0) = some b → B b) :=
  h.r9 z1 k0 (fun e _ => k1 e (h.r9s e).1 (h.r9s e).2)
end OPE
