/-! what a call leaves as it was -/
def dj (a b : List Nat) : Bool := a.all (fun x => !b.contains x)
theorem dj_no {a b : List Nat} (h : dj a b = true) : ∀ f, f ∈ b → f ∉ a := by
  intro f hf ha
  unfold dj at h
  rw [List.all_eq_true] at h
  have := h f ha
  rw [List.contains_iff_mem.mpr hf] at this
  cases this
def agV (l : List Nat) (V V' : vV) : Prop := ∀ f, f ∉ l → V' f = V f
def agZ (l : List Nat) (Z Z' : zZ) : Prop := ∀ f, f ∉ l → Z' f = Z f
theorem agV.refl (l : List Nat) (V : vV) : agV l V V := fun _ _ => rfl
theorem agZ.refl (l : List Nat) (Z : zZ) : agZ l Z Z := fun _ _ => rfl
theorem agV.u {l : List Nat} {V V1 : vV} {f i j v : Nat} (h : agV l V V1) (hf : f ∈ l := by decide) : agV l V (u3 V1 f i j v) := fun g hg => by
  rw [u3_f (show g ≠ f from fun e => hg (by rw [e]; exact hf))]
  exact h g hg
theorem agZ.u {l : List Nat} {Z Z1 : zZ} {f i v : Nat} (h : agZ l Z Z1) (hf : f ∈ l := by decide) : agZ l Z (up Z1 f i v) := fun g hg => by
  rw [up_f (show g ≠ f from fun e => hg (by rw [e]; exact hf))]
  exact h g hg
theorem agV.m {l k : List Nat} {V V' : vV} (h : agV l V V') (d : dj l k = true) : ∀ f, f ∈ k → V' f = V f := fun f hf => h f (dj_no d f hf)
theorem agZ.m {l k : List Nat} {Z Z' : zZ} (h : agZ l Z Z') (d : dj l k = true) : ∀ f, f ∈ k → Z' f = Z f := fun f hf => h f (dj_no d f hf)
theorem RV.ch {lv lz : List Nat} {V V' : vV} {Z Z' : zZ} (hV : RV V Z) (v : agV lv V V') (z : agZ lz Z Z')
    (kM : (dj lv [1000, 3000, 500, 501, 502, 503, 504, 505, 506] = true ∧ dj lz [3, 4, 5, 6, 7] = true) ∨ V_M V' Z' := by exact Or.inl ⟨rfl, rfl⟩)
    (kD : (dj lv [1002, 1001] = true ∧ dj lz [1, 2] = true) ∨ V_D V' Z' := by exact Or.inl ⟨rfl, rfl⟩)
    (kT : (dj lv [1003, 3003, 900, 901, 902, 903, 905, 906, 907, 908, 2906] = true ∧ dj lz [3, 4, 5, 6, 7, 10, 11, 12] = true) ∨ V_T V' Z' := by exact Or.inl ⟨rfl, rfl⟩)
    (kJ : (dj lv [3003, 1006, 301] = true ∧ dj lz [10] = true) ∨ V_J V' Z' := by exact Or.inl ⟨rfl, rfl⟩)
    (kL : (dj lv [1006, 901, 906, 907, 2906] = true ∧ dj lz [3, 4, 8, 9] = true) ∨ V_L V' Z' := by exact Or.inl ⟨rfl, rfl⟩)
    (kP : dj lv [600] = true ∨ V_P V' := by exact Or.inl rfl)
    (kB : (dj lv [200, 201, 202, 203, 204, 205, 206, 207] = true ∧ dj lz [17, 18, 19, 34, 35, 36, 37, 38] = true) ∨ V_B V' Z' := by exact Or.inl ⟨rfl, rfl⟩)
    (kY : (dj lv [400, 2400, 3003] = true ∧ dj lz [21, 22] = true) ∨ V_Y V' Z' := by exact Or.inl ⟨rfl, rfl⟩)
    (kR : (dj lv [800, 802, 803, 804, 805] = true ∧ dj lz [20, 23, 24, 25, 26] = true) ∨ V_R V' Z' := by exact Or.inl ⟨rfl, rfl⟩)
    (kG : (dj lv [1009, 700, 701, 702, 704, 705, 3003] = true ∧ dj lz [27, 28, 29, 30, 31, 32] = true) ∨ V_G V' Z' := by exact Or.inl ⟨rfl, rfl⟩)
    (kS : (dj lv [1010, 1011, 1012, 1013] = true ∧ dj lz [33, 39, 40, 41] = true) ∨ V_S V' Z' := by exact Or.inl ⟨rfl, rfl⟩) : RV V' Z' := by
  obtain ⟨m1, m2, m3, m4, m5, m6, m7, m8, m9, m10, m11⟩ := hV
  refine ⟨kM.elim (fun h => m1.cg (v.m h.1) (z.m h.2)) id, kD.elim (fun h => m2.cg (v.m h.1) (z.m h.2)) id, kT.elim (fun h => ?_) id, kJ.elim (fun h => m4.cg (v.m h.1) (z.m h.2 10 (by decide))) id, kL.elim (fun h => ?_) id, kP.elim (fun h => m6.cg (v.m h 600 (by decide))) id, kB.elim (fun h => m7.cg (v.m h.1) (z.m h.2)) id, kY.elim (fun h => m8.cg (v.m h.1) (z.m h.2)) id, kR.elim (fun h => m9.cg (v.m h.1) (z.m h.2)) id, kG.elim (fun h => m10.cg (v.m h.1) (z.m h.2)) id, kS.elim (fun h => m11.cg (v.m h.1) (z.m h.2)) id⟩
  · have a := v.m h.1
    have sub : ∀ f, f ∈ [900, 901, 902, 903, 905, 906, 907, 908, 2906] → f ∈ [1003, 3003, 900, 901, 902, 903, 905, 906, 907, 908, 2906] := by decide
    have sub2 : ∀ f, f ∈ [1003, 3003] → f ∈ [1003, 3003, 900, 901, 902, 903, 905, 906, 907, 908, 2906] := by decide
    exact m3.cg (fun f hf => a f (sub2 f hf)) (fun t _ f hf => by rw [a f (sub f hf)]) (z.m h.2)
  · have a := v.m h.1
    have sub : ∀ f, f ∈ [901, 906, 907, 2906] → f ∈ [1006, 901, 906, 907, 2906] := by decide
    exact m5.cg (a 1006 (by decide)) (fun f hf => by rw [a f (sub f hf)]) (z.m h.2)
theorem IZ.ch {lz : List Nat} {Z Z' : zZ} (hI : IZ Z) (z : agZ lz Z Z') (d : dj lz [3, 4, 5, 6, 7, 10, 11, 12, 17, 18, 19, 20, 21, 22, 24, 25, 26, 27, 28, 29, 30, 31, 32, 33, 34, 35] = true := by rfl) : IZ Z' := hI.cg (z.m d)
section OPA
variable {E : zE} {x m : Nat}
theorem RR.mk2 {ad la : Nat → Nat → Nat} {V' : vV} {Z Z' : zZ} {Sc Sm : zS} {ma : Nat → Nat} (hM : RM ma Z' m Sm) (hC : RC E ad la (sd (Z 3 0) (Z 10 0 + 2) (Z 27 0)) V' Sc) (hx : ad 10 0 = x) (hV : RV V' Z') (hI : IZ Z') (e3 : Z' 3 0 = Z 3 0 := by rfl) (e10 : Z' 10 0 = Z 10 0 := by rfl) (e27 : Z' 27 0 = Z 27 0 := by rfl) : RR E x m Sc Sm := by
  refine ⟨ad, la, V', ma, Z', ⟨?_, hx⟩, hM, hV, hI⟩
  rw [e3, e10, e27]
  exact hC
end OPA
