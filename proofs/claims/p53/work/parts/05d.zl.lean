/-! reference arrays copied; class objects -/
def sC (S : zS) (a : Nat) (f : Nat → Option Nat) : zS := (S.1, S.2.1, S.2.2.1, S.2.2.2.1, S.2.2.2.2.1, S.2.2.2.2.2.1, fun b j => if b = a then f j else S.2.2.2.2.2.2 b j)
theorem gL_sC (S : zS) (a : Nat) (f : Nat → Option Nat) : gL (sC S a f) = gL S := rfl
theorem gK_sC (S : zS) (a : Nat) (f : Nat → Option Nat) : gK (sC S a f) = gK S := rfl
theorem gI_sC (S : zS) (a : Nat) (f : Nat → Option Nat) : gI (sC S a f) = gI S := rfl
theorem gR_sC (S : zS) (a : Nat) (f : Nat → Option Nat) : gR (sC S a f) = gR S := rfl
theorem gN_sC (S : zS) (a : Nat) (f : Nat → Option Nat) : gN (sC S a f) = gN S := rfl
theorem gA_sC (S : zS) (a : Nat) (f : Nat → Option Nat) : gA (sC S a f) = gA S := rfl
theorem gQ_sC (S : zS) (a : Nat) (f : Nat → Option Nat) (b j : Nat) : gQ (sC S a f) b j = if b = a then f j else gQ S b j := rfl
theorem zUpC {E : zE} {S : zS} {c a : Nat} {f : Nat → Option Nat} (hK : gK S a = c) (h1 : 14 ≤ c) (h2 : c < 17) (b : Nat) : va_up (zC E S) a (.inl (E.2.1 c, gN S a, .inr (.inr (.inr (.inr f))))) b = zC E (sC S a f) b := by
  by_cases hb : b = a
  · subst hb
    rw [va_up_self, zC_ref (S := sC S b f) hK h1 h2]
    have h9 : f = gQ (sC S b f) b := by
      funext q
      rw [gQ_sC, if_pos rfl]
    rw [← h9]
    rfl
  · rw [va_up_ne _ _ hb]
    exact (zC_same (E := E) (S := S) (S' := sC S a f) (b := b) rfl (fun g => rfl) (fun g => rfl) rfl rfl (funext fun q => by rw [gQ_sC, if_neg hb])).symm
section ZL
variable {E : zE} {I : zI} {R : Room} {Q : Option Value → va_W → zS → Prop} {XC : String → va_W → zS → Prop} {pc : Nat} {lv : List (Nat × Value)} {st : List Value} {X : va_W} {S : zS} {k n : Nat}
theorem z_acopy {idx a b sp dp q ci : Nat} {x1 x2 x3 : Int32} (ha : a ∈ gL S) (hKa : gK S a = 16) (hb : b ∈ gL S) (hKb : gK S b = 16) (h1 : x1 = nI sp) (h2 : x2 = nI dp) (h3 : x3 = nI q) (h4 : sp + q ≤ gN S a) (h5 : dp + q ≤ gN S b) (h6 : gN S a < 2 ^ 31) (h7 : gN S b < 2 ^ 31) (hci : ci = 9 ∨ ci = 5) (hel : ∀ i, i < q → ∀ y, gQ S a (sp + i) = some y → y ∈ gL S ∧ gK S y = ci)
    (hw : Cond.methodLink I.1 idx arraycopyName ∈ zW) (hw2 : Cond.native arraycopyName ∈ zW) (hw3 : Cond.static arraycopyName ∈ zW) (hw4 : Cond.initialized "java/lang/System" ∈ zW) (hf : 1 ≤ R.frames) (hl9 : (st.map fun v => v.category).sum + (nativeFrameWords "java/lang/System" "arraycopy" 5 + 11) ≤ R.locals)
    (hd : decode I.2.1 pc = .ok (.invokestatic idx, 3)) (kk : zJ E I R Q XC (pc + 3) lv st X (sC S b (va_cpy (gQ S a) (gQ S b) sp dp q)) k n) : zJ E I R Q XC pc lv (.int x3 :: .int x2 :: .ref b :: .int x1 :: .ref a :: st) X S k n := by
  intro p e s m args below meth c0 H locs ls A C0 K g1 g2 hS hP hD hl
  have hts := C0.2.2.2.2.2.1
  obtain ⟨p0, e0⟩ := zGot (E := E) (X := X) ha
  obtain ⟨p1, e1⟩ := zGot (E := E) (X := X) hb
  have e1' := e1
  rw [zC_ref hKa (by decide) (by decide)] at e0
  rw [zC_ref hKb (by decide) (by decide)] at e1
  subst h1; subst h2; subst h3
  have c1 := nI_clamp (n := sp) (by omega)
  have c2 := nI_clamp (n := dp) (by omega)
  have c3 := nI_clamp (n := q) (by omega)
  have hcl : ∃ r : vw_C, vwCl[ci]? = some r ∧ va_Nw (.castable r.1 "java/lang/Object") s := by
    rcases hci with h | h <;> subst h
    · exact ⟨_, rfl, K.2.2.1 "GrandsireLoft$Touch" (by simp)⟩
    · exact ⟨_, rfl, K.2.2.1 "GrandsireLoft$Method" (by simp)⟩
  obtain ⟨r, hcl, hca⟩ := hcl
  obtain ⟨k0, t1, f1, f2, f3⟩ := Cond.castable_spec (va_Nw.use (A := args) rfl hca)
  refine va_copyq C0.1 C0.2.1 (C0.2.2.1.trans hl.1.symm) C0.2.2.2.2.1 (hts _ hw) (hts _ hw2) (hts _ hw3) (hts _ hw4) K.1 hP hD hS p0 p1 4 4 (C := r.1) e0 e1 rfl rfl (nI_pos (by omega)) (nI_pos (by omega)) (nI_pos (by omega)) (by rw [c1, c3]; exact h4) (by rw [c2, c3]; exact h5) (fun i hi y hy => ?_) (fun comp c9 z1 z2 => ?_) hf hl9 hd (fun H1 locs1 hP1 hD1 hS1 => ?_)
  · rw [c3] at hi
    rw [c1] at hy
    obtain ⟨y1, y2⟩ := hel i hi y hy
    obtain ⟨p2, e2⟩ := zGot (E := E) (X := X) y1
    rw [zC_obj y2 (by omega)] at e2
    exact va_recv K.1 hP hcl e2
  · cases z1.symm.trans f2
    cases z2.symm.trans f1
    exact f3
  · rw [c1, c2, c3] at hP1 hD1
    rw [zSet (S' := sC S b (va_cpy (gQ S a) (gQ S b) sp dp q)) hD hb e1' rfl (zUpC hKb (by decide) (by decide))] at hP1 hD1
    exact kk p e s m args below meth c0 H1 locs1 ls A C0 K g1 g2 hS1 hP1 hD1 hl
theorem z_ldcM {idx : Nat} (hw : Cond.classLink I.1 idx "[Ljava/lang/Object;" ∈ zW) (hd : decode I.2.1 pc = .ok (.ldc idx, 2)) (kk : zJ E I R Q XC (pc + 2) lv (.ref (E.2.2.2.2.2 0) :: st) X S k n) : zJ E I R Q XC pc lv st X S k n := by
  intro p e s m args below meth c0 H locs ls A C0 K g1 g2 hS hP hD hl
  exact va_ldcM C0.1 C0.2.1 C0.2.2.2.2.1 (C0.2.2.2.2.2.1 _ hw) K.2.1.2.2.2.1 hd (kk p e s m args below meth c0 H locs ls A C0 K g1 g2 hS hP hD hl)
theorem z_getC {idx a : Nat} (ha : a ∈ gL S) (hKa : gK S a = 16) (hw : Cond.methodLink I.1 idx ⟨"java/lang/Object", "getClass", "()Ljava/lang/Class;"⟩ ∈ zW) (hw2 : Cond.selects "[Ljava/lang/Object;" ⟨"java/lang/Object", "getClass", "()Ljava/lang/Class;"⟩ ⟨"java/lang/Object", "getClass", "()Ljava/lang/Class;"⟩ ∈ zW) (hw3 : Cond.instanceMethod ⟨"java/lang/Object", "getClass", "()Ljava/lang/Class;"⟩ ∈ zW) (hw4 : Cond.native ⟨"java/lang/Object", "getClass", "()Ljava/lang/Class;"⟩ ∈ zW) (hf : 1 ≤ R.frames) (hl9 : (st.map fun v => v.category).sum + 14 ≤ R.locals)
    (hd : decode I.2.1 pc = .ok (.invokevirtual idx, 3)) (kk : zJ E I R Q XC (pc + 3) lv (.ref (E.2.2.2.2.2 0) :: st) X S k n) : zJ E I R Q XC pc lv (.ref a :: st) X S k n := by
  intro p e s m args below meth c0 H locs ls A C0 K g1 g2 hS hP hD hl
  have hts := C0.2.2.2.2.2.1
  obtain ⟨p0, e0⟩ := zGot (E := E) (X := X) ha
  rw [zC_ref hKa (by decide) (by decide)] at e0
  exact va_getC C0.1 C0.2.1 (C0.2.2.1.trans hl.1.symm) C0.2.2.2.2.1 (hts _ hw) (va_Dc.use K.2.1.2.2.2.2) (hts _ hw2) (hts _ hw3) (hts _ hw4) K.2.1.2.2.2.1 ⟨_, hP p0 _ e0, rfl, va_nmO (K.1.2 4 _ rfl).2 (by decide +kernel)⟩ hf hl9 hd (kk p e s m args below meth c0 H locs ls A C0 K g1 g2 hS hP hD hl)
theorem z_mmax {idx : Nat} {x y : Int32} (hw : Cond.methodLink I.1 idx Lib.Math.max.name ∈ zW) (hw2 : Cond.static Lib.Math.max.name ∈ zW) (hw3 : Cond.initialized "java/lang/Math" ∈ zW) (hw4 : Cond.code Lib.Math.max.name Lib.Math.max.code 2 (some .int) ∈ zW) (hf : 1 ≤ R.frames) (hl9 : (st.map fun v => v.category).sum + 13 ≤ R.locals) (hk : k ≤ R.cells) (hn : n ≤ R.slots) (hd : decode I.2.1 pc = .ok (.invokestatic idx, 3)) (kk : zJ E I R Q XC (pc + 3) lv (.int (if x < y then y else x) :: st) X S k n) : zJ E I R Q XC pc lv (.int y :: .int x :: st) X S k n := by
  intro p e s m args below meth c0 H locs ls A C0 K g1 g2 hS hP hD hl
  have hts := C0.2.2.2.2.2.1
  exact va_mmax C0.1 C0.2.1 (C0.2.2.1.trans hl.1.symm) C0.2.2.2.2.1 (hts _ hw) (hts _ hw2) (hts _ hw3) (hts _ hw4) hf hl9 hk hn hd (kk p e s m args below meth c0 H locs ls A C0 K g1 g2 hS hP hD hl)
theorem z_mmin {idx : Nat} {x y : Int32} (hw : Cond.methodLink I.1 idx Lib.Math.min.name ∈ zW) (hw2 : Cond.static Lib.Math.min.name ∈ zW) (hw3 : Cond.initialized "java/lang/Math" ∈ zW) (hw4 : Cond.code Lib.Math.min.name Lib.Math.min.code 2 (some .int) ∈ zW) (hf : 1 ≤ R.frames) (hl9 : (st.map fun v => v.category).sum + 13 ≤ R.locals) (hk : k ≤ R.cells) (hn : n ≤ R.slots) (hd : decode I.2.1 pc = .ok (.invokestatic idx, 3)) (kk : zJ E I R Q XC (pc + 3) lv (.int (if y < x then y else x) :: st) X S k n) : zJ E I R Q XC pc lv (.int y :: .int x :: st) X S k n := by
  intro p e s m args below meth c0 H locs ls A C0 K g1 g2 hS hP hD hl
  have hts := C0.2.2.2.2.2.1
  exact va_mmin C0.1 C0.2.1 (C0.2.2.1.trans hl.1.symm) C0.2.2.2.2.1 (hts _ hw) (hts _ hw2) (hts _ hw3) (hts _ hw4) hf hl9 hk hn hd (kk p e s m args below meth c0 H locs ls A C0 K g1 g2 hS hP hD hl)
end ZL
