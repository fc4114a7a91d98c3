theorem zw_oi1 : Cond.instanceMethod objectInit ∈ zW := zW_in 63 (by decide +kernel) rfl
theorem zw_oi2 : Cond.code objectInit ⟨#[0xb1]⟩ 1 none ∈ zW := zW_in 64 (by decide +kernel) rfl
/-! rules that read and write the world -/
section ZR
variable {E : zE} {I : zI} {R : Room} {Q : Option Value → va_W → zS → Prop} {XC : String → va_W → zS → Prop} {pc : Nat} {lv : List (Nat × Value)} {st : List Value} {X : va_W} {S : zS} {k n : Nat}
/-- what is asked of a field's link -/
def zLk (own : String) (idx : Nat) (T : u_T) (j : Nat) : Prop := ∃ ref : String, Cond.fieldLink own idx ref (T j).2.1 (T j).2.2.1 ∈ zW ∧ (ref = (T j).1 ∨ Cond.sameField ref (T j).1 (T j).2.1 (T j).2.2.1 ∈ zW)
theorem zLk_same {ref C nm d : String} {s : State} {args : Array Value} (hts : ∀ w ∈ zW, w.before args s = true) (h : ref = C ∨ Cond.sameField ref C nm d ∈ zW) : ∀ x, s.fieldFound? C nm d = some x → s.fieldFound? ref nm d = some x := by
  rcases h with h | h
  · subst h
    exact fun _ h => h
  · intro x hx
    have h1 := hts _ h
    exact u_same h1 x hx
theorem z_getQ {c j f idx a N : Nat} {C : String} {T : u_T} (ha : a ∈ gL S) (hK9 : gK S a = c) (hc : c < 12) (hcl : vwCl[c]? = some (C, T, N)) (hin : ∀ w ∈ u_ws C T N, w ∈ zW) (hj : j < N) (hjn : j < zNf c) (hlk : zLk I.1 idx T j) (hf : zRf c j = true) (hfj : 100 * c + j = f) (hd : decode I.2.1 pc = .ok (.getfield idx, 3)) (kk : zJ E I R Q XC (pc + 3) lv (va_rf (gR S f a) :: st) X S k n) : zJ E I R Q XC pc lv (.ref a :: st) X S k n := by
  intro p e s m args below meth c0 H locs ls A C0 K h1 h2 hS hP hD hl
  obtain ⟨q0, hq⟩ := zGot (E := E) (X := X) ha
  rw [zC_obj hK9 hc] at hq
  obtain ⟨ref, hw, hsm⟩ := hlk
  have hv : (zFs S c a)[j]? = some (va_rf (gR S f a)) := by
    rw [zFs_get hjn]
    unfold zFv
    rw [hf, hfj]
    rfl
  exact va_get (Ts := zW) C0.1 C0.2.1 C0.2.2.2.2.2.1 hin C0.2.2.2.2.1 K.1 hP q0 hq hcl j hj (C0.2.2.2.2.2.1 _ hw) (zLk_same C0.2.2.2.2.2.1 hsm) hv hd (kk p e s m args below meth c0 H locs ls A C0 K h1 h2 hS hP hD hl)
theorem z_getI {c j f idx a N : Nat} {C : String} {T : u_T} (ha : a ∈ gL S) (hK9 : gK S a = c) (hc : c < 12) (hcl : vwCl[c]? = some (C, T, N)) (hin : ∀ w ∈ u_ws C T N, w ∈ zW) (hj : j < N) (hjn : j < zNf c) (hlk : zLk I.1 idx T j) (hf : zRf c j = false) (hfj : 100 * c + j = f) (hd : decode I.2.1 pc = .ok (.getfield idx, 3)) (kk : zJ E I R Q XC (pc + 3) lv (.int (gI S f a) :: st) X S k n) : zJ E I R Q XC pc lv (.ref a :: st) X S k n := by
  intro p e s m args below meth c0 H locs ls A C0 K h1 h2 hS hP hD hl
  obtain ⟨q0, hq⟩ := zGot (E := E) (X := X) ha
  rw [zC_obj hK9 hc] at hq
  obtain ⟨ref, hw, hsm⟩ := hlk
  have hv : (zFs S c a)[j]? = some (.int (gI S f a)) := by
    rw [zFs_get hjn]
    unfold zFv
    rw [hf, hfj]
    rfl
  exact va_get (Ts := zW) C0.1 C0.2.1 C0.2.2.2.2.2.1 hin C0.2.2.2.2.1 K.1 hP q0 hq hcl j hj (C0.2.2.2.2.2.1 _ hw) (zLk_same C0.2.2.2.2.2.1 hsm) hv hd (kk p e s m args below meth c0 H locs ls A C0 K h1 h2 hS hP hD hl)
theorem z_putV {c j idx a N : Nat} {C : String} {T : u_T} {ty0 : Nat → FieldType} {v : Value} {S' : zS} (ha : a ∈ gL S) (hK9 : gK S a = c) (hc : c < 12) (hcl : vwCl[c]? = some (C, T, N)) (hin : ∀ w ∈ u_ws C T N, w ∈ zW) (hty : ∀ i, i < N → parseFieldDescriptor (T i).2.2.1 = some (ty0 i)) (hnm : ∀ a, a < N → ∀ b, b < N → a ≠ b → (T a).2.1 ≠ (T b).2.1) (hj : j < N) (hjn : j < zNf c) (hlk : zLk I.1 idx T j) (hfin : (T j).2.2.2 = false ∨ (I.2.2.2.2.1 = true ∧ (T j).1 = I.1)) (hn : narrow (ty0 j) v = v) (hfit : fits (ty0 j) v = true) (hL : gL S' = gL S) (hu : ∀ b, va_up (zC E S) a (.inr (c, (zFs S c a).set j v)) b = zC E S' b) (hd : decode I.2.1 pc = .ok (.putfield idx, 3)) (kk : zJ E I R Q XC (pc + 3) lv st X S' k n) : zJ E I R Q XC pc lv (v :: .ref a :: st) X S k n := by
  intro p e s m args below meth c0 H locs ls A C0 K h1 h2 hS hP hD hl
  obtain ⟨q0, hq⟩ := zGot (E := E) (X := X) ha
  have hq0 := hq
  rw [zC_obj hK9 hc] at hq
  obtain ⟨ref, hw, hsm⟩ := hlk
  have hset := zSet (S' := S') (e := .inr (c, (zFs S c a).set j v)) hD ha hq0 hL hu
  have hgo : ∀ (H1 : Heap) (locs1 : List Loc), va_P E.1 vwCl ((X ++ zPl E S).set q0 (a, .inr (c, (zFs S c a).set j v))) H1 → va_D A ((X ++ zPl E S).set q0 (a, .inr (c, (zFs S c a).set j v))) → va_S A s.heap H1 locs1 → W p E.2.2.1 e R s m args below meth c0 H1 locs1 k n (vx_MQ below (zQr E A Q) (zQx E A XC) args s R.cells R.slots A) (F0 m (pc + 3) ls st) := by
    intro H1 locs1 hP1 hD1 hS1
    rw [hset] at hP1 hD1
    exact kk p e s m args below meth c0 H1 locs1 ls A C0 K h1 h2 hS1 hP1 hD1 hl
  cases hfb : (T j).2.2.2 with
  | false => exact va_put (Ts := zW) C0.1 C0.2.1 C0.2.2.2.2.2.1 hin ty0 hty hnm C0.2.2.2.2.1 K.1 hP hD hS q0 hq hcl j hj (C0.2.2.2.2.2.1 _ hw) (zLk_same C0.2.2.2.2.2.1 hsm) hfb (hty j hj) hn hfit (by rw [zFs_len]; exact hjn) hd hgo
  | true =>
    rcases hfin with h | h
    · rw [h] at hfb; cases hfb
    · exact va_putF (Ts := zW) C0.1 C0.2.1 C0.2.2.2.2.2.1 hin ty0 hty hnm C0.2.2.2.2.1 K.1 hP hD hS q0 hq hcl j hj (C0.2.2.2.2.2.1 _ hw) (zLk_same C0.2.2.2.2.2.1 hsm) hfb (C0.2.2.2.2.2.2.2.1 h.1) h.2 (hty j hj) hn hfit (by rw [zFs_len]; exact hjn) hd hgo
theorem z_alen {a : Nat} {c : Nat} {v : Int32} (ha : a ∈ gL S) (hK9 : gK S a = c) (h12 : 12 ≤ c) (hc : c < 17) (hv : nI (gN S a) = v) (hd : decode I.2.1 pc = .ok (.arraylength, 1)) (kk : zJ E I R Q XC (pc + 1) lv (.int v :: st) X S k n) : zJ E I R Q XC pc lv (.ref a :: st) X S k n := by
  intro p e s m args below meth c0 H locs ls A C0 K h1 h2 hS hP hD hl
  obtain ⟨q0, hq⟩ := zGot (E := E) (X := X) ha
  have hk9 := kk p e s m args below meth c0 H locs ls A C0 K h1 h2 hS hP hD hl
  have ht : ∃ ty, (zT E)[c - 12]? = some (E.2.1 c, ty) := by
    have : c = 12 ∨ c = 13 ∨ c = 14 ∨ c = 15 ∨ c = 16 := by omega
    rcases this with h | h | h | h | h <;> subst h <;> exact ⟨_, rfl⟩
  obtain ⟨ty, ht⟩ := ht
  by_cases h14 : c < 14
  · rw [zC_int hK9 h12 h14] at hq
    exact va_alen C0.1 C0.2.1 K.1 hP q0 (c - 12) hq ht hv hd hk9
  · rw [zC_ref hK9 (by omega) hc] at hq
    exact va_alen C0.1 C0.2.1 K.1 hP q0 (c - 12) hq ht hv hd hk9
theorem z_iald {a j : Nat} {i : Int32} (ha : a ∈ gL S) (hK9 : gK S a = 12) (hi : i = nI j) (hj : j < gN S a) (hN : gN S a < 2 ^ 31) (hd : decode I.2.1 pc = .ok (.iaload, 1)) (kk : zJ E I R Q XC (pc + 1) lv (.int (gA S a j) :: st) X S k n) : zJ E I R Q XC pc lv (.int i :: .ref a :: st) X S k n := by
  intro p e s m args below meth c0 H locs ls A C0 K h1 h2 hS hP hD hl
  obtain ⟨q0, hq⟩ := zGot (E := E) (X := X) ha
  rw [zC_int hK9 (by decide) (by decide)] at hq
  subst hi
  have hk9 := kk p e s m args below meth c0 H locs ls A C0 K h1 h2 hS hP hD hl
  refine va_iald C0.1 C0.2.1 K.1 hP q0 0 hq rfl (vp_in_nI hj hN) hd ?_
  rw [nI_clamp (by omega)]
  exact hk9
theorem z_zald {a j : Nat} {i : Int32} (ha : a ∈ gL S) (hK9 : gK S a = 13) (hi : i = nI j) (hj : j < gN S a) (hN : gN S a < 2 ^ 31) (hd : decode I.2.1 pc = .ok (.baload, 1)) (kk : zJ E I R Q XC (pc + 1) lv (.int (gA S a j) :: st) X S k n) : zJ E I R Q XC pc lv (.int i :: .ref a :: st) X S k n := by
  intro p e s m args below meth c0 H locs ls A C0 K h1 h2 hS hP hD hl
  obtain ⟨q0, hq⟩ := zGot (E := E) (X := X) ha
  rw [zC_int hK9 (by decide) (by decide)] at hq
  subst hi
  have hk9 := kk p e s m args below meth c0 H locs ls A C0 K h1 h2 hS hP hD hl
  refine va_zald C0.1 C0.2.1 K.1 hP q0 1 hq rfl (vp_in_nI hj hN) hd ?_
  rw [nI_clamp (by omega)]
  exact hk9
theorem z_aald {a j c : Nat} {i : Int32} (ha : a ∈ gL S) (hK9 : gK S a = c) (h14 : 14 ≤ c) (hc : c < 17) (hi : i = nI j) (hj : j < gN S a) (hN : gN S a < 2 ^ 31) (hd : decode I.2.1 pc = .ok (.aaload, 1)) (kk : zJ E I R Q XC (pc + 1) lv (va_rf (gQ S a j) :: st) X S k n) : zJ E I R Q XC pc lv (.int i :: .ref a :: st) X S k n := by
  intro p e s m args below meth c0 H locs ls A C0 K h1 h2 hS hP hD hl
  obtain ⟨q0, hq⟩ := zGot (E := E) (X := X) ha
  rw [zC_ref hK9 h14 (by omega)] at hq
  subst hi
  have ht : ∃ C : String, (zT E)[c - 12]? = some (E.2.1 c, .object C) := by
    have : c = 14 ∨ c = 15 ∨ c = 16 := by omega
    rcases this with h | h | h <;> subst h <;> exact ⟨_, rfl⟩
  obtain ⟨C, ht⟩ := ht
  have hk9 := kk p e s m args below meth c0 H locs ls A C0 K h1 h2 hS hP hD hl
  refine va_aldq C0.1 C0.2.1 K.1 hP q0 (c - 12) hq ht (vp_in_nI hj hN) hd ?_
  rw [nI_clamp (by omega)]
  exact hk9
theorem z_iast {a j : Nat} {i v : Int32} (ha : a ∈ gL S) (hK9 : gK S a = 12) (hi : i = nI j) (hj : j < gN S a) (hN : gN S a < 2 ^ 31) (hd : decode I.2.1 pc = .ok (.iastore, 1)) (kk : zJ E I R Q XC (pc + 1) lv st X (sA S a j v) k n) : zJ E I R Q XC pc lv (.int v :: .int i :: .ref a :: st) X S k n := by
  intro p e s m args below meth c0 H locs ls A C0 K h1 h2 hS hP hD hl
  obtain ⟨q0, hq⟩ := zGot (E := E) (X := X) ha
  have hq0 := hq
  rw [zC_int hK9 (by decide) (by decide)] at hq
  subst hi
  refine va_iast C0.1 C0.2.1 K.1 hP hD hS q0 0 hq rfl (vp_in_nI hj hN) hd (fun H1 locs1 hP1 hD1 hS1 => ?_)
  rw [nI_clamp (by omega)] at hP1 hD1
  rw [zSet (S' := sA S a j v) hD ha hq0 rfl (zUpA hK9 (by decide) (by decide))] at hP1 hD1
  exact kk p e s m args below meth c0 H1 locs1 ls A C0 K h1 h2 hS1 hP1 hD1 hl
theorem z_zast {a j : Nat} {i v : Int32} (ha : a ∈ gL S) (hK9 : gK S a = 13) (hi : i = nI j) (hj : j < gN S a) (hN : gN S a < 2 ^ 31) (hv : vp_nar .boolean v = v) (hd : decode I.2.1 pc = .ok (.bastore, 1)) (kk : zJ E I R Q XC (pc + 1) lv st X (sA S a j v) k n) : zJ E I R Q XC pc lv (.int v :: .int i :: .ref a :: st) X S k n := by
  intro p e s m args below meth c0 H locs ls A C0 K h1 h2 hS hP hD hl
  obtain ⟨q0, hq⟩ := zGot (E := E) (X := X) ha
  have hq0 := hq
  rw [zC_int hK9 (by decide) (by decide)] at hq
  subst hi
  refine va_zast C0.1 C0.2.1 K.1 hP hD hS q0 1 hq rfl (vp_in_nI hj hN) hd (fun H1 locs1 hP1 hD1 hS1 => ?_)
  rw [nI_clamp (by omega), hv] at hP1 hD1
  rw [zSet (S' := sA S a j v) hD ha hq0 rfl (zUpA hK9 (by decide) (by decide))] at hP1 hD1
  exact kk p e s m args below meth c0 H1 locs1 ls A C0 K h1 h2 hS1 hP1 hD1 hl
theorem z_lald {a j : Nat} {i : Int32} (ha : a ∈ gL S) (hK9 : gK S a = 17) (hi : i = nI j) (hj : j < gN S a) (hN : gN S a < 2 ^ 31) (hd : decode I.2.1 pc = .ok (.laload, 1)) (kk : zJ E I R Q XC (pc + 1) lv (.long (gJ S a j) :: st) X S k n) : zJ E I R Q XC pc lv (.int i :: .ref a :: st) X S k n := by
  intro p e s m args below meth c0 H locs ls A C0 K h1 h2 hS hP hD hl
  obtain ⟨q0, hq⟩ := zGot (E := E) (X := X) ha
  rw [zC_lng hK9] at hq
  subst hi
  have hk9 := kk p e s m args below meth c0 H locs ls A C0 K h1 h2 hS hP hD hl
  refine va_lald C0.1 C0.2.1 K.1 hP q0 5 hq rfl (vp_in_nI hj hN) hd ?_
  rw [nI_clamp (by omega)]
  exact hk9
theorem z_last {a j : Nat} {i : Int32} {v : Int64} (ha : a ∈ gL S) (hK9 : gK S a = 17) (hi : i = nI j) (hj : j < gN S a) (hN : gN S a < 2 ^ 31) (hd : decode I.2.1 pc = .ok (.lastore, 1)) (kk : zJ E I R Q XC (pc + 1) lv st X (sJ S a j v) k n) : zJ E I R Q XC pc lv (.long v :: .int i :: .ref a :: st) X S k n := by
  intro p e s m args below meth c0 H locs ls A C0 K h1 h2 hS hP hD hl
  obtain ⟨q0, hq⟩ := zGot (E := E) (X := X) ha
  have hq0 := hq
  rw [zC_lng hK9] at hq
  subst hi
  refine va_last C0.1 C0.2.1 K.1 hP hD hS q0 5 hq rfl (vp_in_nI hj hN) hd (fun H1 locs1 hP1 hD1 hS1 => ?_)
  rw [nI_clamp (by omega)] at hP1 hD1
  rw [zSet (S' := sJ S a j v) hD ha hq0 rfl (zUpJ hK9)] at hP1 hD1
  exact kk p e s m args below meth c0 H1 locs1 ls A C0 K h1 h2 hS1 hP1 hD1 hl
theorem z_newl {N : Nat} {i : Int32} (hw : Cond.arrayClass .long ∈ zW) (hi : i = nI N) (hN : N < 65536) (hk : k + 1 ≤ R.cells) (hn : n + N ≤ R.slots) (hd : decode I.2.1 pc = .ok (.newarray .long, 2)) (kk : ∀ q, q ∉ gL S → zJ E I R Q XC (pc + 2) lv (.ref q :: st) X (nA S q 17 N) (k + 1) (n + N)) : zJ E I R Q XC pc lv (.int i :: st) X S k n := by
  intro p e s m args below meth c0 H locs ls A C0 K h1 h2 hS hP hD hl
  have hts := C0.2.2.2.2.2.1
  subst hi
  refine va_newa (atype := .long) (ty := .long) (a0 := (N, .inr (.inl (fun _ => 0)))) C0.1 C0.2.1 (hts _ hw) rfl K.1 hP hD hS h1 (fun _ => rfl) (nI_pos (by omega)) (nI_clamp (by omega)) (by show N * 8 ≤ _; omega) hk hn hd (fun q cA H1 hK1 hP1 hD1 hS1 => ?_)
  have hq := zFresh hD1
  have hcA : cA = E.2.1 17 := zTyp (E := E) (hK1.2 6 _ rfl).2 (K.1.2 5 _ rfl).2
  subst hcA
  rw [zPush (S' := nA S q 17 N) hq rfl zUpL] at hP1 hD1
  exact kk q hq p e s m args below meth c0 H1 locs ls A C0 K h1 h2 hS1 hP1 hD1 hl
/-- a store into Bell[], Day[]: the object's class is the array's -/
theorem z_aast {a j c q ci : Nat} {i : Int32} {r : vw_C} (ha : a ∈ gL S) (hK9 : gK S a = c) (h14 : 14 ≤ c) (hcq : (c = 14 ∧ ci = 2) ∨ (c = 15 ∧ ci = 4)) (hq9 : q ∈ gL S) (hKq : gK S q = ci) (hi : i = nI j) (hj : j < gN S a) (hN : gN S a < 2 ^ 31) (hd : decode I.2.1 pc = .ok (.aastore, 1)) (kk : zJ E I R Q XC (pc + 1) lv st X (sQ S a j (some q)) k n) : zJ E I R Q XC pc lv (.ref q :: .int i :: .ref a :: st) X S k n := by
  intro p e s m args below meth c0 H locs ls A C0 K h1 h2 hS hP hD hl
  obtain ⟨q0, hq⟩ := zGot (E := E) (X := X) ha
  have hq0 := hq
  rw [zC_ref hK9 h14 (by omega)] at hq
  obtain ⟨q1, hq1⟩ := zGot (E := E) (X := X) hq9
  rw [zC_obj hKq (by omega)] at hq1
  subst hi
  have ht : ∃ r : vw_C, (zT E)[c - 12]? = some (E.2.1 c, .object r.1) ∧ vwCl[ci]? = some r := by
    rcases hcq with ⟨h, h'⟩ | ⟨h, h'⟩ <;> subst h <;> subst h' <;> exact ⟨_, rfl, rfl⟩
  obtain ⟨r, ht, hc⟩ := ht
  refine va_astq C0.1 C0.2.1 K.1 hP hD hS q0 (c - 12) q1 ci hq ht hq1 hc (vp_in_nI hj hN) hd (fun H1 locs1 hP1 hD1 hS1 => ?_)
  rw [nI_clamp (by omega)] at hP1 hD1
  rw [zSet (S' := sQ S a j (some q)) hD ha hq0 rfl (zUpQ hK9 h14 (by omega))] at hP1 hD1
  exact kk p e s m args below meth c0 H1 locs1 ls A C0 K h1 h2 hS1 hP1 hD1 hl
/-- a store of a Touch or a Method into Object[] -/
theorem z_aastO {a j q ci : Nat} {i : Int32} (ha : a ∈ gL S) (hK9 : gK S a = 16) (hcq : ci = 9 ∨ ci = 5) (hq9 : q ∈ gL S) (hKq : gK S q = ci) (hi : i = nI j) (hj : j < gN S a) (hN : gN S a < 2 ^ 31) (hd : decode I.2.1 pc = .ok (.aastore, 1)) (kk : zJ E I R Q XC (pc + 1) lv st X (sQ S a j (some q)) k n) : zJ E I R Q XC pc lv (.ref q :: .int i :: .ref a :: st) X S k n := by
  intro p e s m args below meth c0 H locs ls A C0 K h1 h2 hS hP hD hl
  obtain ⟨q0, hq⟩ := zGot (E := E) (X := X) ha
  have hq0 := hq
  rw [zC_ref hK9 (by decide) (by decide)] at hq
  obtain ⟨q1, hq1⟩ := zGot (E := E) (X := X) hq9
  rw [zC_obj hKq (by omega)] at hq1
  subst hi
  have ht : ∃ r : vw_C, vwCl[ci]? = some r ∧ va_Nw (.castable r.1 "java/lang/Object") s := by
    rcases hcq with h | h <;> subst h
    · exact ⟨_, rfl, K.2.2.1 "GrandsireLoft$Touch" (by simp)⟩
    · exact ⟨_, rfl, K.2.2.1 "GrandsireLoft$Method" (by simp)⟩
  obtain ⟨r, hc, hcast⟩ := ht
  refine va_astqO C0.1 C0.2.1 K.1 hP hD hS q0 4 q1 ci hq rfl hcast hq1 hc (vp_in_nI hj hN) hd (fun H1 locs1 hP1 hD1 hS1 => ?_)
  rw [nI_clamp (by omega)] at hP1 hD1
  rw [zSet (S' := sQ S a j (some q)) hD ha hq0 rfl (zUpQ hK9 (by decide) (by decide))] at hP1 hD1
  exact kk p e s m args below meth c0 H1 locs1 ls A C0 K h1 h2 hS1 hP1 hD1 hl
theorem z_aastN {a j : Nat} {i : Int32} (ha : a ∈ gL S) (hK9 : gK S a = 16) (hi : i = nI j) (hj : j < gN S a) (hN : gN S a < 2 ^ 31) (hd : decode I.2.1 pc = .ok (.aastore, 1)) (kk : zJ E I R Q XC (pc + 1) lv st X (sQ S a j none) k n) : zJ E I R Q XC pc lv (.null :: .int i :: .ref a :: st) X S k n := by
  intro p e s m args below meth c0 H locs ls A C0 K h1 h2 hS hP hD hl
  obtain ⟨q0, hq⟩ := zGot (E := E) (X := X) ha
  have hq0 := hq
  rw [zC_ref hK9 (by decide) (by decide)] at hq
  subst hi
  refine va_astqN C0.1 C0.2.1 K.1 hP hD hS q0 4 hq rfl (vp_in_nI hj hN) hd (fun H1 locs1 hP1 hD1 hS1 => ?_)
  rw [nI_clamp (by omega)] at hP1 hD1
  rw [zSet (S' := sQ S a j none) hD ha hq0 rfl (zUpQ hK9 (by decide) (by decide))] at hP1 hD1
  exact kk p e s m args below meth c0 H1 locs1 ls A C0 K h1 h2 hS1 hP1 hD1 hl
/-- new objects and arrays -/
theorem z_new {c idx N : Nat} {C : String} {T : u_T} {ty0 : Nat → FieldType} (hc : c < 12) (hcl : vwCl[c]? = some (C, T, N)) (hin : ∀ w ∈ u_ws C T N, w ∈ zW) (hty : ∀ i, i < N → parseFieldDescriptor (T i).2.2.1 = some (ty0 i)) (h0 : ∀ j, j < N → defaultValue (ty0 j) = vp_V (zF0 c) j) (hw1 : Cond.classLink I.1 idx C ∈ zW) (hw2 : Cond.instantiable C N ∈ zW) (hw3 : Cond.initialized C ∈ zW) (hk : k + 1 ≤ R.cells) (hn : n + N ≤ R.slots) (hd : decode I.2.1 pc = .ok (.new idx, 3)) (kk : ∀ q, q ∉ gL S → zJ E I R Q XC (pc + 3) lv (.ref q :: st) X (nO S q c) (k + 1) (n + N)) : zJ E I R Q XC pc lv st X S k n := by
  intro p e s m args below meth c0 H locs ls A C0 K h1 h2 hS hP hD hl
  have hts := C0.2.2.2.2.2.1
  refine va_new (Ts := zW) (c0 := c0) C0.1 C0.2.1 hts hin ty0 hty C0.2.2.2.2.1 (hts _ hw1) (hts _ hw2) (hts _ hw3) K.1 hP hD hS h1 hcl h0 hk hn hd (fun q H1 hP1 hD1 hS1 => ?_)
  have hq := zFresh hD1
  rw [zPush (S' := nO S q c) hq rfl (zUpO hc)] at hP1 hD1
  exact kk q hq p e s m args below meth c0 H1 locs ls A C0 K h1 h2 hS1 hP1 hD1 hl
theorem z_newa {c N : Nat} {i : Int32} {aty : ArrayType} (hc : (c = 12 ∧ aty = .int) ∨ (c = 13 ∧ aty = .boolean)) (hw : Cond.arrayClass (newarray.typeOf aty) ∈ zW) (hi : i = nI N) (hN : N < 65536) (hk : k + 1 ≤ R.cells) (hn : n + N ≤ R.slots) (hd : decode I.2.1 pc = .ok (.newarray aty, 2)) (kk : ∀ q, q ∉ gL S → zJ E I R Q XC (pc + 2) lv (.ref q :: st) X (nA S q c N) (k + 1) (n + N)) : zJ E I R Q XC pc lv (.int i :: st) X S k n := by
  intro p e s m args below meth c0 H locs ls A C0 K h1 h2 hS hP hD hl
  have hts := C0.2.2.2.2.2.1
  subst hi
  rcases hc with ⟨h, h'⟩ | ⟨h, h'⟩ <;> subst h <;> subst h'
  · refine va_newa (ty := .int) (a0 := (N, .inl (fun _ => 0))) C0.1 C0.2.1 (hts _ hw) rfl K.1 hP hD hS h1 (fun _ => rfl) (nI_pos (by omega)) (nI_clamp (by omega)) (by show N * 4 ≤ _; omega) hk hn hd (fun q cA H1 hK1 hP1 hD1 hS1 => ?_)
    have hq := zFresh hD1
    have hcA : cA = E.2.1 12 := zTyp (E := E) (hK1.2 6 _ rfl).2 (K.1.2 0 _ rfl).2
    subst hcA
    rw [zPush (S' := nA S q 12 N) hq rfl (zUpN (by decide) (by decide))] at hP1 hD1
    exact kk q hq p e s m args below meth c0 H1 locs ls A C0 K h1 h2 hS1 hP1 hD1 hl
  · refine va_newa (ty := .boolean) (a0 := (N, .inl (fun _ => 0))) C0.1 C0.2.1 (hts _ hw) rfl K.1 hP hD hS h1 (fun _ => rfl) (nI_pos (by omega)) (nI_clamp (by omega)) (by show N * 1 ≤ _; omega) hk hn hd (fun q cA H1 hK1 hP1 hD1 hS1 => ?_)
    have hq := zFresh hD1
    have hcA : cA = E.2.1 13 := zTyp (E := E) (hK1.2 6 _ rfl).2 (K.1.2 1 _ rfl).2
    subst hcA
    rw [zPush (S' := nA S q 13 N) hq rfl (zUpN (by decide) (by decide))] at hP1 hD1
    exact kk q hq p e s m args below meth c0 H1 locs ls A C0 K h1 h2 hS1 hP1 hD1 hl
theorem z_newq {c N idx : Nat} {i : Int32} {C : String} (hc : (c = 14 ∧ C = RX1) ∨ (c = 15 ∧ C = RX3) ∨ (c = 16 ∧ C = "java/lang/Object")) (hw : Cond.classLink I.1 idx C ∈ zW) (hi : i = nI N) (hN : N < 65536) (hk : k + 1 ≤ R.cells) (hn : n + N ≤ R.slots) (hd : decode I.2.1 pc = .ok (.anewarray idx, 3)) (kk : ∀ q, q ∉ gL S → zJ E I R Q XC (pc + 3) lv (.ref q :: st) X (nA S q c N) (k + 1) (n + N)) : zJ E I R Q XC pc lv (.int i :: st) X S k n := by
  intro p e s m args below meth c0 H locs ls A C0 K h1 h2 hS hP hD hl
  have hts := C0.2.2.2.2.2.1
  subst hi
  have key : va_AO C s ∧ (zT E)[c - 12]? = some (E.2.1 c, .object C) ∧ 14 ≤ c := by
    rcases hc with ⟨h, h'⟩ | ⟨h, h'⟩ | ⟨h, h'⟩ <;> subst h <;> subst h'
    · exact ⟨K.2.1.1, rfl, by decide⟩
    · exact ⟨K.2.1.2.1, rfl, by decide⟩
    · exact ⟨K.2.1.2.2.1, rfl, by decide⟩
  obtain ⟨hao, htc, h14⟩ := key
  refine va_newq C0.1 C0.2.1 C0.2.2.2.2.1 (hts _ hw) hao K.1 hP hD hS h1 (nI_pos (by omega)) (nI_clamp (by omega)) (by omega) hk hn hd (fun q cA H1 hK1 hP1 hD1 hS1 => ?_)
  have hq := zFresh hD1
  have hcA : cA = E.2.1 c := zTyp (E := E) (hK1.2 6 _ rfl).2 (K.1.2 (c - 12) _ htc).2
  subst hcA
  rw [zPush (S' := nA S q c N) hq rfl (zUpM h14 (by omega))] at hP1 hD1
  exact kk q hq p e s m args below meth c0 H1 locs ls A C0 K h1 h2 hS1 hP1 hD1 hl
theorem z_objInit {idx a : Nat} (hw : Cond.methodLink I.1 idx objectInit ∈ zW) (hf : 1 ≤ R.frames) (hl9 : (st.map fun v => v.category).sum + 12 ≤ R.locals) (hd : decode I.2.1 pc = .ok (.invokespecial idx, 3)) (kk : zJ E I R Q XC (pc + 3) lv st X S k n) : zJ E I R Q XC pc lv (.ref a :: st) X S k n := by
  intro p e s m args below meth c0 H locs ls A C0 K h1 h2 hS hP hD hl
  have hts := C0.2.2.2.2.2.1
  exact W.objInit C0.1 C0.2.1 C0.2.2.2.2.1 (hts _ hw) (hts (.instanceMethod objectInit) zw_oi1) (hts (.code objectInit ⟨#[0xb1]⟩ 1 none) zw_oi2) rfl (by rw [C0.2.2.1]; exact hl.1) rfl hd hf (by show 2 * 0 + _ + 12 ≤ _; omega) (kk p e s m args below meth c0 H locs ls A C0 K h1 h2 hS hP hD hl)
theorem z_gets0 {idx : Nat} (hw : Cond.fieldLink I.1 idx RJx4a65c "DEFAULTCAPACITY_EMPTY_ELEMENTDATA" "[Ljava/lang/Object;" ∈ zW) (hd : decode I.2.1 pc = .ok (.getstatic idx, 3)) (kk : zJ E I R Q XC (pc + 3) lv (.ref E.2.2.2.2.1 :: st) X S k n) : zJ E I R Q XC pc lv st X S k n := by
  intro p e s m args below meth c0 H locs ls A C0 K h1 h2 hS hP hD hl
  have hts := C0.2.2.2.2.2.1
  exact va_gets C0.1 C0.2.1 (va_Z.narrow K.2.2.2.2.2.2.2.2.1 h2) hS C0.2.2.2.2.1 (hts _ hw) (fun _ h => h) hd (kk p e s m args below meth c0 H locs ls A C0 K h1 h2 hS hP hD hl)
theorem z_len0 {v : Int32} (hv : v = 0) (hd : decode I.2.1 pc = .ok (.arraylength, 1)) (kk : zJ E I R Q XC (pc + 1) lv (.int v :: st) X S k n) : zJ E I R Q XC pc lv (.ref E.2.2.2.2.1 :: st) X S k n := by
  intro p e s m args below meth c0 H locs ls A C0 K h1 h2 hS hP hD hl
  exact va_tlen C0.1 C0.2.1 (va_T.narrow K.2.2.2.2.2.2.2.2.2.1 h2) hS (by rw [hv]; rfl) hd (kk p e s m args below meth c0 H locs ls A C0 K h1 h2 hS hP hD hl)
/-- checkcast of an object of the very class -/
theorem z_cast {a c idx N : Nat} {C : String} {T : u_T} (ha : a ∈ gL S) (hK9 : gK S a = c) (hc : c < 12) (hcl : vwCl[c]? = some (C, T, N)) (hw : Cond.classLink I.1 idx C ∈ zW) (hd : decode I.2.1 pc = .ok (.checkcast idx, 3)) (kk : zJ E I R Q XC (pc + 3) lv (.ref a :: st) X S k n) : zJ E I R Q XC pc lv (.ref a :: st) X S k n := by
  intro p e s m args below meth c0 H locs ls A C0 K h1 h2 hS hP hD hl
  obtain ⟨q0, hq⟩ := zGot (E := E) (X := X) ha
  rw [zC_obj hK9 hc] at hq
  exact va_castS C0.1 C0.2.1 C0.2.2.2.2.1 (C0.2.2.2.2.2.1 _ hw) (K.1.1 c _ hcl).2 (va_recv K.1 hP hcl hq) hd (kk p e s m args below meth c0 H locs ls A C0 K h1 h2 hS hP hD hl)
/-- returns -/
theorem z_fin {v : Option Value} {p : Program} {e : Env} {s : State} {m : MethodId} {args : Array Value} {H : Heap} {locs : List Loc} {A : Nat → Prop} (hq : Q v X S) (hS : va_S A s.heap H locs) (hP : va_P E.1 vwCl (X ++ zPl E S) H) (hD : va_D A (X ++ zPl E S)) : ∀ t : State, t.heap = H → s.WarmedH t.vm → zQr E A Q args s (.returned v) t := fun t ht _ => ⟨v, X, S, rfl, hq, by rw [ht]; exact hP, hD, hS.F ht⟩
theorem z_ireturn {v : Int32} (hq : Q (some (.int v)) X S) (hr : I.2.2.2.1 = some .int) (hk : k ≤ R.cells) (hn : n ≤ R.slots) (hd : decode I.2.1 pc = .ok (.ireturn, 1)) : zJ E I R Q XC pc lv [.int v] X S k n := by
  intro p e s m args below meth c0 H locs ls A C0 K h1 h2 hS hP hD hl
  exact W.widen hk hn (vx_ret (W.iret C0.1 C0.2.1 (C0.2.2.2.1.trans hr) (z_fin (p := p) (e := e) (m := m) hq hS hP hD) hS.2.2 hd C0.2.2.2.2.2.2.1))
theorem z_zreturn {v : Int32} {ty : FieldType} (hq : Q (some (.int v)) X S) (hr : I.2.2.2.1 = some ty) (hv : narrow ty (.int v) = .int v) (hk : k ≤ R.cells) (hn : n ≤ R.slots) (hd : decode I.2.1 pc = .ok (.ireturn, 1)) : zJ E I R Q XC pc lv [.int v] X S k n := by
  intro p e s m args below meth c0 H locs ls A C0 K h1 h2 hS hP hD hl
  exact W.widen hk hn (vx_ret (W.zret C0.1 C0.2.1 (C0.2.2.2.1.trans hr) hv (z_fin (p := p) (e := e) (m := m) hq hS hP hD) hS.2.2 hd C0.2.2.2.2.2.2.1))
theorem z_areturn {v : Value} {ty : FieldType} (hq : Q (some v) X S) (hr : I.2.2.2.1 = some ty) (hty : (∃ nm, ty = .object nm) ∨ ∃ t, ty = .array t) (hv : v = .null ∨ ∃ a, v = .ref a) (hk : k ≤ R.cells) (hn : n ≤ R.slots) (hd : decode I.2.1 pc = .ok (.areturn, 1)) : zJ E I R Q XC pc lv [v] X S k n := by
  intro p e s m args below meth c0 H locs ls A C0 K h1 h2 hS hP hD hl
  exact W.widen hk hn (vx_ret (W.aret C0.1 C0.2.1 (C0.2.2.2.1.trans hr) hty hv (z_fin (p := p) (e := e) (m := m) hq hS hP hD) hS.2.2 hd C0.2.2.2.2.2.2.1))
theorem z_return (hq : Q none X S) (hr : I.2.2.2.1 = none) (hk : k ≤ R.cells) (hn : n ≤ R.slots) (hd : decode I.2.1 pc = .ok (.return_, 1)) : zJ E I R Q XC pc lv [] X S k n := by
  intro p e s m args below meth c0 H locs ls A C0 K h1 h2 hS hP hD hl
  exact W.widen hk hn (vx_ret (W.vret C0.1 C0.2.1 (C0.2.2.2.1.trans hr) (z_fin (p := p) (e := e) (m := m) hq hS hP hD) hS.2.2 hd C0.2.2.2.2.2.2.1))
end ZR
