/-! small helps of the walks -/
theorem zor (o : Option Nat) : o = none ∨ ∃ b, o = some b := by
  cases o with
  | none => exact Or.inl rfl
  | some b => exact Or.inr ⟨b, rfl⟩
theorem zcat (o : Option Nat) : (va_rf o).category = 1 := by cases o <;> rfl
theorem zbn {v : Int32} (h : v = 0 ∨ v = 1) : narrow .boolean (.int v) = .int v := by
  rcases h with h | h <;> subst h <;> decide
theorem zbf {v : Int32} (h : v = 0 ∨ v = 1) : fits .boolean (.int v) = true := by
  rcases h with h | h <;> subst h <;> decide
theorem zbb {v : Int32} (h : v = 0 ∨ v = 1) : vp_nar .boolean v = v := by
  rcases h with h | h <;> subst h <;> decide
def zisr : FieldType → Bool
  | .object _ => true
  | .array _ => true
  | _ => false
theorem zrefn {ty : FieldType} {o : Option Nat} (h : zisr ty = true) : narrow ty (va_rf o) = va_rf o := by
  cases ty <;> first | (cases h; done) | (cases o <;> rfl)
theorem zreff {ty : FieldType} {o : Option Nat} (h : zisr ty = true) : fits ty (va_rf o) = true := by
  cases ty <;> first | (cases h; done) | (cases o <;> rfl)
def qI (Q : Int32 → zS → Prop) : Option Value → zS → Prop := fun v S => ∃ r, v = some (.int r) ∧ Q r S
def qR (Q : Option Nat → zS → Prop) : Option Value → zS → Prop := fun v S => ∃ r, v = some (va_rf r) ∧ Q r S
def qV (Q : zS → Prop) : Option Value → zS → Prop := fun v S => v = none ∧ Q S
section ZQ
variable {E : zE} {I : zI} {R : Room} {Q : Option Value → va_W → zS → Prop} {XC : String → va_W → zS → Prop} {pc : Nat} {lv : List (Nat × Value)} {st : List Value} {X : va_W} {S : zS} {k n : Nat}
theorem z_aload_nQ {q : Fin 4} {i : Nat} {o : Option Nat} (j : Nat) (hd : decode I.2.1 pc = .ok (.aload_n q, 1)) (hi : (q : Nat) = i) (hj : lv[j]? = some (i, va_rf o)) (kk : zJ E I R Q XC (pc + 1) lv (va_rf o :: st) X S k n) : zJ E I R Q XC pc lv st X S k n := by
  cases o with
  | none => exact z_aload_nN j hd hi hj kk
  | some b => exact z_aload_n j hd hi hj kk
theorem z_aloadQ {i : Nat} {o : Option Nat} (j : Nat) (hd : decode I.2.1 pc = .ok (.aload i, 2)) (hj : lv[j]? = some (i, va_rf o)) (kk : zJ E I R Q XC (pc + 2) lv (va_rf o :: st) X S k n) : zJ E I R Q XC pc lv st X S k n := by
  cases o with
  | none => exact z_aloadN j hd hj kk
  | some b => exact z_aload j hd hj kk
theorem z_astore_nQ {q : Fin 4} {i : Nat} {o : Option Nat} {lv' : List (Nat × Value)} (hd : decode I.2.1 pc = .ok (.astore_n q, 1)) (hi : (q : Nat) = i) (hn : i < I.2.2.1) (hv : (i, va_rf o) :: lv.filter (fun q => !(q.1 == i) && !(q.1 + 1 == i && q.2.category == 2)) = lv') (kk : zJ E I R Q XC (pc + 1) lv' st X S k n) : zJ E I R Q XC pc lv (va_rf o :: st) X S k n := by
  cases o with
  | none => exact z_astore_nN hd hi hn hv kk
  | some b => exact z_astore_n hd hi hn hv kk
theorem z_astoreQ {i : Nat} {o : Option Nat} {lv' : List (Nat × Value)} (hd : decode I.2.1 pc = .ok (.astore i, 2)) (hn : i < I.2.2.1) (hv : (i, va_rf o) :: lv.filter (fun q => !(q.1 == i) && !(q.1 + 1 == i && q.2.category == 2)) = lv') (kk : zJ E I R Q XC (pc + 2) lv' st X S k n) : zJ E I R Q XC pc lv (va_rf o :: st) X S k n := by
  cases o with
  | none => exact z_astoreN hd hn hv kk
  | some b => exact z_astore hd hn hv kk
theorem z_len0E {a : Nat} {v : Int32} (he : a = E.2.2.2.2.1) (hv : v = 0) (hd : decode I.2.1 pc = .ok (.arraylength, 1)) (kk : zJ E I R Q XC (pc + 1) lv (.int v :: st) X S k n) : zJ E I R Q XC pc lv (.ref a :: st) X S k n := by
  subst he
  exact z_len0 hv hd kk
theorem z_callSV {y : MethodName} {cc' : ByteArray} {nL' np idx : Nat} {ret' : Option FieldType} {rm' : Room} {av stk : List Value} {XCc : String → zS → Prop} {Qc : zS → Prop} (hM : zM E y cc' nL' ret' rm' av S (qV Qc) XCc)
    (hw1 : Cond.code y cc' nL' ret' ∈ zW) (hw2 : Cond.methodLink I.1 idx y ∈ zW) (hw3 : Cond.static y ∈ zW) (hw4 : Cond.initialized y.cls ∈ zW)
    (hy : y.cls ≠ "java/lang/invoke/MethodHandle" ∧ y.cls ≠ "java/lang/invoke/VarHandle" ∧ (parseMethodDescriptor y.desc).map (fun d => d.parameters.length) = some np) (hav : av.length = np) (hsk : stk = av.reverse ++ st)
    (hR : rm'.frames + 1 ≤ R.frames ∧ 8 + (nL' + 11) + rm'.locals ≤ R.locals) (hf : k + rm'.cells ≤ R.cells ∧ n + rm'.slots ≤ R.slots) (h8 : (st.map fun v => v.category).sum ≤ 8)
    (hd : decode I.2.1 pc = .ok (.invokestatic idx, 3))
    (kx : ∀ ex S', XCc ex S' → zJx E I R Q XC pc lv X S' (k + rm'.cells) (n + rm'.slots) ex)
    (kk : ∀ (S1 : zS), Qc S1 → zJ E I R Q XC (pc + 3) lv (st) X S1 (k + rm'.cells) (n + rm'.slots)) : zJ E I R Q XC pc lv stk X S k n :=
  z_callS hM hw1 hw2 hw3 hw4 hy hav hsk hR hf h8 hd kx (fun v S1 h => by obtain ⟨rfl, h⟩ := h; exact kk S1 h)
theorem z_callSI {y : MethodName} {cc' : ByteArray} {nL' np idx : Nat} {ret' : Option FieldType} {rm' : Room} {av stk : List Value} {XCc : String → zS → Prop} {Qc : Int32 → zS → Prop} (hM : zM E y cc' nL' ret' rm' av S (qI Qc) XCc)
    (hw1 : Cond.code y cc' nL' ret' ∈ zW) (hw2 : Cond.methodLink I.1 idx y ∈ zW) (hw3 : Cond.static y ∈ zW) (hw4 : Cond.initialized y.cls ∈ zW)
    (hy : y.cls ≠ "java/lang/invoke/MethodHandle" ∧ y.cls ≠ "java/lang/invoke/VarHandle" ∧ (parseMethodDescriptor y.desc).map (fun d => d.parameters.length) = some np) (hav : av.length = np) (hsk : stk = av.reverse ++ st)
    (hR : rm'.frames + 1 ≤ R.frames ∧ 8 + (nL' + 11) + rm'.locals ≤ R.locals) (hf : k + rm'.cells ≤ R.cells ∧ n + rm'.slots ≤ R.slots) (h8 : (st.map fun v => v.category).sum ≤ 8)
    (hd : decode I.2.1 pc = .ok (.invokestatic idx, 3))
    (kx : ∀ ex S', XCc ex S' → zJx E I R Q XC pc lv X S' (k + rm'.cells) (n + rm'.slots) ex)
    (kk : ∀ (r : Int32) (S1 : zS), Qc r S1 → zJ E I R Q XC (pc + 3) lv (.int r :: st) X S1 (k + rm'.cells) (n + rm'.slots)) : zJ E I R Q XC pc lv stk X S k n :=
  z_callS hM hw1 hw2 hw3 hw4 hy hav hsk hR hf h8 hd kx (fun v S1 h => by obtain ⟨r, rfl, h⟩ := h; exact kk r S1 h)
theorem z_callSR {y : MethodName} {cc' : ByteArray} {nL' np idx : Nat} {ret' : Option FieldType} {rm' : Room} {av stk : List Value} {XCc : String → zS → Prop} {Qc : Option Nat → zS → Prop} (hM : zM E y cc' nL' ret' rm' av S (qR Qc) XCc)
    (hw1 : Cond.code y cc' nL' ret' ∈ zW) (hw2 : Cond.methodLink I.1 idx y ∈ zW) (hw3 : Cond.static y ∈ zW) (hw4 : Cond.initialized y.cls ∈ zW)
    (hy : y.cls ≠ "java/lang/invoke/MethodHandle" ∧ y.cls ≠ "java/lang/invoke/VarHandle" ∧ (parseMethodDescriptor y.desc).map (fun d => d.parameters.length) = some np) (hav : av.length = np) (hsk : stk = av.reverse ++ st)
    (hR : rm'.frames + 1 ≤ R.frames ∧ 8 + (nL' + 11) + rm'.locals ≤ R.locals) (hf : k + rm'.cells ≤ R.cells ∧ n + rm'.slots ≤ R.slots) (h8 : (st.map fun v => v.category).sum ≤ 8)
    (hd : decode I.2.1 pc = .ok (.invokestatic idx, 3))
    (kx : ∀ ex S', XCc ex S' → zJx E I R Q XC pc lv X S' (k + rm'.cells) (n + rm'.slots) ex)
    (kk : ∀ (r : Option Nat) (S1 : zS), Qc r S1 → zJ E I R Q XC (pc + 3) lv (va_rf r :: st) X S1 (k + rm'.cells) (n + rm'.slots)) : zJ E I R Q XC pc lv stk X S k n :=
  z_callS hM hw1 hw2 hw3 hw4 hy hav hsk hR hf h8 hd kx (fun v S1 h => by obtain ⟨r, rfl, h⟩ := h; exact kk r S1 h)
theorem z_callVV {y : MethodName} {cc' : ByteArray} {nL' np idx b ci N : Nat} {C : String} {T : u_T} {ret' : Option FieldType} {rm' : Room} {av stk : List Value} {XCc : String → zS → Prop} {Qc : zS → Prop} (hM : zM E y cc' nL' ret' rm' (.ref b :: av) S (qV Qc) XCc)
    (hb : b ∈ gL S) (hKb : gK S b = ci) (hci : ci < 12) (hcl : vwCl[ci]? = some (C, T, N))
    (hw1 : Cond.code y cc' nL' ret' ∈ zW) (hw2 : Cond.methodLink I.1 idx y ∈ zW) (hw3 : Cond.instanceMethod y ∈ zW) (hw5 : Cond.selects C y y ∈ zW) (hw4 : Cond.initialized y.cls ∈ zW)
    (hy : y.cls ≠ "java/lang/invoke/MethodHandle" ∧ y.cls ≠ "java/lang/invoke/VarHandle" ∧ (parseMethodDescriptor y.desc).map (fun d => d.parameters.length) = some np) (hav : av.length = np) (hsk : stk = av.reverse ++ .ref b :: st)
    (hR : rm'.frames + 1 ≤ R.frames ∧ 8 + (nL' + 11) + rm'.locals ≤ R.locals) (hf : k + rm'.cells ≤ R.cells ∧ n + rm'.slots ≤ R.slots) (h8 : (st.map fun v => v.category).sum ≤ 8)
    (hd : decode I.2.1 pc = .ok (.invokevirtual idx, 3))
    (kx : ∀ ex S', XCc ex S' → zJx E I R Q XC pc lv X S' (k + rm'.cells) (n + rm'.slots) ex)
    (kk : ∀ (S1 : zS), Qc S1 → zJ E I R Q XC (pc + 3) lv (st) X S1 (k + rm'.cells) (n + rm'.slots)) : zJ E I R Q XC pc lv stk X S k n :=
  z_callV hM hb hKb hci hcl hw1 hw2 hw3 hw5 hw4 hy hav hsk hR hf h8 hd kx (fun v S1 h => by obtain ⟨rfl, h⟩ := h; exact kk S1 h)
theorem z_callVI {y : MethodName} {cc' : ByteArray} {nL' np idx b ci N : Nat} {C : String} {T : u_T} {ret' : Option FieldType} {rm' : Room} {av stk : List Value} {XCc : String → zS → Prop} {Qc : Int32 → zS → Prop} (hM : zM E y cc' nL' ret' rm' (.ref b :: av) S (qI Qc) XCc)
    (hb : b ∈ gL S) (hKb : gK S b = ci) (hci : ci < 12) (hcl : vwCl[ci]? = some (C, T, N))
    (hw1 : Cond.code y cc' nL' ret' ∈ zW) (hw2 : Cond.methodLink I.1 idx y ∈ zW) (hw3 : Cond.instanceMethod y ∈ zW) (hw5 : Cond.selects C y y ∈ zW) (hw4 : Cond.initialized y.cls ∈ zW)
    (hy : y.cls ≠ "java/lang/invoke/MethodHandle" ∧ y.cls ≠ "java/lang/invoke/VarHandle" ∧ (parseMethodDescriptor y.desc).map (fun d => d.parameters.length) = some np) (hav : av.length = np) (hsk : stk = av.reverse ++ .ref b :: st)
    (hR : rm'.frames + 1 ≤ R.frames ∧ 8 + (nL' + 11) + rm'.locals ≤ R.locals) (hf : k + rm'.cells ≤ R.cells ∧ n + rm'.slots ≤ R.slots) (h8 : (st.map fun v => v.category).sum ≤ 8)
    (hd : decode I.2.1 pc = .ok (.invokevirtual idx, 3))
    (kx : ∀ ex S', XCc ex S' → zJx E I R Q XC pc lv X S' (k + rm'.cells) (n + rm'.slots) ex)
    (kk : ∀ (r : Int32) (S1 : zS), Qc r S1 → zJ E I R Q XC (pc + 3) lv (.int r :: st) X S1 (k + rm'.cells) (n + rm'.slots)) : zJ E I R Q XC pc lv stk X S k n :=
  z_callV hM hb hKb hci hcl hw1 hw2 hw3 hw5 hw4 hy hav hsk hR hf h8 hd kx (fun v S1 h => by obtain ⟨r, rfl, h⟩ := h; exact kk r S1 h)
theorem z_callVR {y : MethodName} {cc' : ByteArray} {nL' np idx b ci N : Nat} {C : String} {T : u_T} {ret' : Option FieldType} {rm' : Room} {av stk : List Value} {XCc : String → zS → Prop} {Qc : Option Nat → zS → Prop} (hM : zM E y cc' nL' ret' rm' (.ref b :: av) S (qR Qc) XCc)
    (hb : b ∈ gL S) (hKb : gK S b = ci) (hci : ci < 12) (hcl : vwCl[ci]? = some (C, T, N))
    (hw1 : Cond.code y cc' nL' ret' ∈ zW) (hw2 : Cond.methodLink I.1 idx y ∈ zW) (hw3 : Cond.instanceMethod y ∈ zW) (hw5 : Cond.selects C y y ∈ zW) (hw4 : Cond.initialized y.cls ∈ zW)
    (hy : y.cls ≠ "java/lang/invoke/MethodHandle" ∧ y.cls ≠ "java/lang/invoke/VarHandle" ∧ (parseMethodDescriptor y.desc).map (fun d => d.parameters.length) = some np) (hav : av.length = np) (hsk : stk = av.reverse ++ .ref b :: st)
    (hR : rm'.frames + 1 ≤ R.frames ∧ 8 + (nL' + 11) + rm'.locals ≤ R.locals) (hf : k + rm'.cells ≤ R.cells ∧ n + rm'.slots ≤ R.slots) (h8 : (st.map fun v => v.category).sum ≤ 8)
    (hd : decode I.2.1 pc = .ok (.invokevirtual idx, 3))
    (kx : ∀ ex S', XCc ex S' → zJx E I R Q XC pc lv X S' (k + rm'.cells) (n + rm'.slots) ex)
    (kk : ∀ (r : Option Nat) (S1 : zS), Qc r S1 → zJ E I R Q XC (pc + 3) lv (va_rf r :: st) X S1 (k + rm'.cells) (n + rm'.slots)) : zJ E I R Q XC pc lv stk X S k n :=
  z_callV hM hb hKb hci hcl hw1 hw2 hw3 hw5 hw4 hy hav hsk hR hf h8 hd kx (fun v S1 h => by obtain ⟨r, rfl, h⟩ := h; exact kk r S1 h)
theorem z_callIV {y : MethodName} {cc' : ByteArray} {nL' np idx b : Nat} {rm' : Room} {av stk : List Value} {XCc : String → zS → Prop} {Qc : zS → Prop} (hM : zM E y cc' nL' none rm' (.ref b :: av) S (qV Qc) XCc)
    (hw1 : Cond.code y cc' nL' none ∈ zW) (hw2 : Cond.methodLink I.1 idx y ∈ zW) (hw3 : Cond.instanceMethod y ∈ zW) (hw4 : Cond.initialized y.cls ∈ zW) (hy1 : y.name = "<init>")
    (hy : y.cls ≠ "java/lang/invoke/MethodHandle" ∧ y.cls ≠ "java/lang/invoke/VarHandle" ∧ (parseMethodDescriptor y.desc).map (fun d => d.parameters.length) = some np) (hav : av.length = np) (hsk : stk = av.reverse ++ .ref b :: st)
    (hR : rm'.frames + 1 ≤ R.frames ∧ 8 + (nL' + 11) + rm'.locals ≤ R.locals) (hf : k + rm'.cells ≤ R.cells ∧ n + rm'.slots ≤ R.slots) (h8 : (st.map fun v => v.category).sum ≤ 8)
    (hd : decode I.2.1 pc = .ok (.invokespecial idx, 3))
    (kx : ∀ ex S', XCc ex S' → zJx E I R Q XC pc lv X S' (k + rm'.cells) (n + rm'.slots) ex)
    (kk : ∀ (S1 : zS), Qc S1 → zJ E I R Q XC (pc + 3) lv (st) X S1 (k + rm'.cells) (n + rm'.slots)) : zJ E I R Q XC pc lv stk X S k n :=
  z_callI hM hw1 hw2 hw3 hw4 hy1 hy hav hsk hR hf h8 hd kx (fun v S1 h => by obtain ⟨rfl, h⟩ := h; exact kk S1 h)
end ZQ
