/-! the law: wrappers with handlers, its script, two worlds (the class's objects, the law's arrays) -/
def zY (E : zE) (Q : Int32 → zS → zS → Prop) : Option Value → va_W → zS → Prop := fun v X S => ∃ r C, v = some (.int r) ∧ X = zPl E C ∧ Q r S C
def zMY (E : zE) (y : MethodName) (cc : ByteArray) (nL : Nat) (ret : Option FieldType) (rm : Room) (av : List Value) (X : va_W) (S : zS) (Q : Option Value → va_W → zS → Prop) : Prop :=
  ∀ sz : Nat, vx_Met E.2.2.1 y (.code y cc nL ret :: zW) rm (va_Pc av (fun U => U.heap.size = sz ∧ zK E U ∧ va_P E.1 vwCl (X ++ zPl E S) U.heap ∧ va_D (zB E) (X ++ zPl E S)))
    (zQr E (va_A (X ++ zPl E S) sz) Q) (zQx E (va_A (X ++ zPl E S) sz) (fun _ _ _ => False)) rm.cells rm.slots (va_A (X ++ zPl E S) sz)
theorem zMY_of {E : zE} {y : MethodName} {cc : ByteArray} {nL : Nat} {ret : Option FieldType} {rm : Room} {av : List Value} {X : va_W} {S : zS} {Q : Option Value → va_W → zS → Prop} (own : String) (hy : plainName y.cls = true) (ho : y.cls = own) (hlen : (lg_sl av).length ≤ nL)
    (body : zJ E (own, cc, nL, ret, false, [], zTr) rm Q (fun _ _ _ => False) 0 (lv_args 0 av) [] X S 0 0) : zMY E y cc nL ret rm av X S Q := by
  intro sz
  refine vx_ofW (cc := cc) (maxL := nL) (ret := ret) hy rfl ?_
  intro p e s m args below meth c s₁ B hml htab hv
  obtain ⟨rfl, hsz, K, hP, hD⟩ := hv
  have hts := atoms_spec (ws := .code y cc nL ret :: zW) B.pre
  have hl := lv_entry av (n := nL) hlen
  rw [lg_entry_eq]
  subst hsz
  refine body p e s m av.toArray below meth c s.heap [] _ (va_A (X ++ zPl E S) s.heap.size) ⟨B.exec, B.bytes, hml, B.returns, by rw [← ho]; exact findClass_of_methodNamed B.named, fun w hw => hts w (List.mem_cons_of_mem _ hw), B.notSynchronized, fun h => (by cases h), ?_, trivial⟩ K (fun q h => Or.inr h) (fun q h => ?_) va_S.rf hP hD.self hl
  · cases ht : c.exceptionTable.toList with
    | nil => rfl
    | cons a l => exact absurd (htab a (by rw [ht]; exact List.mem_cons_self)) (fun h => h)
  · rcases h with ⟨j, e9, hj⟩ | h
    · exact hD.2 j _ hj
    · exact Nat.le_trans K.2.2.2.2.2.2.2.2.2.2.1 h
def zcl (E : zE) (f : Nat → Int64) : va_E := .inl (E.2.1 17, 1, .inr (.inl f))
def zMX (E : zE) (y : MethodName) (cc : ByteArray) (nL : Nat) (ret : Option FieldType) (hh : List (Nat × Nat × Nat × Nat)) (rm : Room) (av : List Value) (X : va_W) (S : zS) (Q : Option Value → va_W → zS → Prop) : Prop :=
  ∀ sz : Nat, vx_Met E.2.2.1 y (.codeWith y cc nL ret hh :: zW) rm (va_Pc av (fun U => U.heap.size = sz ∧ zK E U ∧ va_P E.1 vwCl (X ++ zPl E S) U.heap ∧ va_D (zB E) (X ++ zPl E S)))
    (zQr E (va_A (X ++ zPl E S) sz) Q) (zQx E (va_A (X ++ zPl E S) sz) (fun _ _ _ => False)) rm.cells rm.slots (va_A (X ++ zPl E S) sz)
theorem zGX {y : MethodName} {cc : ByteArray} {nL : Nat} {ret : Option FieldType} {hh : List (Nat × Nat × Nat × Nat)} (h : Cond.codeWith y cc nL ret hh ∈ zW) : GoodIn zW (Cond.codeWith y cc nL ret hh :: zW) := fun w hw => by
  rcases List.mem_cons.mp hw with e | hw
  · subst e; exact ⟨h, good_of_word (zW_good h)⟩
  · exact ⟨hw, good_of_word (zW_good hw)⟩
theorem zMX_of {E : zE} {y : MethodName} {cc : ByteArray} {nL : Nat} {ret : Option FieldType} {hh : List (Nat × Nat × Nat × Nat)} {rm : Room} {av : List Value} {X : va_W} {S : zS} {Q : Option Value → va_W → zS → Prop} (own : String) (hy : plainName y.cls = true) (ho : y.cls = own) (hlen : (lg_sl av).length ≤ nL)
    (body : zJ E (own, cc, nL, ret, false, tableOf hh, zTr) rm Q (fun _ _ _ => False) 0 (lv_args 0 av) [] X S 0 0) : zMX E y cc nL ret hh rm av X S Q := by
  intro sz
  refine vx_ofWH (cc := cc) (maxL := nL) (ret := ret) (hh := hh) hy rfl ?_
  intro p e s m args below meth c s₁ B hml hv
  obtain ⟨rfl, hsz, K, hP, hD⟩ := hv
  have hts := atoms_spec (ws := .codeWith y cc nL ret hh :: zW) B.pre
  have htab := vx_table (x := y) B (hts _ List.mem_cons_self)
  have hl := lv_entry av (n := nL) hlen
  rw [lg_entry_eq]
  subst hsz
  refine body p e s m av.toArray below meth c s.heap [] _ (va_A (X ++ zPl E S) s.heap.size) ⟨B.exec, B.bytes, hml, B.returns, by rw [← ho]; exact findClass_of_methodNamed B.named, fun w hw => hts w (List.mem_cons_of_mem _ hw), B.notSynchronized, fun h => (by cases h), htab, trivial⟩ K (fun q h => Or.inr h) (fun q h => ?_) va_S.rf hP hD.self hl
  rcases h with ⟨j, e9, hj⟩ | h
  · exact hD.2 j _ hj
  · exact Nat.le_trans K.2.2.2.2.2.2.2.2.2.2.1 h
section ZLW
variable {E : zE} {I : zI} {R : Room} {Q : Option Value → va_W → zS → Prop} {XC : String → va_W → zS → Prop} {pc : Nat} {lv : List (Nat × Value)} {st : List Value} {X : va_W} {S : zS} {k n : Nat}
theorem zx_catch {ex : String} (pre : List ExceptionTableEntry) (x : ExceptionTableEntry) (suf : List ExceptionTableEntry) (htab : I.2.2.2.2.2.1 = pre ++ x :: suf) (hex : ex ∈ zXs) (hpass : ∀ z ∈ pre, z.catchType ≠ 0 ∧ ∃ nm ∈ zXs, ex ≠ nm ∧ Cond.classLink I.1 z.catchType nm ∈ zW) (hx : covers x pc = true) (h0 : x.catchType ≠ 0) (hlk : Cond.classLink I.1 x.catchType ex ∈ zW)
    (kk : ∀ q : Nat, zJ E I R Q XC x.handlerPc lv [.ref q] X S k n) : zJx E I R Q XC pc lv X S k n ex := by
  intro p e s m args below meth c H locs ls A rest q ce C0 K h1 h2 hS hP hD hl hce hv hcl
  have hts := C0.2.2.2.2.2.1
  refine vx_catch (own := I.1) (name := ex) C0.2.2.2.2.1 pre x suf (C0.2.2.2.2.2.2.2.2.1.trans htab) (fun z hz => ?_) hx h0 (hts _ hlk) (va_Nw.use rfl (K.2.2.2.1.1 ex hex)) hce hv hcl (kk q p e s m args below meth c H locs ls A C0 K h1 h2 hS hP hD hl)
  obtain ⟨g1, nm, g2, g3, g4⟩ := hpass z hz
  exact Or.inr ⟨g1, nm, hts _ g4, K.2.2.2.2.1 ex hex nm g2 g3⟩
theorem z_lastX {q : Nat} {f : Nat → Int64} {v : Int64} (hd : decode I.2.1 pc = .ok (.lastore, 1)) (kk : zJ E I R Q XC (pc + 1) lv st [(q, zcl E (vp_updL f 0 v))] S k n) : zJ E I R Q XC pc lv (.long v :: .int 0 :: .ref q :: st) [(q, zcl E f)] S k n := by
  intro p e s m args below meth c0 H locs ls A C0 K h1 h2 hS hP hD hl
  refine va_last C0.1 C0.2.1 K.1 hP hD hS 0 5 (cA := E.2.1 17) (n := 1) (f := f) rfl rfl (i := 0) (by unfold vp_in; decide) hd (fun H1 locs1 hP1 hD1 hS1 => ?_)
  exact kk p e s m args below meth c0 H1 locs1 ls A C0 K h1 h2 hS1 hP1 hD1 hl
theorem z_laldX {q : Nat} {f : Nat → Int64} {Y : va_W} (hd : decode I.2.1 pc = .ok (.laload, 1)) (kk : zJ E I R Q XC (pc + 1) lv (.long (f 0) :: st) (Y ++ [(q, zcl E f)]) S k n) : zJ E I R Q XC pc lv (.int 0 :: .ref q :: st) (Y ++ [(q, zcl E f)]) S k n := by
  intro p e s m args below meth c0 H locs ls A C0 K h1 h2 hS hP hD hl
  refine va_lald C0.1 C0.2.1 K.1 hP Y.length 5 (cA := E.2.1 17) (n := 1) (f := f) (a := q) ?_ rfl (i := 0) (by unfold vp_in; decide) hd (kk p e s m args below meth c0 H locs ls A C0 K h1 h2 hS hP hD hl)
  rw [List.append_assoc, List.getElem?_append_right (Nat.le_refl _), Nat.sub_self]
  rfl
theorem z_aft {Qc : Option Value → va_W → zS → Prop} {Y X1 : va_W} {stk : List Value} {mc ms : Nat} {a : Array Value} {p : Program} {e : Env} {s : State} {m : MethodId} {args : Array Value} {below : List Frame} {meth : Method} {c : Code} {H : Heap} {locs : List Loc} {ls : Array Slot} {A : Nat → Prop}
    (hr : vx_Run p E.2.2.1 e R s m args below meth c H locs k n mc ms (F0 m pc ls stk) st (zQr E (va_A (X1 ++ zPl E S) H.size) Qc a) (zQx E (va_A (X1 ++ zPl E S) H.size) (fun _ _ _ => False)) (va_A (X1 ++ zPl E S) H.size))
    (kk : ∀ v X' S', Qc v X' S' → zJ E I R Q XC (pc + 3) lv (v.toList ++ st) (Y ++ X') S' (k + mc) (n + ms))
    (C0 : zCx I p s m args meth c) (K : zK E s) (h1 : ∀ q, s.heap.size ≤ q → A q) (h2 : ∀ q, A q → zB E q) (hS : va_S A s.heap H locs) (hP : va_P E.1 vwCl ((Y ++ X1) ++ zPl E S) H) (hD : va_D A ((Y ++ X1) ++ zPl E S)) (hl : lv_has ls I.2.2.1 lv) :
    W p E.2.2.1 e R s m args below meth c H locs k n (vx_MQ below (zQr E A Q) (zQx E A XC) args s R.cells R.slots A) (F0 m pc ls stk) := by
  rw [List.append_assoc] at hP hD
  have hA : ∀ q, va_A (X1 ++ zPl E S) H.size q → A q := by
    intro q hz
    rcases hz with ⟨j, e, hj⟩ | hz
    · have hj' : (Y ++ (X1 ++ zPl E S))[Y.length + j]? = some (q, e) := by
        rw [List.getElem?_append_right (by omega), Nat.add_sub_cancel_left]; exact hj
      exact hD.2 _ _ hj'
    · exact h1 q (Nat.le_trans hS.1 hz)
  intro T hT X9
  rcases hr T hT X9 with ⟨v, st₀, t, T', L, h0, X', hL, e1, e2, ⟨v', Z, S', hv, hq, hP1, hD1, hF⟩, stp⟩ | ⟨q, st₀, t, T', L, ex, ce, h0, X', hL, e1, e2, ⟨Z, S', hq, -⟩, -⟩
  · cases hv
    obtain ⟨k1, k2, k3⟩ := vx_keep h0 e1 hS (fun q _ => hA q) hA hL hF
    obtain ⟨j1, j2⟩ := z_join hP hD k2 hA (by rw [e1]; exact hP1) hD1
    rw [← List.append_assoc] at j1 j2
    obtain ⟨t2, a1, b1⟩ := kk v Z S' hq p e s m args below meth c T'.heap (locs ++ L) ls A C0 K h1 h2 k3 j1 j2 hl T' rfl X'
    exact ⟨t2, stp t2 a1, b1⟩
  · exact hq.elim
theorem z_callX {y : MethodName} {cc' : ByteArray} {nL' np idx : Nat} {ret' : Option FieldType} {hh : List (Nat × Nat × Nat × Nat)} {rm' : Room} {av stk : List Value} {Y X1 : va_W} {Qc : Option Value → va_W → zS → Prop} (hM : zMX E y cc' nL' ret' hh rm' av X1 S Qc)
    (hw1 : Cond.codeWith y cc' nL' ret' hh ∈ zW) (hw2 : Cond.methodLink I.1 idx y ∈ zW) (hw3 : Cond.static y ∈ zW) (hw4 : Cond.initialized y.cls ∈ zW)
    (hy : y.cls ≠ "java/lang/invoke/MethodHandle" ∧ y.cls ≠ "java/lang/invoke/VarHandle" ∧ (parseMethodDescriptor y.desc).map (fun d => d.parameters.length) = some np) (hav : av.length = np) (hsk : stk = av.reverse ++ st)
    (hR : rm'.frames + 1 ≤ R.frames ∧ 8 + (nL' + 11) + rm'.locals ≤ R.locals) (hf : k + rm'.cells ≤ R.cells ∧ n + rm'.slots ≤ R.slots) (h8 : (st.map fun v => v.category).sum ≤ 8)
    (hd : decode I.2.1 pc = .ok (.invokestatic idx, 3))
    (kk : ∀ v X' S', Qc v X' S' → zJ E I R Q XC (pc + 3) lv (v.toList ++ st) (Y ++ X') S' (k + rm'.cells) (n + rm'.slots)) : zJ E I R Q XC pc lv stk (Y ++ X1) S k n := by
  intro p e s m args below meth c0 H locs ls A C0 K h1 h2 hS hP hD hl
  have hts := C0.2.2.2.2.2.1
  have hG : GoodIn zW (va_wsS I.1 idx y (Cond.codeWith y cc' nL' ret' hh :: zW)) := fun w hw => by
    unfold va_wsS at hw
    rcases List.mem_append.mp hw with hw | hw
    · have g : w ∈ zW := by
        rcases List.mem_cons.mp hw with e1 | hw
        · subst e1; exact hw2
        · rcases List.mem_cons.mp hw with e1 | hw
          · subst e1; exact hw3
          · rcases List.mem_cons.mp hw with e1 | hw
            · subst e1; exact hw4
            · cases hw
      exact ⟨g, good_of_word (zW_good g)⟩
    · exact zGX hw1 w hw
  refine z_aft (vx_runSX (As := av) (rest := st) ⟨C0.1, C0.2.1, C0.2.2.1, C0.2.2.2.2.1, hts⟩ (hM H.size) (vx_cwSW np hts hG rfl rfl rfl hy hR) ?_ rfl hav hl.1 hsk (lv_room h8) hd hf) kk C0 K h1 h2 hS hP hD hl
  have hlX : ∀ (j : Nat) (q : Nat × va_E), (X1 ++ zPl E S)[j]? = some q → ((Y ++ X1) ++ zPl E S)[Y.length + j]? = some q := fun j q h => by
    rw [List.append_assoc, List.getElem?_append_right (by omega), Nat.add_sub_cancel_left]; exact h
  refine ⟨fun a U g mk q => ?_, fun U hU hW => ⟨rfl, by rw [hU], K.next hW hU hS h2, by rw [hU]; exact fun j q hj => hP _ q (hlX j q hj), ⟨fun i j p q hi hj e => by have := hD.1 _ _ p q (hlX i p hi) (hlX j q hj) e; omega, fun j q hj => h2 _ (hD.2 _ q (hlX j q hj))⟩⟩⟩
  obtain ⟨q0, q1, q2, q3, q4⟩ := q
  exact ⟨q0, q1, q2.calling, q3, q4⟩
theorem z_callY {y : MethodName} {cc' : ByteArray} {nL' np idx : Nat} {ret' : Option FieldType} {rm' : Room} {av stk : List Value} {Y X1 : va_W} {Qc : Option Value → va_W → zS → Prop} (hM : zMY E y cc' nL' ret' rm' av X1 S Qc)
    (hw1 : Cond.code y cc' nL' ret' ∈ zW) (hw2 : Cond.methodLink I.1 idx y ∈ zW) (hw3 : Cond.static y ∈ zW) (hw4 : Cond.initialized y.cls ∈ zW)
    (hy : y.cls ≠ "java/lang/invoke/MethodHandle" ∧ y.cls ≠ "java/lang/invoke/VarHandle" ∧ (parseMethodDescriptor y.desc).map (fun d => d.parameters.length) = some np) (hav : av.length = np) (hsk : stk = av.reverse ++ st)
    (hR : rm'.frames + 1 ≤ R.frames ∧ 8 + (nL' + 11) + rm'.locals ≤ R.locals) (hf : k + rm'.cells ≤ R.cells ∧ n + rm'.slots ≤ R.slots) (h8 : (st.map fun v => v.category).sum ≤ 8)
    (hd : decode I.2.1 pc = .ok (.invokestatic idx, 3))
    (kk : ∀ v X' S', Qc v X' S' → zJ E I R Q XC (pc + 3) lv (v.toList ++ st) (Y ++ X') S' (k + rm'.cells) (n + rm'.slots)) : zJ E I R Q XC pc lv stk (Y ++ X1) S k n := by
  intro p e s m args below meth c0 H locs ls A C0 K h1 h2 hS hP hD hl
  have hts := C0.2.2.2.2.2.1
  refine z_aft (vx_runS (As := av) (rest := st) ⟨C0.1, C0.2.1, C0.2.2.1, C0.2.2.2.2.1, hts⟩ (hM H.size) ⟨callB_of np hts (zG hw1) rfl rfl rfl (hts _ hw4) (hts _ hw2) hy hR, hts _ hw3⟩ ?_ rfl hav hl.1 hsk (lv_room h8) hd hf) kk C0 K h1 h2 hS hP hD hl
  have hlX : ∀ (j : Nat) (q : Nat × va_E), (X1 ++ zPl E S)[j]? = some q → ((Y ++ X1) ++ zPl E S)[Y.length + j]? = some q := fun j q h => by
    rw [List.append_assoc, List.getElem?_append_right (by omega), Nat.add_sub_cancel_left]; exact h
  refine ⟨fun a U g mk q => ?_, fun U hU hW => ⟨rfl, by rw [hU], K.next hW hU hS h2, by rw [hU]; exact fun j q hj => hP _ q (hlX j q hj), ⟨fun i j p q hi hj e => by have := hD.1 _ _ p q (hlX i p hi) (hlX j q hj) e; omega, fun j q hj => h2 _ (hD.2 _ q (hlX j q hj))⟩⟩⟩
  obtain ⟨q0, q1, q2, q3, q4⟩ := q
  exact ⟨q0, q1, q2.calling, q3, q4⟩
/-- the script -/
def zScr (E : zE) (b L : Nat) (xs : Nat → Int32) : State → Prop := fun s => va_X b L xs s s.heap ∧ b < s.heap.size ∧ b < E.2.2.2.1
theorem z_slen {b L : Nat} {xs : Nat → Int32} (hI : I.2.2.2.2.2.2 = zScr E b L xs) (hd : decode I.2.1 pc = .ok (.arraylength, 1)) (kk : zJ E I R Q XC (pc + 1) lv (.int (nI L) :: st) X S k n) : zJ E I R Q XC pc lv (.ref b :: st) X S k n := by
  intro p e s m args below meth c0 H locs ls A C0 K h1 h2 hS hP hD hl
  have hx := C0.2.2.2.2.2.2.2.2.2
  rw [hI] at hx
  exact va_slen C0.1 C0.2.1 hx.1 hx.2.1 (fun z => by have := h2 b z; unfold zB at this; have := hx.2.2; omega) hS hd (kk p e s m args below meth c0 H locs ls A C0 K h1 h2 hS hP hD hl)
theorem z_sld {b L j : Nat} {xs : Nat → Int32} {i : Int32} (hI : I.2.2.2.2.2.2 = zScr E b L xs) (hi : i = nI j) (hj : j < L) (hL : L < 2 ^ 31) (hd : decode I.2.1 pc = .ok (.iaload, 1)) (kk : zJ E I R Q XC (pc + 1) lv (.int (xs j) :: st) X S k n) : zJ E I R Q XC pc lv (.int i :: .ref b :: st) X S k n := by
  intro p e s m args below meth c0 H locs ls A C0 K h1 h2 hS hP hD hl
  have hx := C0.2.2.2.2.2.2.2.2.2
  rw [hI] at hx
  subst hi
  have hk9 := kk p e s m args below meth c0 H locs ls A C0 K h1 h2 hS hP hD hl
  refine va_sld C0.1 C0.2.1 hx.1 hx.2.1 (fun z => by have := h2 b z; unfold zB at this; have := hx.2.2; omega) hS (vp_in_nI hj hL) hd ?_
  rw [nI_clamp (by omega)]
  exact hk9
theorem z_swIn {dflt lo hi : Int} {offs : Array Int} {len : Nat} {x : Int32} {off : Int} (tgt : Nat) (hd : decode I.2.1 pc = .ok (.tableswitch dflt lo hi offs, len)) (h1 : ¬ x.toInt < lo) (h2 : ¬ hi < x.toInt) (ho : offs[(x.toInt - lo).toNat]? = some off) (ht : (pc : Int) + off = (tgt : Int)) (kk : zJ E I R Q XC tgt lv st X S k n) : zJ E I R Q XC pc lv (.int x :: st) X S k n :=
  fun p e s m args below meth c H locs ls A C K g1 g2 hS hP hD hl => lv_tableIn C.1 C.2.1 hd h1 h2 ho ht (kk p e s m args below meth c H locs ls A C K g1 g2 hS hP hD hl)
theorem z_swOut {dflt lo hi : Int} {offs : Array Int} {len : Nat} {x : Int32} (tgt : Nat) (hd : decode I.2.1 pc = .ok (.tableswitch dflt lo hi offs, len)) (h : x.toInt < lo ∨ hi < x.toInt) (ht : (pc : Int) + dflt = (tgt : Int)) (kk : zJ E I R Q XC tgt lv st X S k n) : zJ E I R Q XC pc lv (.int x :: st) X S k n :=
  fun p e s m args below meth c H locs ls A C K g1 g2 hS hP hD hl => lv_tableOut C.1 C.2.1 hd h ht (kk p e s m args below meth c H locs ls A C K g1 g2 hS hP hD hl)
/-- the worlds change places -/
theorem z_perm {A : Nat → Prop} {D : va_G} {cl : List vw_C} {a b : va_W} {H : Heap} (hP : va_P D cl (a ++ b) H) (hD : va_D A (a ++ b)) : va_P D cl (b ++ a) H ∧ va_D A (b ++ a) := ⟨va_P.swap (a := []) hP, va_D.swap (a := []) hD⟩
theorem z_rot {o : va_W} {Sc Sm : zS} (kk : zJ E I R Q XC pc lv st (o ++ zPl E Sc) Sm k n) : zJ E I R Q XC pc lv st (zPl E Sm ++ o) Sc k n := by
  intro p e s m args below meth c0 H locs ls A C0 K h1 h2 hS hP hD hl
  rw [List.append_assoc] at hP hD
  obtain ⟨g1, g2⟩ := z_perm hP hD
  exact kk p e s m args below meth c0 H locs ls A C0 K h1 h2 hS g1 g2 hl
theorem z_rotB {o : va_W} {Sc Sm : zS} (kk : zJ E I R Q XC pc lv st (zPl E Sm ++ o) Sc k n) : zJ E I R Q XC pc lv st (o ++ zPl E Sc) Sm k n := by
  intro p e s m args below meth c0 H locs ls A C0 K h1 h2 hS hP hD hl
  obtain ⟨g1, g2⟩ := z_perm hP hD
  rw [← List.append_assoc] at g1 g2
  exact kk p e s m args below meth c0 H locs ls A C0 K h1 h2 hS g1 g2 hl
theorem zz_fl {Sl Sc : zS} (kk : zJ E I R Q XC pc lv st (zPl E Sl) Sc k n) : zJ E I R Q XC pc lv st (zPl E Sc) Sl k n := by
  intro p e s m args below meth c0 H locs ls A C0 K h1 h2 hS hP hD hl
  obtain ⟨g1, g2⟩ := z_perm hP hD
  exact kk p e s m args below meth c0 H locs ls A C0 K h1 h2 hS g1 g2 hl
theorem z_topJ {x : Int64} (kk : ∀ y : Int64, y = x → zJ E I R Q XC pc lv (.long y :: st) X S k n) : zJ E I R Q XC pc lv (.long x :: st) X S k n := kk x rfl
theorem z_callW {y : MethodName} {cc' : ByteArray} {nL' np idx : Nat} {ret' : Option FieldType} {hh : List (Nat × Nat × Nat × Nat)} {rm' : Room} {av stk : List Value} {Qc : Int32 → zS → Prop} (hM : zMX E y cc' nL' ret' hh rm' av [] S (fun v X S1 => ∃ r, v = some (.int r) ∧ X = [] ∧ Qc r S1))
    (hw1 : Cond.codeWith y cc' nL' ret' hh ∈ zW) (hw2 : Cond.methodLink I.1 idx y ∈ zW) (hw3 : Cond.static y ∈ zW) (hw4 : Cond.initialized y.cls ∈ zW)
    (hy : y.cls ≠ "java/lang/invoke/MethodHandle" ∧ y.cls ≠ "java/lang/invoke/VarHandle" ∧ (parseMethodDescriptor y.desc).map (fun d => d.parameters.length) = some np) (hav : av.length = np) (hsk : stk = av.reverse ++ st)
    (hR : rm'.frames + 1 ≤ R.frames ∧ 8 + (nL' + 11) + rm'.locals ≤ R.locals) (hf : k + rm'.cells ≤ R.cells ∧ n + rm'.slots ≤ R.slots) (h8 : (st.map fun v => v.category).sum ≤ 8)
    (hd : decode I.2.1 pc = .ok (.invokestatic idx, 3))
    (kk : ∀ r S', Qc r S' → zJ E I R Q XC (pc + 3) lv (.int r :: st) X S' (k + rm'.cells) (n + rm'.slots)) : zJ E I R Q XC pc lv stk X S k n := by
  have h := z_callX (Q := Q) (XC := XC) (lv := lv) (Y := X) (X1 := []) hM hw1 hw2 hw3 hw4 hy hav hsk hR hf h8 hd (fun v X' S' h => by
    obtain ⟨r, rfl, rfl, h⟩ := h
    rw [List.append_nil]
    exact kk r S' h)
  rw [List.append_nil] at h
  exact h
end ZLW
