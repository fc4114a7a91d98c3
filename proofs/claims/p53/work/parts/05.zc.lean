/-! calls, contracts, throws -/
theorem zG {y : MethodName} {cc : ByteArray} {nL : Nat} {ret : Option FieldType} (h : Cond.code y cc nL ret ∈ zW) : GoodIn zW (Cond.code y cc nL ret :: zW) := fun w hw => by
  rcases List.mem_cons.mp hw with e | hw
  · subst e; exact ⟨h, good_of_word (zW_good h)⟩
  · exact ⟨hw, good_of_word (zW_good hw)⟩
theorem zK.calling {E : zE} {U : State} {g : JFrame} {mk : MethodId} {a : Array Value} (h : zK E U) : zK E (U.calling g mk a) := by
  obtain ⟨a1, ⟨b1, b2, b3, b4, b5⟩, a3, ⟨a4, d4⟩, a5, a6, a7, a8, a9, a10, a11, a12⟩ := h
  have A : U.vm.Alike (U.calling g mk a).vm := Vm.Alike.refl U.vm
  exact ⟨va_K.moved A a1, ⟨va_AO.moved A b1, va_AO.moved A b2, va_AO.moved A b3, va_Mi.moved A b4, va_Dc.moved A b5⟩, fun q hq => va_Nw.same rfl rfl (a3 q hq), ⟨fun q hq => va_Nw.same rfl rfl (a4 q hq), fun q hq => va_Nw.same rfl rfl (d4 q hq)⟩, fun q hq r hr n => va_Nc.moved A (a5 q hq r hr n), fun q hq => vk_R.same rfl (a6 q hq), vx_Zq.moved A a7, vx_Zq.moved A a8, va_Z.moved A a9, va_T.moved A a10, a11, a12⟩
theorem zK.next {E : zE} {s U : State} {A : Nat → Prop} {H : Heap} {locs : List Loc} (h : zK E s) (hW : s.WarmedH U.vm) (hh : U.heap = H) (hS : va_S A s.heap H locs) (hAB : ∀ q, A q → zB E q) : zK E U := by
  obtain ⟨a1, ⟨b1, b2, b3, b4, b5⟩, a3, ⟨a4, d4⟩, a5, a6, a7, a8, a9, a10, a11, a12⟩ := h
  have A9 : s.vm.Alike U.vm := hW.alike
  have hk : ∀ a : Nat, a < s.heap.size → ¬ zB E a → U.heap[a]? = s.heap[a]? := fun a h1 h2 => by rw [hh]; exact hS.2.1 a h1 (fun z => h2 (hAB a z))
  exact ⟨va_K.moved A9 a1, ⟨va_AO.moved A9 b1, va_AO.moved A9 b2, va_AO.moved A9 b3, va_Mi.moved A9 b4, va_Dc.moved A9 b5⟩, fun q hq => va_Nw.warmC hW (a3 q hq), ⟨fun q hq => va_Nw.warmC hW (a4 q hq), fun q hq => va_Nw.warmD hW (d4 q hq)⟩, fun q hq r hr n => va_Nc.moved A9 (a5 q hq r hr n), fun q hq => vk_R.warm hW (a6 q hq), (vx_Zq.moved A9 a7).kept hk, (vx_Zq.moved A9 a8).kept hk, (va_Z.moved A9 a9).kept hk, (va_T.moved A9 a10).kept hk, Nat.le_trans a11 (by rw [hh]; exact hS.1), a12⟩
theorem z_join {A : Nat → Prop} {D : va_G} {cl : List vw_C} {X pl pl1 : va_W} {H H1 : Heap} (hP : va_P D cl (X ++ pl) H) (hD : va_D A (X ++ pl)) (hk : ∀ q : Nat, q < H.size → ¬ va_A pl H.size q → H1[q]? = H[q]?) (hF : ∀ q, va_A pl H.size q → A q) (hP1 : va_P D cl pl1 H1) (hD1 : va_D (va_A pl H.size) pl1) : va_P D cl (X ++ pl1) H1 ∧ va_D A (X ++ pl1) := by
  have hl : ∀ (i : Nat) (q : Nat × va_E), X[i]? = some q → (X ++ pl)[i]? = some q := fun i q h => by
    rw [List.getElem?_append_left (List.getElem?_eq_some_iff.mp h).1]; exact h
  have hx : ∀ (i : Nat) (q : Nat × va_E), X[i]? = some q → q.1 < H.size ∧ ¬ va_A pl H.size q.1 := by
    intro i q hi
    have hlt := (hP i q (hl i q hi)).lt
    refine ⟨hlt, fun hz => ?_⟩
    rcases hz with ⟨j, e, hj⟩ | hz
    · have hj' : (X ++ pl)[X.length + j]? = some (q.1, e) := by
        rw [List.getElem?_append_right (by omega), Nat.add_sub_cancel_left]; exact hj
      have h9 := hD.1 i (X.length + j) q (q.1, e) (hl i q hi) hj' rfl
      have h8 := (List.getElem?_eq_some_iff.mp hi).1
      omega
    · omega
  refine ⟨va_P.app (fun i q hi => (hP i q (hl i q hi)).kept (hk q.1 (hx i q hi).1 (hx i q hi).2)) hP1, va_D.app ⟨fun i j p q hi hj e => hD.1 i j p q (hl i p hi) (hl j q hj) e, fun i q hi => hD.2 i q (hl i q hi)⟩ (hD1.weaken (fun _ q _ h => hF q.1 h)) (fun i j p q hp hq e => (hx i p hp).2 (e ▸ hD1.2 j q hq))⟩
theorem z_freeA {E : zE} {A : Nat → Prop} {X : va_W} {S : zS} {s : State} {H : Heap} {locs : List Loc} (h1 : ∀ q, s.heap.size ≤ q → A q) (hS : va_S A s.heap H locs) (hD : va_D A (X ++ zPl E S)) : ∀ q, va_A (zPl E S) H.size q → A q := by
  intro q hz
  rcases hz with ⟨j, e, hj⟩ | hz
  · have hj' : (X ++ zPl E S)[X.length + j]? = some (q, e) := by
      rw [List.getElem?_append_right (by omega), Nat.add_sub_cancel_left]; exact hj
    exact hD.2 _ _ hj'
  · exact h1 q (Nat.le_trans hS.1 hz)
/-- an exception of the class ex flies at pc -/
def zJx (E : zE) (I : zI) (R : Room) (Q : Option Value → va_W → zS → Prop) (XC : String → va_W → zS → Prop) (pc : Nat) (lv : List (Nat × Value)) (X : va_W) (S : zS) (k n : Nat) (ex : String) : Prop :=
  ∀ (p : Program) (e : Env) (s : State) (m : MethodId) (args : Array Value) (below : List Frame) (meth : Method) (c : Code) (H : Heap) (locs : List Loc) (ls : Array Slot) (A : Nat → Prop) (rest : List Value) (q : Addr) (ce : Cell),
    zCx I p s m args meth c → zK E s → (∀ q, s.heap.size ≤ q → A q) → (∀ q, A q → zB E q) → va_S A s.heap H locs → va_P E.1 vwCl (X ++ zPl E S) H → va_D A (X ++ zPl E S) → lv_has ls I.2.2.1 lv →
      H[q]? = some ce → ce.vm = .none → s.vm.findClass ex = some ce.cls →
      vx_W p E.2.2.1 e R s m args below meth c H locs k n (vx_MQ below (zQr E A Q) (zQx E A XC) args s R.cells R.slots A) (F0 m pc ls rest) q
section ZC
variable {E : zE} {I : zI} {R : Room} {Q : Option Value → va_W → zS → Prop} {XC : String → va_W → zS → Prop} {pc : Nat} {lv : List (Nat × Value)} {st : List Value} {X : va_W} {S : zS} {k n : Nat}
theorem zx_out {ex : String} (htab : I.2.2.2.2.2.1 = []) (hx : XC ex X S) (hk : k ≤ R.cells) (hn : n ≤ R.slots) : zJx E I R Q XC pc lv X S k n ex := by
  intro p e s m args below meth c H locs ls A rest q ce C0 K h1 h2 hS hP hD hl hce hv hcl
  refine vx_out (fun x hx => ?_) C0.2.2.2.2.2.2.1 hce hv hcl (fun t ht _ => ⟨X, S, hx, by rw [ht]; exact hP, hD, hS.F ht⟩) hS.2.2 hk hn
  rw [C0.2.2.2.2.2.2.2.2.1, htab] at hx
  cases hx
theorem z_after {Qc : Option Value → zS → Prop} {XCc : String → zS → Prop} {stk : List Value} {mc ms : Nat} {a : Array Value} {p : Program} {e : Env} {s : State} {m : MethodId} {args : Array Value} {below : List Frame} {meth : Method} {c : Code} {H : Heap} {locs : List Loc} {ls : Array Slot} {A : Nat → Prop}
    (hr : vx_Run p E.2.2.1 e R s m args below meth c H locs k n mc ms (F0 m pc ls stk) st (zQr E (va_A (zPl E S) H.size) (zq Qc) a) (zQx E (va_A (zPl E S) H.size) (zx XCc)) (va_A (zPl E S) H.size))
    (kx : ∀ ex S', XCc ex S' → zJx E I R Q XC pc lv X S' (k + mc) (n + ms) ex)
    (kk : ∀ v S', Qc v S' → zJ E I R Q XC (pc + 3) lv (v.toList ++ st) X S' (k + mc) (n + ms))
    (C0 : zCx I p s m args meth c) (K : zK E s) (h1 : ∀ q, s.heap.size ≤ q → A q) (h2 : ∀ q, A q → zB E q) (hS : va_S A s.heap H locs) (hP : va_P E.1 vwCl (X ++ zPl E S) H) (hD : va_D A (X ++ zPl E S)) (hl : lv_has ls I.2.2.1 lv) :
    W p E.2.2.1 e R s m args below meth c H locs k n (vx_MQ below (zQr E A Q) (zQx E A XC) args s R.cells R.slots A) (F0 m pc ls stk) := by
  have hA := z_freeA h1 hS hD
  intro T hT X9
  rcases hr T hT X9 with ⟨v, st₀, t, T', L, h0, X', hL, e1, e2, ⟨v', Y, S', hv, ⟨rfl, hq⟩, hP1, hD1, hF⟩, stp⟩ | ⟨q, st₀, t, T', L, ex, ce, h0, X', hL, e1, e2, ⟨Y, S', ⟨rfl, hq⟩, hP1, hD1, hF⟩, hce, hcv, hcl, stp⟩
  · cases hv
    obtain ⟨k1, k2, k3⟩ := vx_keep h0 e1 hS (fun q _ => hA q) hA hL hF
    obtain ⟨j1, j2⟩ := z_join hP hD k2 hA (by rw [e1]; exact hP1) hD1
    obtain ⟨t2, a1, b1⟩ := kk v S' hq p e s m args below meth c T'.heap (locs ++ L) ls A C0 K h1 h2 k3 j1 j2 hl T' rfl X'
    exact ⟨t2, stp t2 a1, b1⟩
  · obtain ⟨k1, k2, k3⟩ := vx_keep h0 e1 hS (fun q _ => hA q) hA hL hF
    obtain ⟨j1, j2⟩ := z_join hP hD k2 hA (by rw [e1]; exact hP1) hD1
    obtain ⟨t2, a1, b1⟩ := kx ex S' hq p e s m args below meth c T'.heap (locs ++ L) ls A st q ce C0 K h1 h2 k3 j1 j2 hl (by rw [e1]; exact hce) hcv hcl T' rfl X'
    exact ⟨t2, stp.trans a1, b1⟩
theorem z_pre {av : List Value} {s : State} {H : Heap} {locs : List Loc} {A : Nat → Prop} (K : zK E s) (h2 : ∀ q, A q → zB E q) (hS : va_S A s.heap H locs) (hP : va_P E.1 vwCl (X ++ zPl E S) H) (hD : va_D A (X ++ zPl E S)) :
    PreS s H (va_Pc av (fun U => U.heap.size = H.size ∧ zK E U ∧ va_P E.1 vwCl (zPl E S) U.heap ∧ va_D (zB E) (zPl E S))) av := by
  have hl : ∀ (j : Nat) (q : Nat × va_E), (zPl E S)[j]? = some q → (X ++ zPl E S)[X.length + j]? = some q := fun j q h => by
    rw [List.getElem?_append_right (by omega), Nat.add_sub_cancel_left]; exact h
  refine ⟨fun a U g mk q => ?_, fun U hU hW => ⟨rfl, by rw [hU], K.next hW hU hS h2, by rw [hU]; exact fun j q hj => hP _ q (hl j q hj), ⟨fun i j p q hi hj e => by have := hD.1 _ _ p q (hl i p hi) (hl j q hj) e; omega, fun j q hj => h2 _ (hD.2 _ q (hl j q hj))⟩⟩⟩
  obtain ⟨q0, q1, q2, q3, q4⟩ := q
  exact ⟨q0, q1, q2.calling, q3, q4⟩
theorem z_callS {y : MethodName} {cc' : ByteArray} {nL' np idx : Nat} {ret' : Option FieldType} {rm' : Room} {av stk : List Value} {Qc : Option Value → zS → Prop} {XCc : String → zS → Prop} (hM : zM E y cc' nL' ret' rm' av S Qc XCc)
    (hw1 : Cond.code y cc' nL' ret' ∈ zW) (hw2 : Cond.methodLink I.1 idx y ∈ zW) (hw3 : Cond.static y ∈ zW) (hw4 : Cond.initialized y.cls ∈ zW)
    (hy : y.cls ≠ "java/lang/invoke/MethodHandle" ∧ y.cls ≠ "java/lang/invoke/VarHandle" ∧ (parseMethodDescriptor y.desc).map (fun d => d.parameters.length) = some np) (hav : av.length = np) (hsk : stk = av.reverse ++ st)
    (hR : rm'.frames + 1 ≤ R.frames ∧ 8 + (nL' + 11) + rm'.locals ≤ R.locals) (hf : k + rm'.cells ≤ R.cells ∧ n + rm'.slots ≤ R.slots) (h8 : (st.map fun v => v.category).sum ≤ 8)
    (hd : decode I.2.1 pc = .ok (.invokestatic idx, 3))
    (kx : ∀ ex S', XCc ex S' → zJx E I R Q XC pc lv X S' (k + rm'.cells) (n + rm'.slots) ex)
    (kk : ∀ v S', Qc v S' → zJ E I R Q XC (pc + 3) lv (v.toList ++ st) X S' (k + rm'.cells) (n + rm'.slots)) : zJ E I R Q XC pc lv stk X S k n := by
  intro p e s m args below meth c0 H locs ls A C0 K h1 h2 hS hP hD hl
  have hts := C0.2.2.2.2.2.1
  exact z_after (vx_runS (As := av) (rest := st) ⟨C0.1, C0.2.1, C0.2.2.1, C0.2.2.2.2.1, hts⟩ (hM H.size) ⟨callB_of np hts (zG hw1) rfl rfl rfl (hts _ hw4) (hts _ hw2) hy hR, hts _ hw3⟩ (z_pre K h2 hS hP hD) rfl hav hl.1 hsk (lv_room h8) hd hf) kx kk C0 K h1 h2 hS hP hD hl
theorem z_callV {y : MethodName} {cc' : ByteArray} {nL' np idx b ci N : Nat} {C : String} {T : u_T} {ret' : Option FieldType} {rm' : Room} {av stk : List Value} {Qc : Option Value → zS → Prop} {XCc : String → zS → Prop} (hM : zM E y cc' nL' ret' rm' (.ref b :: av) S Qc XCc)
    (hb : b ∈ gL S) (hKb : gK S b = ci) (hci : ci < 12) (hcl : vwCl[ci]? = some (C, T, N))
    (hw1 : Cond.code y cc' nL' ret' ∈ zW) (hw2 : Cond.methodLink I.1 idx y ∈ zW) (hw3 : Cond.instanceMethod y ∈ zW) (hw5 : Cond.selects C y y ∈ zW) (hw4 : Cond.initialized y.cls ∈ zW)
    (hy : y.cls ≠ "java/lang/invoke/MethodHandle" ∧ y.cls ≠ "java/lang/invoke/VarHandle" ∧ (parseMethodDescriptor y.desc).map (fun d => d.parameters.length) = some np) (hav : av.length = np) (hsk : stk = av.reverse ++ .ref b :: st)
    (hR : rm'.frames + 1 ≤ R.frames ∧ 8 + (nL' + 11) + rm'.locals ≤ R.locals) (hf : k + rm'.cells ≤ R.cells ∧ n + rm'.slots ≤ R.slots) (h8 : (st.map fun v => v.category).sum ≤ 8)
    (hd : decode I.2.1 pc = .ok (.invokevirtual idx, 3))
    (kx : ∀ ex S', XCc ex S' → zJx E I R Q XC pc lv X S' (k + rm'.cells) (n + rm'.slots) ex)
    (kk : ∀ v S', Qc v S' → zJ E I R Q XC (pc + 3) lv (v.toList ++ st) X S' (k + rm'.cells) (n + rm'.slots)) : zJ E I R Q XC pc lv stk X S k n := by
  intro p e s m args below meth c0 H locs ls A C0 K h1 h2 hS hP hD hl
  have hts := C0.2.2.2.2.2.1
  obtain ⟨q0, hq⟩ := zGot (E := E) (X := X) hb
  rw [zC_obj hKb hci] at hq
  have hpre := z_pre (av := .ref b :: av) K h2 hS hP hD
  exact z_after (vx_runV (As := av) (rest := st) (C := C) ⟨C0.1, C0.2.1, C0.2.2.1, C0.2.2.2.2.1, hts⟩ (hM H.size) ⟨callB_of np hts (zG hw1) rfl rfl rfl (hts _ hw4) (hts _ hw2) hy hR, hts _ hw3, hts _ hw5⟩ ⟨hpre.1, va_recv K.1 hP hcl hq, hpre.2⟩ rfl hav hl.1 hsk (lv_room h8) hd hf) kx kk C0 K h1 h2 hS hP hD hl
theorem z_callI {y : MethodName} {cc' : ByteArray} {nL' np idx b : Nat} {rm' : Room} {av stk : List Value} {Qc : Option Value → zS → Prop} {XCc : String → zS → Prop} (hM : zM E y cc' nL' none rm' (.ref b :: av) S Qc XCc)
    (hw1 : Cond.code y cc' nL' none ∈ zW) (hw2 : Cond.methodLink I.1 idx y ∈ zW) (hw3 : Cond.instanceMethod y ∈ zW) (hw4 : Cond.initialized y.cls ∈ zW) (hy1 : y.name = "<init>")
    (hy : y.cls ≠ "java/lang/invoke/MethodHandle" ∧ y.cls ≠ "java/lang/invoke/VarHandle" ∧ (parseMethodDescriptor y.desc).map (fun d => d.parameters.length) = some np) (hav : av.length = np) (hsk : stk = av.reverse ++ .ref b :: st)
    (hR : rm'.frames + 1 ≤ R.frames ∧ 8 + (nL' + 11) + rm'.locals ≤ R.locals) (hf : k + rm'.cells ≤ R.cells ∧ n + rm'.slots ≤ R.slots) (h8 : (st.map fun v => v.category).sum ≤ 8)
    (hd : decode I.2.1 pc = .ok (.invokespecial idx, 3))
    (kx : ∀ ex S', XCc ex S' → zJx E I R Q XC pc lv X S' (k + rm'.cells) (n + rm'.slots) ex)
    (kk : ∀ v S', Qc v S' → zJ E I R Q XC (pc + 3) lv (v.toList ++ st) X S' (k + rm'.cells) (n + rm'.slots)) : zJ E I R Q XC pc lv stk X S k n := by
  intro p e s m args below meth c0 H locs ls A C0 K h1 h2 hS hP hD hl
  have hts := C0.2.2.2.2.2.1
  exact z_after (vx_runI (As := av) (rest := st) ⟨C0.1, C0.2.1, C0.2.2.1, C0.2.2.2.2.1, hts⟩ (hM H.size) ⟨callB_of np hts (zG hw1) rfl rfl rfl (hts _ hw4) (hts _ hw2) hy hR, hy1, hts _ hw3⟩ (z_pre K h2 hS hP hD) rfl hav hl.1 hsk (lv_room h8) hd hf) kx kk C0 K h1 h2 hS hP hD hl
end ZC
/-- a contract out of the walk of a body -/
theorem zM_of {E : zE} {y : MethodName} {cc : ByteArray} {nL : Nat} {ret : Option FieldType} {rm : Room} {av : List Value} {S : zS} {Q : Option Value → zS → Prop} {XC : String → zS → Prop} (own : String) (ini : Bool) (hy : plainName y.cls = true) (ho : y.cls = own) (hini : ini = true → y.name = "<init>") (hlen : (lg_sl av).length ≤ nL)
    (body : zJ E (own, cc, nL, ret, ini, [], zTr) rm (zq Q) (zx XC) 0 (lv_args 0 av) [] [] S 0 0) : zM E y cc nL ret rm av S Q XC := by
  intro sz
  refine vx_ofW (cc := cc) (maxL := nL) (ret := ret) hy rfl ?_
  intro p e s m args below meth c s₁ B hml htab hv
  obtain ⟨rfl, hsz, K, hP, hD⟩ := hv
  have hts := atoms_spec (ws := .code y cc nL ret :: zW) B.pre
  have hl := lv_entry av (n := nL) hlen
  rw [lg_entry_eq]
  subst hsz
  refine body p e s m av.toArray below meth c s.heap [] _ (va_A (zPl E S) s.heap.size) ⟨B.exec, B.bytes, hml, B.returns, by rw [← ho]; exact findClass_of_methodNamed B.named, fun w hw => hts w (List.mem_cons_of_mem _ hw), B.notSynchronized, fun h => ?_, ?_, trivial⟩ K (fun q h => Or.inr h) (fun q h => ?_) va_S.rf hP hD.self hl
  · have h1 := (name_of_methodNamed B.named B.method).1
    rw [h1]
    exact hini h
  · cases ht : c.exceptionTable.toList with
    | nil => rfl
    | cons a l => exact absurd (htab a (by rw [ht]; exact List.mem_cons_self)) (fun h => h)
  · rcases h with ⟨j, e9, hj⟩ | h
    · exact hD.2 j _ hj
    · exact Nat.le_trans K.2.2.2.2.2.2.2.2.2.2.1 h
/-- a weaker end -/
theorem zM_mono {E : zE} {y : MethodName} {cc : ByteArray} {nL : Nat} {ret : Option FieldType} {rm : Room} {av : List Value} {S : zS} {Q Q' : Option Value → zS → Prop} {XC XC' : String → zS → Prop} (h : zM E y cc nL ret rm av S Q XC) (hq : ∀ v S', Q v S' → Q' v S') (hx : ∀ ex S', XC ex S' → XC' ex S') : zM E y cc nL ret rm av S Q' XC' := by
  intro sz
  intro p e h1 h2 h3 s m args below h4 h5 h6 h7
  obtain ⟨n, o, a1, a2, a3, a4⟩ := h sz p e h1 h2 h3 s m args below h4 h5 h6 h7
  refine ⟨n, o, a1, a2, a3, ?_⟩
  rcases a4 with ⟨⟨v, X, S', e1, ⟨e2, e3⟩, r⟩, fe⟩ | ⟨q, e1, ex, ce, L, ⟨X, S', ⟨e2, e3⟩, r⟩, rr⟩
  · exact Or.inl ⟨⟨v, X, S', e1, ⟨e2, hq v S' e3⟩, r⟩, fe⟩
  · exact Or.inr ⟨q, e1, ex, ce, L, ⟨X, S', ⟨e2, hx ex S' e3⟩, r⟩, rr⟩
