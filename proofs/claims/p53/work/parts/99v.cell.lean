/-! the law's cell: an int of the script -/
theorem lw_w1 : Cond.code yL_cell cL_cell 2 (some .int) ∈ zW ∧ Cond.methodLink RL 375 yL_cell ∈ zW ∧ Cond.static yL_cell ∈ zW ∧ Cond.constant RL 7 1205455335 ∈ zW := ⟨zW_in 309 (by decide +kernel) rfl, zW_in 307 (by decide +kernel) rfl, zW_in 308 (by decide +kernel) rfl, zW_in 310 (by decide +kernel) rfl⟩
set_option maxRecDepth 100000 in
theorem lw_w2 : Cond.code yL_methods cL_methods 19 (some .boolean) ∈ zW ∧ Cond.methodLink RL 378 yL_methods ∈ zW ∧ Cond.static yL_methods ∈ zW := ⟨zW_in 316 rfl rfl, zW_in 314 (by decide +kernel) rfl, zW_in 315 (by decide +kernel) rfl⟩
set_option maxRecDepth 100000 in
theorem lw_w3 : Cond.code yL_bells cL_bells 16 (some .boolean) ∈ zW ∧ Cond.methodLink RL 382 yL_bells ∈ zW ∧ Cond.static yL_bells ∈ zW := ⟨zW_in 844 rfl rfl, zW_in 842 (by decide +kernel) rfl, zW_in 843 (by decide +kernel) rfl⟩
set_option maxRecDepth 100000 in
theorem lw_w4 : Cond.code yL_rings cL_rings 27 (some .boolean) ∈ zW ∧ Cond.methodLink RL 386 yL_rings ∈ zW ∧ Cond.static yL_rings ∈ zW := ⟨zW_in 946 rfl rfl, zW_in 944 (by decide +kernel) rfl, zW_in 945 (by decide +kernel) rfl⟩
set_option maxRecDepth 100000 in
theorem lw_w5 : Cond.code yL_isTold cL_isTold 19 (some .boolean) ∈ zW ∧ Cond.methodLink RL 371 yL_isTold ∈ zW ∧ Cond.static yL_isTold ∈ zW := ⟨zW_in 1156 rfl rfl, zW_in 1154 (by decide +kernel) rfl, zW_in 1155 (by decide +kernel) rfl⟩
theorem lw_w6 : Cond.classLink RL 9 RX10 ∈ zW ∧ Cond.instantiable RX10 14 ∈ zW ∧ Cond.initialized RX10 ∈ zW ∧ Cond.methodLink RL 370 yX10_init ∈ zW ∧ Cond.instanceMethod yX10_init ∈ zW ∧ Cond.code yX10_init cX10_init 1 none ∈ zW ∧ Cond.arrayClass .long ∈ zW ∧ Cond.arrayClass .int ∈ zW := ⟨zW_in 57 (by decide +kernel) rfl, zW_in 58 (by decide +kernel) rfl, zW_in 30 (by decide +kernel) rfl, zW_in 59 (by decide +kernel) rfl, zW_in 60 (by decide +kernel) rfl, zW_in 61 (by decide +kernel) rfl, zW_in 1362 (by decide +kernel) rfl, zW_in 101 (by decide +kernel) rfl⟩
theorem lw_y1 : yL_cell.cls ≠ "java/lang/invoke/MethodHandle" ∧ yL_cell.cls ≠ "java/lang/invoke/VarHandle" ∧ (parseMethodDescriptor yL_cell.desc).map (fun d => d.parameters.length) = some 2 := by decide +kernel
theorem lw_y2 : yL_methods.cls ≠ "java/lang/invoke/MethodHandle" ∧ yL_methods.cls ≠ "java/lang/invoke/VarHandle" ∧ (parseMethodDescriptor yL_methods.desc).map (fun d => d.parameters.length) = some 10 := by decide +kernel
theorem lw_y3 : yL_bells.cls ≠ "java/lang/invoke/MethodHandle" ∧ yL_bells.cls ≠ "java/lang/invoke/VarHandle" ∧ (parseMethodDescriptor yL_bells.desc).map (fun d => d.parameters.length) = some 12 := by decide +kernel
theorem lw_y4 : yL_rings.cls ≠ "java/lang/invoke/MethodHandle" ∧ yL_rings.cls ≠ "java/lang/invoke/VarHandle" ∧ (parseMethodDescriptor yL_rings.desc).map (fun d => d.parameters.length) = some 15 := by decide +kernel
theorem lw_y5 : yL_isTold.cls ≠ "java/lang/invoke/MethodHandle" ∧ yL_isTold.cls ≠ "java/lang/invoke/VarHandle" ∧ (parseMethodDescriptor yL_isTold.desc).map (fun d => d.parameters.length) = some 13 := by decide +kernel
def zMC (E : zE) (b L : Nat) (xs : Nat → Int32) (y : MethodName) (cc : ByteArray) (nL : Nat) (ret : Option FieldType) (rm : Room) (av : List Value) (X : va_W) (S : zS) (Q : Option Value → va_W → zS → Prop) : Prop :=
  ∀ sz : Nat, vx_Met E.2.2.1 y (.code y cc nL ret :: zW) rm (va_Pc av (fun U => U.heap.size = sz ∧ zK E U ∧ zScr E b L xs U ∧ va_P E.1 vwCl (X ++ zPl E S) U.heap ∧ va_D (zB E) (X ++ zPl E S)))
    (zQr E (va_A (X ++ zPl E S) sz) Q) (zQx E (va_A (X ++ zPl E S) sz) (fun _ _ _ => False)) rm.cells rm.slots (va_A (X ++ zPl E S) sz)
theorem zMC_of {E : zE} {b L : Nat} {xs : Nat → Int32} {y : MethodName} {cc : ByteArray} {nL : Nat} {ret : Option FieldType} {rm : Room} {av : List Value} {X : va_W} {S : zS} {Q : Option Value → va_W → zS → Prop} (own : String) (hy : plainName y.cls = true) (ho : y.cls = own) (hlen : (lg_sl av).length ≤ nL)
    (body : zJ E (own, cc, nL, ret, false, [], zScr E b L xs) rm Q (fun _ _ _ => False) 0 (lv_args 0 av) [] X S 0 0) : zMC E b L xs y cc nL ret rm av X S Q := by
  intro sz
  refine vx_ofW (cc := cc) (maxL := nL) (ret := ret) hy rfl ?_
  intro p e s m args below meth c s₁ B hml htab hv
  obtain ⟨rfl, hsz, K, hsc, hP, hD⟩ := hv
  have hts := atoms_spec (ws := .code y cc nL ret :: zW) B.pre
  have hl := lv_entry av (n := nL) hlen
  rw [lg_entry_eq]
  subst hsz
  refine body p e s m av.toArray below meth c s.heap [] _ (va_A (X ++ zPl E S) s.heap.size) ⟨B.exec, B.bytes, hml, B.returns, by rw [← ho]; exact findClass_of_methodNamed B.named, fun w hw => hts w (List.mem_cons_of_mem _ hw), B.notSynchronized, fun h => (by cases h), ?_, hsc⟩ K (fun q h => Or.inr h) (fun q h => ?_) va_S.rf hP hD.self hl
  · cases ht : c.exceptionTable.toList with
    | nil => rfl
    | cons a l => exact absurd (htab a (by rw [ht]; exact List.mem_cons_self)) (fun h => h)
  · rcases h with ⟨j, e9, hj⟩ | h
    · exact hD.2 j _ hj
    · exact Nat.le_trans K.2.2.2.2.2.2.2.2.2.2.1 h
section ZCC
variable {E : zE} {I : zI} {R : Room} {Q : Option Value → va_W → zS → Prop} {XC : String → va_W → zS → Prop} {pc : Nat} {lv : List (Nat × Value)} {st : List Value} {X : va_W} {S : zS} {k n : Nat}
theorem z_callC {b L : Nat} {xs : Nat → Int32} {y : MethodName} {cc' : ByteArray} {nL' np idx : Nat} {ret' : Option FieldType} {rm' : Room} {av stk : List Value} {Y X1 : va_W} {Qc : Option Value → va_W → zS → Prop} (hI : I.2.2.2.2.2.2 = zScr E b L xs) (hM : zMC E b L xs y cc' nL' ret' rm' av X1 S Qc)
    (hw1 : Cond.code y cc' nL' ret' ∈ zW) (hw2 : Cond.methodLink I.1 idx y ∈ zW) (hw3 : Cond.static y ∈ zW) (hw4 : Cond.initialized y.cls ∈ zW)
    (hy : y.cls ≠ "java/lang/invoke/MethodHandle" ∧ y.cls ≠ "java/lang/invoke/VarHandle" ∧ (parseMethodDescriptor y.desc).map (fun d => d.parameters.length) = some np) (hav : av.length = np) (hsk : stk = av.reverse ++ st)
    (hR : rm'.frames + 1 ≤ R.frames ∧ 8 + (nL' + 11) + rm'.locals ≤ R.locals) (hf : k + rm'.cells ≤ R.cells ∧ n + rm'.slots ≤ R.slots) (h8 : (st.map fun v => v.category).sum ≤ 8)
    (hd : decode I.2.1 pc = .ok (.invokestatic idx, 3))
    (kk : ∀ v X' S', Qc v X' S' → zJ E I R Q XC (pc + 3) lv (v.toList ++ st) (Y ++ X') S' (k + rm'.cells) (n + rm'.slots)) : zJ E I R Q XC pc lv stk (Y ++ X1) S k n := by
  intro p e s m args below meth c0 H locs ls A C0 K h1 h2 hS hP hD hl
  have hts := C0.2.2.2.2.2.1
  have hx := C0.2.2.2.2.2.2.2.2.2
  rw [hI] at hx
  refine z_aft (vx_runS (As := av) (rest := st) ⟨C0.1, C0.2.1, C0.2.2.1, C0.2.2.2.2.1, hts⟩ (hM H.size) ⟨callB_of np hts (zG hw1) rfl rfl rfl (hts _ hw4) (hts _ hw2) hy hR, hts _ hw3⟩ ?_ rfl hav hl.1 hsk (lv_room h8) hd hf) kk C0 K h1 h2 hS hP hD hl
  have hlX : ∀ (j : Nat) (q : Nat × va_E), (X1 ++ zPl E S)[j]? = some q → ((Y ++ X1) ++ zPl E S)[Y.length + j]? = some q := fun j q h => by
    rw [List.append_assoc, List.getElem?_append_right (by omega), Nat.add_sub_cancel_left]; exact h
  have nA : ¬ A b := fun z => by have := h2 b z; unfold zB at this; have := hx.2.2; omega
  refine ⟨fun a U g mk q => ?_, fun U hU hW => ⟨rfl, by rw [hU], K.next hW hU hS h2, ⟨(va_X.kept (H1 := U.heap) hx.1 (by rw [hU]; exact hS.2.1 b hx.2.1 nA)).moved hW.alike, by rw [hU]; exact Nat.lt_of_lt_of_le hx.2.1 hS.1, hx.2.2⟩, by rw [hU]; exact fun j q hj => hP _ q (hlX j q hj), ⟨fun i j p q hi hj e => by have := hD.1 _ _ p q (hlX i p hi) (hlX j q hj) e; omega, fun j q hj => h2 _ (hD.2 _ q (hlX j q hj))⟩⟩⟩
  obtain ⟨q0, q1, q2, q3, q4⟩ := q
  exact ⟨q0, q1, q2.calling, q3, q4⟩
end ZCC
theorem w_L_cell {E : zE} {b L j : Nat} {xs : Nat → Int32} {S : zS} (hL : L < 2 ^ 31) (hj : j < 2 ^ 31) : zMC E b L xs yL_cell cL_cell 2 (some .int) ({ frames := 0, cells := 0, slots := 0, locals := 0 } : Room) [.ref b, .int (nI j)] [] S (fun v X' S' => ∃ r, v = some (.int r) ∧ X' = [] ∧ S' = S) := by
  refine zMC_of RL (by decide) rfl (Nat.le_of_ble_eq_true rfl) ?_
  refine z_iload_n 1 dL_cell_0 rfl rfl ?_
  refine z_aload_n 0 dL_cell_1 rfl rfl ?_
  refine z_slen rfl dL_cell_2 ?_
  refine z_icmp_ge 12 dL_cell_3 (by decide) (fun c => ?_) (fun c => ?_)
  · refine z_ldc (v := 1205455335) lw_w1.2.2.2 dL_cell_12 ?_
    refine z_iload_n 1 dL_cell_14 rfl rfl ?_
    refine z_iconst (v := 5) dL_cell_15 rfl ?_
    refine z_iadd dL_cell_16 ?_
    refine z_imul dL_cell_17 ?_
    exact z_ireturn ⟨_, rfl, rfl, rfl⟩ rfl (Nat.le_of_ble_eq_true rfl) (Nat.le_of_ble_eq_true rfl) dL_cell_18
  · have hlt : j < L := (pk_le (A := True) (B := j < L) L j (fun _ => trivial) (fun h => h)).2 c
    refine z_aload_n 0 dL_cell_6 rfl rfl ?_
    refine z_iload_n 1 dL_cell_7 rfl rfl ?_
    refine z_sld rfl rfl hlt hL dL_cell_8 ?_
    refine z_goto 18 dL_cell_9 (by decide) ?_
    exact z_ireturn ⟨_, rfl, rfl, rfl⟩ rfl (Nat.le_of_ble_eq_true rfl) (Nat.le_of_ble_eq_true rfl) dL_cell_18
theorem zy_X10_init : yX10_init.cls ≠ "java/lang/invoke/MethodHandle" ∧ yX10_init.cls ≠ "java/lang/invoke/VarHandle" ∧ (parseMethodDescriptor yX10_init.desc).map (fun d => d.parameters.length) = some 0 := by decide +kernel
/-- the law's arrays as they are made -/
def RAp (k0 : Nat) (aa : Nat → Nat) (S : zS) : Prop :=
  (∀ k, k < k0 → (aa k ∈ gL S ∧ gK S (aa k) = la_k k) ∧ gN S (aa k) = la_n k) ∧ (∀ j k, j < k0 → k < k0 → aa j = aa k → j = k) ∧
  (∀ k, k < k0 → ∀ i, gA S (aa k) i = 0) ∧ (∀ k, k < k0 → ∀ i, gJ S (aa k) i = 0)
theorem RAp.s {k0 q : Nat} {aa : Nat → Nat} {S : zS} (h : RAp k0 aa S) (hq : q ∉ gL S) : RAp (k0 + 1) (fun k => if k = k0 then q else aa k) (nA S q (la_k k0) (la_n k0)) := by
  have ne : ∀ k, k < k0 → aa k ≠ q := fun k hk e => hq (e ▸ (h.1 k hk).1.1)
  have cs : ∀ k, k < k0 + 1 → k = k0 ∨ k < k0 := fun k hk => by omega
  refine ⟨fun k hk => ?_, fun j k hj hk e => ?_, fun k hk i => ?_, fun k hk i => ?_⟩
  · rcases cs k hk with rfl | hk'
    · show ((if k = k then q else aa k) ∈ gL _ ∧ gK _ (if k = k then q else aa k) = _) ∧ gN _ (if k = k then q else aa k) = _
      rw [if_pos rfl, gL_nA, gK_nA, gN_nA]
      exact ⟨⟨List.mem_append_right _ List.mem_cons_self, if_pos rfl⟩, if_pos rfl⟩
    · show ((if k = k0 then q else aa k) ∈ gL _ ∧ gK _ (if k = k0 then q else aa k) = _) ∧ gN _ (if k = k0 then q else aa k) = _
      rw [if_neg (by omega), gL_nA, gK_nA, gN_nA]
      have w := h.1 k hk'
      refine ⟨⟨List.mem_append_left _ w.1.1, ?_⟩, ?_⟩
      · show (if aa k = q then _ else _) = _
        rw [if_neg (ne k hk')]
        exact w.1.2
      · show (if aa k = q then _ else _) = _
        rw [if_neg (ne k hk')]
        exact w.2
  · have e : (if j = k0 then q else aa j) = (if k = k0 then q else aa k) := e
    rcases cs j hj with rfl | hj' <;> rcases cs k hk with rfl | hk'
    · rfl
    · rw [if_pos rfl, if_neg (by omega)] at e
      exact absurd e.symm (ne k hk')
    · rw [if_neg (by omega), if_pos rfl] at e
      exact absurd e (ne j hj')
    · rw [if_neg (by omega), if_neg (by omega)] at e
      exact h.2.1 j k hj' hk' e
  · show gA _ (if k = k0 then q else aa k) i = 0
    rw [gA_nA]
    rcases cs k hk with rfl | hk'
    · rw [if_pos rfl, if_pos rfl]
    · rw [if_neg (show ¬ k = k0 by omega), if_neg (ne k hk')]
      exact h.2.2.1 k hk' i
  · show gJ _ (if k = k0 then q else aa k) i = 0
    rw [gJ_nA]
    rcases cs k hk with rfl | hk'
    · rw [if_pos rfl, if_pos rfl]
    · rw [if_neg (show ¬ k = k0 by omega), if_neg (ne k hk')]
      exact h.2.2.2 k hk' i
theorem RAp.z : RAp 0 (fun _ => 0) zS0 := ⟨fun k hk => absurd hk (Nat.not_lt_zero k), fun j k hj => absurd hj (Nat.not_lt_zero j), fun k hk => absurd hk (Nat.not_lt_zero k), fun k hk => absurd hk (Nat.not_lt_zero k)⟩
def L0 : zZ := fun _ _ => 0
theorem RAp.e {aa : Nat → Nat} {S : zS} (h : RAp 11 aa S) : RA aa L0 S := ⟨h.1, h.2.1, fun k hk _ i => h.2.2.1 k hk i, fun k hk _ i => h.2.2.2 k hk i⟩
/-- the law's arrays when it has begun -/
def L1 : zZ := up (up (up (up (up L0 10 12 200) 5 0 6) 5 1 6) 5 2 6) 5 3 6
theorem LZ_I : LZ L1 ZI := by
  refine ⟨⟨rfl, Nat.zero_le _, fun i hi => absurd hi (Nat.not_lt_zero i)⟩, ⟨rfl, Nat.zero_le _, fun i hi => absurd hi (Nat.not_lt_zero i)⟩, fun d _ hd => rfl, fun i hi => rfl, fun i hi => ?_, fun i hi => ?_, fun i hi => ⟨rfl, rfl⟩, fun i hi => rfl, fun b q hb hq => ?_, ⟨rfl, rfl, rfl, Or.inl ⟨rfl, (by decide : nI 4294967295 = -1)⟩, rfl, rfl, rfl, Or.inl ⟨rfl, (by decide : nI 4294967295 = -1)⟩⟩, ⟨rfl, rfl, fun x => ?_⟩, ⟨rfl, Nat.zero_le _, rfl, rfl, Nat.zero_le _, rfl⟩⟩
  · rfl
  · match i, hi with
    | 0, _ => rfl
    | 1, _ => rfl
    | 2, _ => rfl
    | 3, _ => rfl
    | i + 4, h => omega
  · rfl
  · have : (0 : Nat) = 1 := x
    cases this
theorem NB_I : NB ZI := NB.off rfl
