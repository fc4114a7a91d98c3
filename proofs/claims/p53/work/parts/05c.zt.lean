/-! throws of the class's own -/
def zNm : List String := ["java/lang/RuntimeException", "java/lang/Exception"]
def zAt (ic : Nat) (cls : String) : Prop := (∀ w ∈ (vx_atS RX10 ic cls zNm).filter goodWord, w ∈ lw_tbl) ∧ (∀ w ∈ (vx_atS RX10 ic cls zNm).filter (fun w => !goodWord w), w ∈ zXs.map (fun q => Cond.castable q q) ++ zDs.map (fun q => Cond.declares ⟨q, "<init>", "(Ljava/lang/String;)V"⟩)) ∧ (∀ w ∈ vx_atS RX10 ic cls zNm, vx_ot w = true) ∧ Bundle.fit cls = true
theorem zat_78 : zAt 78 "java/lang/IllegalStateException" := ⟨by decide +kernel, by decide +kernel, by decide +kernel, by decide +kernel⟩
theorem zat_117 : zAt 117 "java/lang/IllegalArgumentException" := ⟨by decide +kernel, by decide +kernel, by decide +kernel, by decide +kernel⟩
theorem zat_146 : zAt 146 "java/lang/IndexOutOfBoundsException" := ⟨by decide +kernel, by decide +kernel, by decide +kernel, by decide +kernel⟩
theorem zNm_fit : ∀ n ∈ zNm, Bundle.fit n = true := by decide +kernel
section ZT
variable {E : zE} {I : zI} {R : Room} {Q : Option Value → va_W → zS → Prop} {XC : String → va_W → zS → Prop} {pc : Nat} {lv : List (Nat × Value)} {st : List Value} {X : va_W} {S : zS} {k n : Nat}
theorem z_atw {ic : Nat} {cls : String} {args : Array Value} {s : State} (hat : zAt ic cls) (hts : ∀ w ∈ zW, w.before args s = true) (K : zK E s) : ∀ w ∈ vx_atS RX10 ic cls zNm, w.before args s = true := by
  refine vx_hat (fun w hw => hts w (List.mem_filter.mpr ⟨hat.1 w hw, (List.mem_filter.mp hw).2⟩)) hat.2.1 (fun w hw => ?_)
  rcases List.mem_append.mp hw with hw | hw
  · obtain ⟨q, hq, rfl⟩ := List.mem_map.mp hw
    exact va_Nw.use rfl (K.2.2.2.1.1 q hq)
  · obtain ⟨q, hq, rfl⟩ := List.mem_map.mp hw
    exact va_Nw.use rfl (K.2.2.2.1.2 q hq)
theorem z_xq {cls : String} {s : State} {H : Heap} {locs : List Loc} {A : Nat → Prop} (hx : XC cls X S) (hS : va_S A s.heap H locs) (hP : va_P E.1 vwCl (X ++ zPl E S) H) (hD : va_D A (X ++ zPl E S)) : ∀ t : State, s.vm.Alike t.vm → H.size ≤ t.heap.size → (∀ q : Nat, q < H.size → t.heap[q]? = H[q]?) → zQx E A XC cls s t :=
  fun t _ h1 h2 => ⟨X, S, hx, hP.kept (fun j q hq => h2 q.1 (hP j q hq).lt), hD, Nat.le_trans hS.1 h1, fun q g1 g2 => (h2 q (Nat.lt_of_lt_of_le g1 hS.1)).trans (hS.2.1 q g1 g2)⟩
theorem z_throw {cls text : String} {ik is ic : Nat} (hk : Cond.classLink I.1 ik cls ∈ zW) (hi : Cond.initialized cls ∈ zW) (hat : zAt ic cls) (hstr : (is, text) ∈ zStr) (how : I.1 = RX10)
    (d0 : decode I.2.1 pc = .ok (.new ik, 3)) (d3 : decode I.2.1 (pc + 3) = .ok (.dup, 1)) (d4 : decode I.2.1 (pc + 4) = .ok (.ldc is, 2)) (d6 : decode I.2.1 (pc + 6) = .ok (.invokespecial ic, 3)) (d9 : decode I.2.1 (pc + 9) = .ok (.athrow, 1)) (htab : I.2.2.2.2.2.1 = [])
    (hf : 5 < R.frames) (hl9 : (st.map fun v => v.category).sum + 82 ≤ R.locals) (hc : k + 1 ≤ R.cells) (hs : n + 6 ≤ R.slots) (hx : XC cls X S) : zJ E I R Q XC pc lv st X S k n := by
  intro p e s m args below meth c H locs ls A C0 K h1 h2 hS hP hD hl
  have hts := C0.2.2.2.2.2.1
  obtain ⟨a1, a2, a3, a4, a5, a6, a7, a8, -, -, -, a12⟩ := id K
  have hk' : Cond.classLink RX10 ik cls ∈ zW := how ▸ hk
  exact vx_throwS (own := RX10) (cls := cls) (text := text) (names := zNm) C0.1 C0.2.1 a12 (how ▸ C0.2.2.2.2.1) hat.2.2.2 zNm_fit (hts _ hk') (hts _ hi) (a6 _ hstr) (z_atw hat hts K) (fun w hw => by
    rcases List.mem_cons.mp hw with h | hw
    · subst h; rfl
    · rcases List.mem_cons.mp hw with h | hw
      · subst h; rfl
      · exact hat.2.2.1 w hw) (vx_Zq.narrow a7 h2) (vx_Zq.narrow a8 h2) hS (hl.1.trans C0.2.2.1.symm) d0 d3 d4 d6 d9 (fun x hx => by rw [C0.2.2.2.2.2.2.2.2.1, htab] at hx; cases hx) hf hl9 hc hs C0.2.2.2.2.2.2.1 (z_xq hx hS hP hD) hS.2.2 hc hs
theorem z_throwW {cls text : String} {ik is ic : Nat} (hk : Cond.classLink I.1 ik cls ∈ zW) (hi : Cond.initialized cls ∈ zW) (hat : zAt ic cls) (hstr : (is, text) ∈ zStr) (how : I.1 = RX10)
    (d0 : decode I.2.1 pc = .ok (.new ik, 3)) (d3 : decode I.2.1 (pc + 3) = .ok (.dup, 1)) (d4 : decode I.2.1 (pc + 4) = .ok (.ldc_w is, 3)) (d6 : decode I.2.1 (pc + 7) = .ok (.invokespecial ic, 3)) (d9 : decode I.2.1 (pc + 10) = .ok (.athrow, 1)) (htab : I.2.2.2.2.2.1 = [])
    (hf : 5 < R.frames) (hl9 : (st.map fun v => v.category).sum + 82 ≤ R.locals) (hc : k + 1 ≤ R.cells) (hs : n + 6 ≤ R.slots) (hx : XC cls X S) : zJ E I R Q XC pc lv st X S k n := by
  intro p e s m args below meth c H locs ls A C0 K h1 h2 hS hP hD hl
  have hts := C0.2.2.2.2.2.1
  obtain ⟨a1, a2, a3, a4, a5, a6, a7, a8, -, -, -, a12⟩ := id K
  have hk' : Cond.classLink RX10 ik cls ∈ zW := how ▸ hk
  exact vx_throwSW (own := RX10) (cls := cls) (text := text) (names := zNm) C0.1 C0.2.1 a12 (how ▸ C0.2.2.2.2.1) hat.2.2.2 zNm_fit (hts _ hk') (hts _ hi) (a6 _ hstr) (z_atw hat hts K) (fun w hw => by
    rcases List.mem_cons.mp hw with h | hw
    · subst h; rfl
    · rcases List.mem_cons.mp hw with h | hw
      · subst h; rfl
      · exact hat.2.2.1 w hw) (vx_Zq.narrow a7 h2) (vx_Zq.narrow a8 h2) hS (hl.1.trans C0.2.2.1.symm) d0 d3 d4 d6 d9 (fun x hx => by rw [C0.2.2.2.2.2.2.2.2.1, htab] at hx; cases hx) hf hl9 hc hs C0.2.2.2.2.2.2.1 (z_xq hx hS hP hD) hS.2.2 hc hs
end ZT
