abbrev st_fl : List Cond := flatC (Jvm.Cond.and given_1 narrow_1)
theorem st_str : ∀ q ∈ zStr, Cond.exactly (.string RX10 q.1) "java/lang/String" ∈ st_fl := by decide +kernel
theorem st_str2 : ∀ q ∈ zStr, Cond.stringRef RX10 q.1 q.2 ∈ lw_tbl := by decide +kernel
theorem st_str0 : ∀ q ∈ zStr, q.1 ≠ 0 := by decide +kernel
theorem st_nc : ∀ q ∈ zXs, ∀ r ∈ zXs, q ≠ r → Cond.not (.castable q r) ∈ st_fl := by decide +kernel
theorem st_cs : ∀ q ∈ zXs, Cond.castable q q ∈ lw_tbl := by decide +kernel
theorem st_cs2 : ∀ q ∈ ["GrandsireLoft$Touch", "GrandsireLoft$Method"], Cond.castable q "java/lang/Object" ∈ lw_tbl := by decide +kernel
theorem st_ds : ∀ q ∈ zDs, Cond.declares ⟨q, "<init>", "(Ljava/lang/String;)V"⟩ ∈ lw_tbl := by decide +kernel
theorem st_dc : Cond.declares ⟨"java/lang/Object", "getClass", "()Ljava/lang/Class;"⟩ ∈ lw_tbl := by decide +kernel
theorem st_ac : Cond.arrayClass .int ∈ lw_tbl ∧ Cond.arrayClass .boolean ∈ lw_tbl ∧ Cond.arrayClass .long ∈ lw_tbl := by decide +kernel
theorem st_ao : Cond.arrayOver (.object RX1) ∈ lw_tbl ∧ Cond.arrayOver (.object RX3) ∈ lw_tbl ∧ Cond.arrayOver (.object "java/lang/Object") ∈ lw_tbl := by decide +kernel
theorem st_mi : Cond.isRef (.mirror "[Ljava/lang/Object;") ∈ st_fl := by decide +kernel
theorem st_q1 : Cond.laysStatic Bundle.tN "UNASSIGNED_STACK" Bundle.steD ∈ lw_tbl ∧ Cond.laysStatic Bundle.tN "SUPPRESSED_SENTINEL" Bundle.listD ∈ lw_tbl ∧ Cond.initialized Bundle.tN ∈ lw_tbl := by decide +kernel
theorem st_q2 : Cond.isRef (.static Bundle.tN "UNASSIGNED_STACK" Bundle.steD) ∈ st_fl ∧ Cond.isRef (.static Bundle.tN "SUPPRESSED_SENTINEL" Bundle.listD) ∈ st_fl := by decide +kernel
theorem st_e1 : Cond.laysStatic RJx4a65c "DEFAULTCAPACITY_EMPTY_ELEMENTDATA" "[Ljava/lang/Object;" ∈ lw_tbl ∧ Cond.initialized RJx4a65c ∈ lw_tbl := by decide +kernel
theorem st_e2 : Cond.arrayOf (.static RJx4a65c "DEFAULTCAPACITY_EMPTY_ELEMENTDATA" "[Ljava/lang/Object;") (.object "java/lang/Object") ∈ st_fl ∧ Cond.eq (.length (.static RJx4a65c "DEFAULTCAPACITY_EMPTY_ELEMENTDATA" "[Ljava/lang/Object;")) (.int 0) ∈ st_fl := by decide +kernel
theorem st_fg (l : Launch) (h : l.flags = flags0) : l.stackTraces = false := by
  unfold Launch.stackTraces
  rw [h]
  decide +kernel
/-- what the start state says, all of it -/
theorem st_K {A : Array Value} {s : State} (l : Launch) (hflags : l.flags = flags0) (htl : ∀ w ∈ lw_tbl, w.before A s = true) (hs : ∀ w ∈ st_fl, w.before A s = true) : ∃ E : zE, zK E s ∧ E.2.2.1 = l ∧ E.2.2.2.1 = s.heap.size := by
  have hts : ∀ w ∈ zW, w.before A s = true := fun w hw => htl w (zW_ot hw)
  obtain ⟨D, hD⟩ := st_known hts htl
  obtain ⟨c0, g0⟩ := st_A (.inl rfl) (htl _ st_ac.1)
  obtain ⟨c1, g1⟩ := st_A (.inr (.inl rfl)) (htl _ st_ac.2.1)
  obtain ⟨c5, g5⟩ := st_A (.inr (.inr rfl)) (htl _ st_ac.2.2)
  obtain ⟨c2, g2⟩ := st_O (htl _ st_ao.1)
  obtain ⟨c3, g3⟩ := st_O (htl _ st_ao.2.1)
  obtain ⟨c4, g4⟩ := st_O (htl _ st_ao.2.2)
  obtain ⟨mi, hmi⟩ := va_Mi.of (hs _ st_mi)
  have hA : ∀ a : Nat, a < s.heap.size → ¬ s.heap.size ≤ a := fun a h => Nat.not_le.mpr h
  obtain ⟨e0, he0, hT0⟩ := va_Tof (N := 0) (f := fun _ => .null) (A := fun q => s.heap.size ≤ q) (by decide) (hs _ st_e2.1) (va_eqt (hs _ st_e2.2)) (fun j hj => absurd hj (Nat.not_lt_zero j)) hA
  refine ⟨(D, fun k => if k = 12 then c0 else if k = 13 then c1 else if k = 14 then c2 else if k = 15 then c3 else if k = 16 then c4 else c5, l, s.heap.size, e0, st_sa A s mi), ?_, rfl, rfl⟩
  refine ⟨⟨hD, ?_⟩, ⟨va_AO.of (htl _ st_ao.1), va_AO.of (htl _ st_ao.2.1), va_AO.of (htl _ st_ao.2.2), hmi, va_Dc.of (htl _ st_dc)⟩,
    fun q hq => va_Nw.of rfl (htl _ (st_cs2 q hq)), ⟨fun q hq => va_Nw.of rfl (htl _ (st_cs q hq)), fun q hq => va_Nw.of rfl (htl _ (st_ds q hq))⟩,
    fun q hq r hr hn => va_Nc.of (hs _ (st_nc q hq r hr hn)), ?_, vx_Zqof (htl _ st_q1.1) (htl _ st_q1.2.2) (hs _ st_q2.1) hA, vx_Zqof (htl _ st_q1.2.1) (htl _ st_q1.2.2) (hs _ st_q2.2) hA,
    va_Zof (htl _ st_e1.1) (htl _ st_e1.2) he0 hA, hT0, Nat.le_refl _, st_fg l hflags⟩
  · intro k q hq
    match k, hq with
    | 0, hq => cases hq; exact g0
    | 1, hq => cases hq; exact g1
    | 2, hq => cases hq; exact g2
    | 3, hq => cases hq; exact g3
    | 4, hq => cases hq; exact g4
    | 5, hq => cases hq; exact g5
    | k + 6, hq => simp [zT] at hq
  · intro q hq
    obtain ⟨a, c, cell, k, h1, -⟩ := Cond.exactly_spec (hs _ (st_str q hq))
    refine vk_R.of (A := A) (htl _ (st_str2 q hq)) ?_
    have h1' : (Term.string RX10 q.1).eval A s none [] s = some (.ref a) := h1
    have e : st_sa A s mi q.1 = a := by
      unfold st_sa
      rw [if_neg (st_str0 q hq), h1']
    show (Term.string RX10 q.1).eval A s none [] s = some (.ref (st_sa A s mi q.1))
    rw [e]
    exact h1'
