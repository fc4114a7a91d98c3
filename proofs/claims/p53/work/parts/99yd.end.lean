set_option maxRecDepth 100000 in
set_option maxHeartbeats 4000000 in
/-- YOUR PART: from the entry, for every script of at most 260 ints, the law comes to its end with true ('hflags': the launch's flags, for a law that throws: no stack traces) -/
theorem whole_start {p : Program} {e : Env} {s : State} {m : MethodId} {below : List Frame} {meth : Method} {c : Code} (l : Launch) (hflags : l.flags = flags0) {b L : Nat} {xs : Nat → Int32} (hL : L ≤ 260) (C0 : lw_At p s m meth c b L xs) : W p l e room_1 s m #[Value.ref b] below meth c s.heap [] 0 0 (lw_Z below #[Value.ref b] s) (entryFrame m ([Value.ref b] : List Value).toArray 19) := by
  obtain ⟨hx, hb, hr, hml, hown, hts, hX, hbl, hlocks, hgv⟩ := id C0
  obtain ⟨E, hK, hE1, hE2⟩ := st_K l hflags hts (flat_of_before _ hgv)
  have hA : ∀ q : Nat, s.heap.size ≤ q → (fun q : Nat => s.heap.size ≤ q) q := fun _ h => h
  have hS : va_S (fun q : Nat => s.heap.size ≤ q) s.heap s.heap [] := va_S.rf
  have hl := lv_entry ([.ref b]) (n := 19) (Nat.le_of_ble_eq_true rfl)
  rw [lg_entry_eq]
  generalize (lg_sl ([.ref b]) ++ List.replicate (19 - (lg_sl ([.ref b])).length) Slot.unset).toArray = ls at hl ⊢
  have hl : lv_has ls 19 [(0, .ref b)] := hl
  have hJ := law_body (E := E) (b := b) (L := L) (xs := xs) (tb := c.exceptionTable.toList) hL
  have k := hJ p e s m #[Value.ref b] below meth c s.heap [] ls (fun q => s.heap.size ≤ q)
    ⟨hx, hb, hml, hr, hown, fun w hw => hts w (zW_ot hw), hlocks, (fun h => Bool.noConfusion h), rfl, hX, hbl, by rw [hE2]; exact hbl⟩
    hK hA (fun q hq => by show E.2.2.2.1 ≤ q; rw [hE2]; exact hq) hS (fun k q h => by simp [zPl, zS0, gL, va_pl] at h) ⟨fun i j p q h => by simp [zPl, zS0, gL, va_pl] at h, fun k q h => by simp [zPl, zS0, gL, va_pl] at h⟩ hl
  rw [hE1] at k
  intro T hT X
  obtain ⟨t, a1, o, a2, a3, a4⟩ := k T hT X
  refine ⟨t, a1, o, a2, a3, ?_⟩
  rcases a4 with ⟨⟨v, X9, S9, e1, e2, -⟩, L9, ⟨f1, f2, f3⟩, f4⟩ | ⟨q, -, E9, ce, L9, ⟨X9, S9, h9, -⟩, -⟩
  · have e3 : v = some (.int 1) := e2
    refine ⟨by rw [e1, e3], f1, f2, f3.weaken (fun y hy hlt => ?_) (Nat.le_refl _) (Nat.le_refl _)⟩
    exact absurd (f4 y hy) (Nat.not_le.mpr hlt)
  · exact h9.elim
