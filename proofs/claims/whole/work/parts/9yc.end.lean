theorem st_sim {E : zE} (x m : Nat) : SIM E x m (RR E x m) := ⟨s_change, s_dropChanges, s_method, s_setCall, s_stage, s_changeAt, s_head, s_course, s_isFalse, s_falseRows, s_lead, s_dropLeads, s_touch, s_compose, s_touches, s_leads, s_leadAt, s_rows, s_rowAt, s_bellAt, s_isTrue, s_comesRound, s_firstRepeat, s_takeOut, s_bringIn, s_mend, s_wear, s_isIn, s_setBand, s_plan, s_planned, s_plannedAt, s_rota, s_pass, s_today, s_dropped, s_ring, s_stand, s_isRinging, s_pull, s_due, s_setPatience, s_done, s_delay, s_late, s_early, s_errors, s_wrong, s_rung, s_latest⟩
theorem st_hx {E : zE} : ∀ x m Sc Sm, RR E x m Sc Sm → (x ∈ gL Sc ∧ gK Sc x = 10) ∧ (m ∈ gL Sm ∧ gK Sm m = 11) := by
  intro x m Sc Sm h
  obtain ⟨ad, la, V, ma, Z, ⟨hC, hx⟩, hM, -, -⟩ := h
  have z1 : 0 < (sd (Z 3 0) (Z 10 0 + 2) (Z 27 0)) 10 := Nat.zero_lt_one
  have h1 := hC.o 10 0 z1
  rw [hx] at h1
  exact ⟨h1, hM.1⟩
