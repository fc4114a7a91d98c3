set_option maxRecDepth 20000 in
set_option maxHeartbeats 4000000 in
theorem w_L_change {E : zE} {a0 : Nat} {l1 : Int32} {S : zS} {Q : Int32 → zS → Prop} (h : p_L_change E a0 l1 S Q) : zMX E yL_change cL_change 4 (some .int) [(0, 6, 9, 14), (0, 6, 14, 16)] ({ frames := 8, cells := 2, slots := 12, locals := 125 } : Room) [.ref a0, .int l1] [] S (fun v X S1 => ∃ r, v = some (.int r) ∧ X = [] ∧ Q r S1) := by
  obtain ⟨hx9, h⟩ := h
  refine zMX_of RL (by decide) rfl (Nat.le_of_ble_eq_true rfl) ?_
  refine z_sub [0, 1] (lv' := [(0, .ref a0), (1, .int l1)]) rfl ?_
  refine z_aload_n 0 dL_change_0 rfl rfl ?_
  refine z_iload_n 1 dL_change_1 rfl rfl ?_
  refine z_callVI (ci := 10) (st := []) (w_X10_change h) hx9.1 hx9.2 (Nat.le_of_ble_eq_true rfl) rfl zw_325 zw_322 zw_323 zw_324 zw_30 zy_X10_change rfl rfl ⟨Nat.le_of_ble_eq_true rfl, Nat.le_of_ble_eq_true rfl⟩ ⟨Nat.le_of_ble_eq_true rfl, Nat.le_of_ble_eq_true rfl⟩ (Nat.le_of_ble_eq_true rfl) dL_change_2 (fun ex S1 h => ?_) (fun r S1 h => ?_)
  · rcases h with ⟨rfl, h⟩ | ⟨rfl, h⟩
    · refine zx_catch [] ⟨0, 6, 9, 14⟩ [⟨0, 6, 14, 16⟩] rfl (by decide) (fun z hz => by simp at hz) (by decide) (by decide) zw_320 (fun q9 => ?_)
      refine z_astore_n (lv' := [(3, .ref q9), (0, .ref a0), (1, .int l1)]) dL_change_9 rfl (Nat.le_of_ble_eq_true rfl) rfl ?_
      refine z_sipush (v := -7200) dL_change_10 rfl ?_
      exact z_ireturn ⟨_, rfl, rfl, h⟩ rfl (Nat.le_of_ble_eq_true rfl) (Nat.le_of_ble_eq_true rfl) dL_change_13
    · refine zx_catch [⟨0, 6, 9, 14⟩] ⟨0, 6, 14, 16⟩ [] rfl (by decide) (fun z hz => by
        simp only [List.mem_cons, List.not_mem_nil, or_false] at hz
        rcases hz with rfl
        · exact ⟨by decide, "java/lang/IllegalArgumentException", by decide, by decide, zw_320⟩) (by decide) (by decide) zw_321 (fun q9 => ?_)
      refine z_astore_n (lv' := [(3, .ref q9), (0, .ref a0), (1, .int l1)]) dL_change_14 rfl (Nat.le_of_ble_eq_true rfl) rfl ?_
      refine z_sipush (v := -7300) dL_change_15 rfl ?_
      exact z_ireturn ⟨_, rfl, rfl, h⟩ rfl (Nat.le_of_ble_eq_true rfl) (Nat.le_of_ble_eq_true rfl) dL_change_18
  · refine z_istore_n (lv' := [(2, .int r), (0, .ref a0), (1, .int l1)]) dL_change_5 rfl (Nat.le_of_ble_eq_true rfl) rfl ?_
    refine z_goto 19 dL_change_6 (by decide) ?_
    refine z_iload_n 0 dL_change_19 rfl rfl ?_
    exact z_ireturn ⟨_, rfl, rfl, h⟩ rfl (Nat.le_of_ble_eq_true rfl) (Nat.le_of_ble_eq_true rfl) dL_change_20
set_option maxRecDepth 20000 in
set_option maxHeartbeats 4000000 in
theorem w_L_method {E : zE} {a0 : Nat} {l1 : Int32} {S : zS} {Q : Int32 → zS → Prop} (h : p_L_method E a0 l1 S Q) : zMX E yL_method cL_method 4 (some .int) [(0, 6, 9, 14), (0, 6, 14, 16)] ({ frames := 8, cells := 7, slots := 194, locals := 193 } : Room) [.ref a0, .int l1] [] S (fun v X S1 => ∃ r, v = some (.int r) ∧ X = [] ∧ Q r S1) := by
  obtain ⟨hx9, h⟩ := h
  refine zMX_of RL (by decide) rfl (Nat.le_of_ble_eq_true rfl) ?_
  refine z_sub [0, 1] (lv' := [(0, .ref a0), (1, .int l1)]) rfl ?_
  refine z_aload_n 0 dL_method_0 rfl rfl ?_
  refine z_iload_n 1 dL_method_1 rfl rfl ?_
  refine z_callVI (ci := 10) (st := []) (w_X10_method h) hx9.1 hx9.2 (Nat.le_of_ble_eq_true rfl) rfl zw_419 zw_416 zw_417 zw_418 zw_30 zy_X10_method rfl rfl ⟨Nat.le_of_ble_eq_true rfl, Nat.le_of_ble_eq_true rfl⟩ ⟨Nat.le_of_ble_eq_true rfl, Nat.le_of_ble_eq_true rfl⟩ (Nat.le_of_ble_eq_true rfl) dL_method_2 (fun ex S1 h => ?_) (fun r S1 h => ?_)
  · rcases h with ⟨rfl, h⟩ | ⟨rfl, h⟩
    · refine zx_catch [] ⟨0, 6, 9, 14⟩ [⟨0, 6, 14, 16⟩] rfl (by decide) (fun z hz => by simp at hz) (by decide) (by decide) zw_320 (fun q9 => ?_)
      refine z_astore_n (lv' := [(3, .ref q9), (0, .ref a0), (1, .int l1)]) dL_method_9 rfl (Nat.le_of_ble_eq_true rfl) rfl ?_
      refine z_sipush (v := -7200) dL_method_10 rfl ?_
      exact z_ireturn ⟨_, rfl, rfl, h⟩ rfl (Nat.le_of_ble_eq_true rfl) (Nat.le_of_ble_eq_true rfl) dL_method_13
    · refine zx_catch [⟨0, 6, 9, 14⟩] ⟨0, 6, 14, 16⟩ [] rfl (by decide) (fun z hz => by
        simp only [List.mem_cons, List.not_mem_nil, or_false] at hz
        rcases hz with rfl
        · exact ⟨by decide, "java/lang/IllegalArgumentException", by decide, by decide, zw_320⟩) (by decide) (by decide) zw_321 (fun q9 => ?_)
      refine z_astore_n (lv' := [(3, .ref q9), (0, .ref a0), (1, .int l1)]) dL_method_14 rfl (Nat.le_of_ble_eq_true rfl) rfl ?_
      refine z_sipush (v := -7300) dL_method_15 rfl ?_
      exact z_ireturn ⟨_, rfl, rfl, h⟩ rfl (Nat.le_of_ble_eq_true rfl) (Nat.le_of_ble_eq_true rfl) dL_method_18
  · refine z_istore_n (lv' := [(2, .int r), (0, .ref a0), (1, .int l1)]) dL_method_5 rfl (Nat.le_of_ble_eq_true rfl) rfl ?_
    refine z_goto 19 dL_method_6 (by decide) ?_
    refine z_iload_n 0 dL_method_19 rfl rfl ?_
    exact z_ireturn ⟨_, rfl, rfl, h⟩ rfl (Nat.le_of_ble_eq_true rfl) (Nat.le_of_ble_eq_true rfl) dL_method_20
set_option maxRecDepth 20000 in
set_option maxHeartbeats 4000000 in
theorem w_L_stage {E : zE} {a0 : Nat} {l1 : Int32} {S : zS} {Q : Int32 → zS → Prop} (h : p_L_stage E a0 l1 S Q) : zMX E yL_stage cL_stage 4 (some .int) [(0, 6, 9, 25)] ({ frames := 9, cells := 1, slots := 6, locals := 145 } : Room) [.ref a0, .int l1] [] S (fun v X S1 => ∃ r, v = some (.int r) ∧ X = [] ∧ Q r S1) := by
  obtain ⟨hx9, h⟩ := h
  refine zMX_of RL (by decide) rfl (Nat.le_of_ble_eq_true rfl) ?_
  refine z_sub [0, 1] (lv' := [(0, .ref a0), (1, .int l1)]) rfl ?_
  refine z_aload_n 0 dL_stage_0 rfl rfl ?_
  refine z_iload_n 1 dL_stage_1 rfl rfl ?_
  refine z_callVI (ci := 10) (st := []) (w_X10_stage h) hx9.1 hx9.2 (Nat.le_of_ble_eq_true rfl) rfl zw_580 zw_577 zw_578 zw_579 zw_30 zy_X10_stage rfl rfl ⟨Nat.le_of_ble_eq_true rfl, Nat.le_of_ble_eq_true rfl⟩ ⟨Nat.le_of_ble_eq_true rfl, Nat.le_of_ble_eq_true rfl⟩ (Nat.le_of_ble_eq_true rfl) dL_stage_2 (fun ex S1 h => ?_) (fun r S1 h => ?_)
  · obtain ⟨rfl, h⟩ := h
    refine zx_catch [] ⟨0, 6, 9, 25⟩ [] rfl (by decide) (fun z hz => by simp at hz) (by decide) (by decide) zw_576 (fun q9 => ?_)
    refine z_astore_n (lv' := [(3, .ref q9), (0, .ref a0), (1, .int l1)]) dL_stage_9 rfl (Nat.le_of_ble_eq_true rfl) rfl ?_
    refine z_sipush (v := -7100) dL_stage_10 rfl ?_
    exact z_ireturn ⟨_, rfl, rfl, h⟩ rfl (Nat.le_of_ble_eq_true rfl) (Nat.le_of_ble_eq_true rfl) dL_stage_13
  · refine z_istore_n (lv' := [(2, .int r), (0, .ref a0), (1, .int l1)]) dL_stage_5 rfl (Nat.le_of_ble_eq_true rfl) rfl ?_
    refine z_goto 14 dL_stage_6 (by decide) ?_
    refine z_iload_n 0 dL_stage_14 rfl rfl ?_
    exact z_ireturn ⟨_, rfl, rfl, h⟩ rfl (Nat.le_of_ble_eq_true rfl) (Nat.le_of_ble_eq_true rfl) dL_stage_15
set_option maxRecDepth 20000 in
set_option maxHeartbeats 4000000 in
theorem w_L_setCall {E : zE} {a0 : Nat} {l1 : Int32} {l2 : Int32} {l3 : Int32} {S : zS} {Q : Int32 → zS → Prop} (h : p_L_setCall E a0 l1 l2 l3 S Q) : zMX E yL_setCall cL_setCall 6 (some .int) [(0, 9, 12, 25), (0, 9, 18, 14), (0, 9, 24, 16)] ({ frames := 9, cells := 3, slots := 18, locals := 166 } : Room) [.ref a0, .int l1, .int l2, .int l3] [] S (fun v X S1 => ∃ r, v = some (.int r) ∧ X = [] ∧ Q r S1) := by
  obtain ⟨hx9, h⟩ := h
  refine zMX_of RL (by decide) rfl (Nat.le_of_ble_eq_true rfl) ?_
  refine z_sub [0, 1, 2, 3] (lv' := [(0, .ref a0), (1, .int l1), (2, .int l2), (3, .int l3)]) rfl ?_
  refine z_aload_n 0 dL_setCall_0 rfl rfl ?_
  refine z_iload_n 1 dL_setCall_1 rfl rfl ?_
  refine z_iload_n 2 dL_setCall_2 rfl rfl ?_
  refine z_iload_n 3 dL_setCall_3 rfl rfl ?_
  refine z_callVI (ci := 10) (st := []) (w_X10_setCall h) hx9.1 hx9.2 (Nat.le_of_ble_eq_true rfl) rfl zw_625 zw_622 zw_623 zw_624 zw_30 zy_X10_setCall rfl rfl ⟨Nat.le_of_ble_eq_true rfl, Nat.le_of_ble_eq_true rfl⟩ ⟨Nat.le_of_ble_eq_true rfl, Nat.le_of_ble_eq_true rfl⟩ (Nat.le_of_ble_eq_true rfl) dL_setCall_4 (fun ex S1 h => ?_) (fun r S1 h => ?_)
  · rcases h with ⟨rfl, h⟩ | ⟨rfl, h⟩ | ⟨rfl, h⟩
    · refine zx_catch [] ⟨0, 9, 12, 25⟩ [⟨0, 9, 18, 14⟩, ⟨0, 9, 24, 16⟩] rfl (by decide) (fun z hz => by simp at hz) (by decide) (by decide) zw_576 (fun q9 => ?_)
      refine z_astore (lv' := [(5, .ref q9), (0, .ref a0), (1, .int l1), (2, .int l2), (3, .int l3)]) dL_setCall_12 (Nat.le_of_ble_eq_true rfl) rfl ?_
      refine z_sipush (v := -7100) dL_setCall_14 rfl ?_
      exact z_ireturn ⟨_, rfl, rfl, h⟩ rfl (Nat.le_of_ble_eq_true rfl) (Nat.le_of_ble_eq_true rfl) dL_setCall_17
    · refine zx_catch [⟨0, 9, 12, 25⟩] ⟨0, 9, 18, 14⟩ [⟨0, 9, 24, 16⟩] rfl (by decide) (fun z hz => by
        simp only [List.mem_cons, List.not_mem_nil, or_false] at hz
        rcases hz with rfl
        · exact ⟨by decide, "java/lang/IndexOutOfBoundsException", by decide, by decide, zw_576⟩) (by decide) (by decide) zw_320 (fun q9 => ?_)
      refine z_astore (lv' := [(5, .ref q9), (0, .ref a0), (1, .int l1), (2, .int l2), (3, .int l3)]) dL_setCall_18 (Nat.le_of_ble_eq_true rfl) rfl ?_
      refine z_sipush (v := -7200) dL_setCall_20 rfl ?_
      exact z_ireturn ⟨_, rfl, rfl, h⟩ rfl (Nat.le_of_ble_eq_true rfl) (Nat.le_of_ble_eq_true rfl) dL_setCall_23
    · refine zx_catch [⟨0, 9, 12, 25⟩, ⟨0, 9, 18, 14⟩] ⟨0, 9, 24, 16⟩ [] rfl (by decide) (fun z hz => by
        simp only [List.mem_cons, List.not_mem_nil, or_false] at hz
        rcases hz with rfl | rfl
        · exact ⟨by decide, "java/lang/IndexOutOfBoundsException", by decide, by decide, zw_576⟩
        · exact ⟨by decide, "java/lang/IllegalArgumentException", by decide, by decide, zw_320⟩) (by decide) (by decide) zw_321 (fun q9 => ?_)
      refine z_astore (lv' := [(5, .ref q9), (0, .ref a0), (1, .int l1), (2, .int l2), (3, .int l3)]) dL_setCall_24 (Nat.le_of_ble_eq_true rfl) rfl ?_
      refine z_sipush (v := -7300) dL_setCall_26 rfl ?_
      exact z_ireturn ⟨_, rfl, rfl, h⟩ rfl (Nat.le_of_ble_eq_true rfl) (Nat.le_of_ble_eq_true rfl) dL_setCall_29
  · refine z_istore (lv' := [(4, .int r), (0, .ref a0), (1, .int l1), (2, .int l2), (3, .int l3)]) dL_setCall_7 (Nat.le_of_ble_eq_true rfl) rfl ?_
    refine z_goto 30 dL_setCall_9 (by decide) ?_
    refine z_iload 0 dL_setCall_30 rfl ?_
    exact z_ireturn ⟨_, rfl, rfl, h⟩ rfl (Nat.le_of_ble_eq_true rfl) (Nat.le_of_ble_eq_true rfl) dL_setCall_32
set_option maxRecDepth 20000 in
set_option maxHeartbeats 4000000 in
theorem w_L_lead {E : zE} {a0 : Nat} {l1 : Int32} {l2 : Int32} {S : zS} {Q : Int32 → zS → Prop} (h : p_L_lead E a0 l1 l2 S Q) : zMX E yL_lead cL_lead 5 (some .int) [(0, 7, 10, 25), (0, 7, 16, 14), (0, 7, 22, 16)] ({ frames := 9, cells := 3, slots := 34, locals := 216 } : Room) [.ref a0, .int l1, .int l2] [] S (fun v X S1 => ∃ r, v = some (.int r) ∧ X = [] ∧ Q r S1) := by
  obtain ⟨hx9, h⟩ := h
  refine zMX_of RL (by decide) rfl (Nat.le_of_ble_eq_true rfl) ?_
  refine z_sub [0, 1, 2] (lv' := [(0, .ref a0), (1, .int l1), (2, .int l2)]) rfl ?_
  refine z_aload_n 0 dL_lead_0 rfl rfl ?_
  refine z_iload_n 1 dL_lead_1 rfl rfl ?_
  refine z_iload_n 2 dL_lead_2 rfl rfl ?_
  refine z_callVI (ci := 10) (st := []) (w_X10_lead h) hx9.1 hx9.2 (Nat.le_of_ble_eq_true rfl) rfl zw_709 zw_706 zw_707 zw_708 zw_30 zy_X10_lead rfl rfl ⟨Nat.le_of_ble_eq_true rfl, Nat.le_of_ble_eq_true rfl⟩ ⟨Nat.le_of_ble_eq_true rfl, Nat.le_of_ble_eq_true rfl⟩ (Nat.le_of_ble_eq_true rfl) dL_lead_3 (fun ex S1 h => ?_) (fun r S1 h => ?_)
  · rcases h with ⟨rfl, h⟩ | ⟨rfl, h⟩ | ⟨rfl, h⟩
    · refine zx_catch [] ⟨0, 7, 10, 25⟩ [⟨0, 7, 16, 14⟩, ⟨0, 7, 22, 16⟩] rfl (by decide) (fun z hz => by simp at hz) (by decide) (by decide) zw_576 (fun q9 => ?_)
      refine z_astore (lv' := [(4, .ref q9), (0, .ref a0), (1, .int l1), (2, .int l2)]) dL_lead_10 (Nat.le_of_ble_eq_true rfl) rfl ?_
      refine z_sipush (v := -7100) dL_lead_12 rfl ?_
      exact z_ireturn ⟨_, rfl, rfl, h⟩ rfl (Nat.le_of_ble_eq_true rfl) (Nat.le_of_ble_eq_true rfl) dL_lead_15
    · refine zx_catch [⟨0, 7, 10, 25⟩] ⟨0, 7, 16, 14⟩ [⟨0, 7, 22, 16⟩] rfl (by decide) (fun z hz => by
        simp only [List.mem_cons, List.not_mem_nil, or_false] at hz
        rcases hz with rfl
        · exact ⟨by decide, "java/lang/IndexOutOfBoundsException", by decide, by decide, zw_576⟩) (by decide) (by decide) zw_320 (fun q9 => ?_)
      refine z_astore (lv' := [(4, .ref q9), (0, .ref a0), (1, .int l1), (2, .int l2)]) dL_lead_16 (Nat.le_of_ble_eq_true rfl) rfl ?_
      refine z_sipush (v := -7200) dL_lead_18 rfl ?_
      exact z_ireturn ⟨_, rfl, rfl, h⟩ rfl (Nat.le_of_ble_eq_true rfl) (Nat.le_of_ble_eq_true rfl) dL_lead_21
    · refine zx_catch [⟨0, 7, 10, 25⟩, ⟨0, 7, 16, 14⟩] ⟨0, 7, 22, 16⟩ [] rfl (by decide) (fun z hz => by
        simp only [List.mem_cons, List.not_mem_nil, or_false] at hz
        rcases hz with rfl | rfl
        · exact ⟨by decide, "java/lang/IndexOutOfBoundsException", by decide, by decide, zw_576⟩
        · exact ⟨by decide, "java/lang/IllegalArgumentException", by decide, by decide, zw_320⟩) (by decide) (by decide) zw_321 (fun q9 => ?_)
      refine z_astore (lv' := [(4, .ref q9), (0, .ref a0), (1, .int l1), (2, .int l2)]) dL_lead_22 (Nat.le_of_ble_eq_true rfl) rfl ?_
      refine z_sipush (v := -7300) dL_lead_24 rfl ?_
      exact z_ireturn ⟨_, rfl, rfl, h⟩ rfl (Nat.le_of_ble_eq_true rfl) (Nat.le_of_ble_eq_true rfl) dL_lead_27
  · refine z_istore_n (lv' := [(3, .int r), (0, .ref a0), (1, .int l1), (2, .int l2)]) dL_lead_6 rfl (Nat.le_of_ble_eq_true rfl) rfl ?_
    refine z_goto 28 dL_lead_7 (by decide) ?_
    refine z_iload_n 0 dL_lead_28 rfl rfl ?_
    exact z_ireturn ⟨_, rfl, rfl, h⟩ rfl (Nat.le_of_ble_eq_true rfl) (Nat.le_of_ble_eq_true rfl) dL_lead_29
set_option maxRecDepth 20000 in
set_option maxHeartbeats 4000000 in
theorem w_L_compose {E : zE} {a0 : Nat} {l1 : Int32} {l2 : Int32} {S : zS} {Q : Int32 → zS → Prop} (h : p_L_compose E a0 l1 l2 S Q) : zMX E yL_compose cL_compose 5 (some .int) [(0, 7, 10, 25), (0, 7, 16, 14), (0, 7, 22, 16)] ({ frames := 10, cells := 15, slots := 466, locals := 241 } : Room) [.ref a0, .int l1, .int l2] [] S (fun v X S1 => ∃ r, v = some (.int r) ∧ X = [] ∧ Q r S1) := by
  obtain ⟨hx9, h⟩ := h
  refine zMX_of RL (by decide) rfl (Nat.le_of_ble_eq_true rfl) ?_
  refine z_sub [0, 1, 2] (lv' := [(0, .ref a0), (1, .int l1), (2, .int l2)]) rfl ?_
  refine z_aload_n 0 dL_compose_0 rfl rfl ?_
  refine z_iload_n 1 dL_compose_1 rfl rfl ?_
  refine z_iload_n 2 dL_compose_2 rfl rfl ?_
  refine z_callVI (ci := 10) (st := []) (w_X10_compose h) hx9.1 hx9.2 (Nat.le_of_ble_eq_true rfl) rfl zw_734 zw_731 zw_732 zw_733 zw_30 zy_X10_compose rfl rfl ⟨Nat.le_of_ble_eq_true rfl, Nat.le_of_ble_eq_true rfl⟩ ⟨Nat.le_of_ble_eq_true rfl, Nat.le_of_ble_eq_true rfl⟩ (Nat.le_of_ble_eq_true rfl) dL_compose_3 (fun ex S1 h => ?_) (fun r S1 h => ?_)
  · rcases h with ⟨rfl, h⟩ | ⟨rfl, h⟩ | ⟨rfl, h⟩
    · refine zx_catch [] ⟨0, 7, 10, 25⟩ [⟨0, 7, 16, 14⟩, ⟨0, 7, 22, 16⟩] rfl (by decide) (fun z hz => by simp at hz) (by decide) (by decide) zw_576 (fun q9 => ?_)
      refine z_astore (lv' := [(4, .ref q9), (0, .ref a0), (1, .int l1), (2, .int l2)]) dL_compose_10 (Nat.le_of_ble_eq_true rfl) rfl ?_
      refine z_sipush (v := -7100) dL_compose_12 rfl ?_
      exact z_ireturn ⟨_, rfl, rfl, h⟩ rfl (Nat.le_of_ble_eq_true rfl) (Nat.le_of_ble_eq_true rfl) dL_compose_15
    · refine zx_catch [⟨0, 7, 10, 25⟩] ⟨0, 7, 16, 14⟩ [⟨0, 7, 22, 16⟩] rfl (by decide) (fun z hz => by
        simp only [List.mem_cons, List.not_mem_nil, or_false] at hz
        rcases hz with rfl
        · exact ⟨by decide, "java/lang/IndexOutOfBoundsException", by decide, by decide, zw_576⟩) (by decide) (by decide) zw_320 (fun q9 => ?_)
      refine z_astore (lv' := [(4, .ref q9), (0, .ref a0), (1, .int l1), (2, .int l2)]) dL_compose_16 (Nat.le_of_ble_eq_true rfl) rfl ?_
      refine z_sipush (v := -7200) dL_compose_18 rfl ?_
      exact z_ireturn ⟨_, rfl, rfl, h⟩ rfl (Nat.le_of_ble_eq_true rfl) (Nat.le_of_ble_eq_true rfl) dL_compose_21
    · refine zx_catch [⟨0, 7, 10, 25⟩, ⟨0, 7, 16, 14⟩] ⟨0, 7, 22, 16⟩ [] rfl (by decide) (fun z hz => by
        simp only [List.mem_cons, List.not_mem_nil, or_false] at hz
        rcases hz with rfl | rfl
        · exact ⟨by decide, "java/lang/IndexOutOfBoundsException", by decide, by decide, zw_576⟩
        · exact ⟨by decide, "java/lang/IllegalArgumentException", by decide, by decide, zw_320⟩) (by decide) (by decide) zw_321 (fun q9 => ?_)
      refine z_astore (lv' := [(4, .ref q9), (0, .ref a0), (1, .int l1), (2, .int l2)]) dL_compose_22 (Nat.le_of_ble_eq_true rfl) rfl ?_
      refine z_sipush (v := -7300) dL_compose_24 rfl ?_
      exact z_ireturn ⟨_, rfl, rfl, h⟩ rfl (Nat.le_of_ble_eq_true rfl) (Nat.le_of_ble_eq_true rfl) dL_compose_27
  · refine z_istore_n (lv' := [(3, .int r), (0, .ref a0), (1, .int l1), (2, .int l2)]) dL_compose_6 rfl (Nat.le_of_ble_eq_true rfl) rfl ?_
    refine z_goto 28 dL_compose_7 (by decide) ?_
    refine z_iload_n 0 dL_compose_28 rfl rfl ?_
    exact z_ireturn ⟨_, rfl, rfl, h⟩ rfl (Nat.le_of_ble_eq_true rfl) (Nat.le_of_ble_eq_true rfl) dL_compose_29
set_option maxRecDepth 20000 in
set_option maxHeartbeats 4000000 in
theorem w_L_changeAt {E : zE} {a0 : Nat} {l1 : Int32} {l2 : Int32} {l3 : Int32} {S : zS} {Q : Int32 → zS → Prop} (h : p_L_changeAt E a0 l1 l2 l3 S Q) : zMX E yL_changeAt cL_changeAt 6 (some .int) [(0, 9, 12, 25), (0, 9, 18, 14)] ({ frames := 9, cells := 2, slots := 12, locals := 148 } : Room) [.ref a0, .int l1, .int l2, .int l3] [] S (fun v X S1 => ∃ r, v = some (.int r) ∧ X = [] ∧ Q r S1) := by
  obtain ⟨hx9, h⟩ := h
  refine zMX_of RL (by decide) rfl (Nat.le_of_ble_eq_true rfl) ?_
  refine z_sub [0, 1, 2, 3] (lv' := [(0, .ref a0), (1, .int l1), (2, .int l2), (3, .int l3)]) rfl ?_
  refine z_aload_n 0 dL_changeAt_0 rfl rfl ?_
  refine z_iload_n 1 dL_changeAt_1 rfl rfl ?_
  refine z_iload_n 2 dL_changeAt_2 rfl rfl ?_
  refine z_iload_n 3 dL_changeAt_3 rfl rfl ?_
  refine z_callVI (ci := 10) (st := []) (w_X10_changeAt h) hx9.1 hx9.2 (Nat.le_of_ble_eq_true rfl) rfl zw_781 zw_778 zw_779 zw_780 zw_30 zy_X10_changeAt rfl rfl ⟨Nat.le_of_ble_eq_true rfl, Nat.le_of_ble_eq_true rfl⟩ ⟨Nat.le_of_ble_eq_true rfl, Nat.le_of_ble_eq_true rfl⟩ (Nat.le_of_ble_eq_true rfl) dL_changeAt_4 (fun ex S1 h => ?_) (fun r S1 h => ?_)
  · rcases h with ⟨rfl, h⟩ | ⟨rfl, h⟩
    · refine zx_catch [] ⟨0, 9, 12, 25⟩ [⟨0, 9, 18, 14⟩] rfl (by decide) (fun z hz => by simp at hz) (by decide) (by decide) zw_576 (fun q9 => ?_)
      refine z_astore (lv' := [(5, .ref q9), (0, .ref a0), (1, .int l1), (2, .int l2), (3, .int l3)]) dL_changeAt_12 (Nat.le_of_ble_eq_true rfl) rfl ?_
      refine z_sipush (v := -7100) dL_changeAt_14 rfl ?_
      exact z_ireturn ⟨_, rfl, rfl, h⟩ rfl (Nat.le_of_ble_eq_true rfl) (Nat.le_of_ble_eq_true rfl) dL_changeAt_17
    · refine zx_catch [⟨0, 9, 12, 25⟩] ⟨0, 9, 18, 14⟩ [] rfl (by decide) (fun z hz => by
        simp only [List.mem_cons, List.not_mem_nil, or_false] at hz
        rcases hz with rfl
        · exact ⟨by decide, "java/lang/IndexOutOfBoundsException", by decide, by decide, zw_576⟩) (by decide) (by decide) zw_320 (fun q9 => ?_)
      refine z_astore (lv' := [(5, .ref q9), (0, .ref a0), (1, .int l1), (2, .int l2), (3, .int l3)]) dL_changeAt_18 (Nat.le_of_ble_eq_true rfl) rfl ?_
      refine z_sipush (v := -7200) dL_changeAt_20 rfl ?_
      exact z_ireturn ⟨_, rfl, rfl, h⟩ rfl (Nat.le_of_ble_eq_true rfl) (Nat.le_of_ble_eq_true rfl) dL_changeAt_23
  · refine z_istore (lv' := [(4, .int r), (0, .ref a0), (1, .int l1), (2, .int l2), (3, .int l3)]) dL_changeAt_7 (Nat.le_of_ble_eq_true rfl) rfl ?_
    refine z_goto 24 dL_changeAt_9 (by decide) ?_
    refine z_iload 0 dL_changeAt_24 rfl ?_
    exact z_ireturn ⟨_, rfl, rfl, h⟩ rfl (Nat.le_of_ble_eq_true rfl) (Nat.le_of_ble_eq_true rfl) dL_changeAt_26
set_option maxRecDepth 20000 in
set_option maxHeartbeats 4000000 in
theorem w_L_touch {E : zE} {a0 : Nat} {S : zS} {Q : Int32 → zS → Prop} (h : p_L_touch E a0 S Q) : zMX E yL_touch cL_touch 3 (some .int) [(0, 5, 8, 16)] ({ frames := 9, cells := 6, slots := 300, locals := 213 } : Room) [.ref a0] [] S (fun v X S1 => ∃ r, v = some (.int r) ∧ X = [] ∧ Q r S1) := by
  obtain ⟨hx9, h⟩ := h
  refine zMX_of RL (by decide) rfl (Nat.le_of_ble_eq_true rfl) ?_
  refine z_sub [0] (lv' := [(0, .ref a0)]) rfl ?_
  refine z_aload_n 0 dL_touch_0 rfl rfl ?_
  refine z_callVI (ci := 10) (st := []) (w_X10_touch h) hx9.1 hx9.2 (Nat.le_of_ble_eq_true rfl) rfl zw_831 zw_828 zw_829 zw_830 zw_30 zy_X10_touch rfl rfl ⟨Nat.le_of_ble_eq_true rfl, Nat.le_of_ble_eq_true rfl⟩ ⟨Nat.le_of_ble_eq_true rfl, Nat.le_of_ble_eq_true rfl⟩ (Nat.le_of_ble_eq_true rfl) dL_touch_1 (fun ex S1 h => ?_) (fun r S1 h => ?_)
  · obtain ⟨rfl, h⟩ := h
    refine zx_catch [] ⟨0, 5, 8, 16⟩ [] rfl (by decide) (fun z hz => by simp at hz) (by decide) (by decide) zw_321 (fun q9 => ?_)
    refine z_astore_n (lv' := [(2, .ref q9), (0, .ref a0)]) dL_touch_8 rfl (Nat.le_of_ble_eq_true rfl) rfl ?_
    refine z_sipush (v := -7300) dL_touch_9 rfl ?_
    exact z_ireturn ⟨_, rfl, rfl, h⟩ rfl (Nat.le_of_ble_eq_true rfl) (Nat.le_of_ble_eq_true rfl) dL_touch_12
  · refine z_istore_n (lv' := [(1, .int r), (0, .ref a0)]) dL_touch_4 rfl (Nat.le_of_ble_eq_true rfl) rfl ?_
    refine z_goto 13 dL_touch_5 (by decide) ?_
    refine z_iload_n 0 dL_touch_13 rfl rfl ?_
    exact z_ireturn ⟨_, rfl, rfl, h⟩ rfl (Nat.le_of_ble_eq_true rfl) (Nat.le_of_ble_eq_true rfl) dL_touch_14
set_option maxRecDepth 20000 in
set_option maxHeartbeats 4000000 in
theorem w_L_takeOut {E : zE} {a0 : Nat} {l1 : Int32} {S : zS} {Q : Int32 → zS → Prop} (h : p_L_takeOut E a0 l1 S Q) : zMX E yL_takeOut cL_takeOut 4 (some .int) [(0, 6, 9, 25), (0, 6, 14, 16)] ({ frames := 9, cells := 2, slots := 12, locals := 154 } : Room) [.ref a0, .int l1] [] S (fun v X S1 => ∃ r, v = some (.int r) ∧ X = [] ∧ Q r S1) := by
  obtain ⟨hx9, h⟩ := h
  refine zMX_of RL (by decide) rfl (Nat.le_of_ble_eq_true rfl) ?_
  refine z_sub [0, 1] (lv' := [(0, .ref a0), (1, .int l1)]) rfl ?_
  refine z_aload_n 0 dL_takeOut_0 rfl rfl ?_
  refine z_iload_n 1 dL_takeOut_1 rfl rfl ?_
  refine z_callVI (ci := 10) (st := []) (w_X10_takeOut h) hx9.1 hx9.2 (Nat.le_of_ble_eq_true rfl) rfl zw_851 zw_848 zw_849 zw_850 zw_30 zy_X10_takeOut rfl rfl ⟨Nat.le_of_ble_eq_true rfl, Nat.le_of_ble_eq_true rfl⟩ ⟨Nat.le_of_ble_eq_true rfl, Nat.le_of_ble_eq_true rfl⟩ (Nat.le_of_ble_eq_true rfl) dL_takeOut_2 (fun ex S1 h => ?_) (fun r S1 h => ?_)
  · rcases h with ⟨rfl, h⟩ | ⟨rfl, h⟩
    · refine zx_catch [] ⟨0, 6, 9, 25⟩ [⟨0, 6, 14, 16⟩] rfl (by decide) (fun z hz => by simp at hz) (by decide) (by decide) zw_576 (fun q9 => ?_)
      refine z_astore_n (lv' := [(3, .ref q9), (0, .ref a0), (1, .int l1)]) dL_takeOut_9 rfl (Nat.le_of_ble_eq_true rfl) rfl ?_
      refine z_sipush (v := -7100) dL_takeOut_10 rfl ?_
      exact z_ireturn ⟨_, rfl, rfl, h⟩ rfl (Nat.le_of_ble_eq_true rfl) (Nat.le_of_ble_eq_true rfl) dL_takeOut_13
    · refine zx_catch [⟨0, 6, 9, 25⟩] ⟨0, 6, 14, 16⟩ [] rfl (by decide) (fun z hz => by
        simp only [List.mem_cons, List.not_mem_nil, or_false] at hz
        rcases hz with rfl
        · exact ⟨by decide, "java/lang/IndexOutOfBoundsException", by decide, by decide, zw_576⟩) (by decide) (by decide) zw_321 (fun q9 => ?_)
      refine z_astore_n (lv' := [(3, .ref q9), (0, .ref a0), (1, .int l1)]) dL_takeOut_14 rfl (Nat.le_of_ble_eq_true rfl) rfl ?_
      refine z_sipush (v := -7300) dL_takeOut_15 rfl ?_
      exact z_ireturn ⟨_, rfl, rfl, h⟩ rfl (Nat.le_of_ble_eq_true rfl) (Nat.le_of_ble_eq_true rfl) dL_takeOut_18
  · refine z_istore_n (lv' := [(2, .int r), (0, .ref a0), (1, .int l1)]) dL_takeOut_5 rfl (Nat.le_of_ble_eq_true rfl) rfl ?_
    refine z_goto 19 dL_takeOut_6 (by decide) ?_
    refine z_iload_n 0 dL_takeOut_19 rfl rfl ?_
    exact z_ireturn ⟨_, rfl, rfl, h⟩ rfl (Nat.le_of_ble_eq_true rfl) (Nat.le_of_ble_eq_true rfl) dL_takeOut_20
set_option maxRecDepth 20000 in
set_option maxHeartbeats 4000000 in
theorem w_L_bringIn {E : zE} {a0 : Nat} {l1 : Int32} {S : zS} {Q : Int32 → zS → Prop} (h : p_L_bringIn E a0 l1 S Q) : zMX E yL_bringIn cL_bringIn 4 (some .int) [(0, 6, 9, 25), (0, 6, 14, 16)] ({ frames := 9, cells := 2, slots := 12, locals := 146 } : Room) [.ref a0, .int l1] [] S (fun v X S1 => ∃ r, v = some (.int r) ∧ X = [] ∧ Q r S1) := by
  obtain ⟨hx9, h⟩ := h
  refine zMX_of RL (by decide) rfl (Nat.le_of_ble_eq_true rfl) ?_
  refine z_sub [0, 1] (lv' := [(0, .ref a0), (1, .int l1)]) rfl ?_
  refine z_aload_n 0 dL_bringIn_0 rfl rfl ?_
  refine z_iload_n 1 dL_bringIn_1 rfl rfl ?_
  refine z_callVI (ci := 10) (st := []) (w_X10_bringIn h) hx9.1 hx9.2 (Nat.le_of_ble_eq_true rfl) rfl zw_863 zw_860 zw_861 zw_862 zw_30 zy_X10_bringIn rfl rfl ⟨Nat.le_of_ble_eq_true rfl, Nat.le_of_ble_eq_true rfl⟩ ⟨Nat.le_of_ble_eq_true rfl, Nat.le_of_ble_eq_true rfl⟩ (Nat.le_of_ble_eq_true rfl) dL_bringIn_2 (fun ex S1 h => ?_) (fun r S1 h => ?_)
  · rcases h with ⟨rfl, h⟩ | ⟨rfl, h⟩
    · refine zx_catch [] ⟨0, 6, 9, 25⟩ [⟨0, 6, 14, 16⟩] rfl (by decide) (fun z hz => by simp at hz) (by decide) (by decide) zw_576 (fun q9 => ?_)
      refine z_astore_n (lv' := [(3, .ref q9), (0, .ref a0), (1, .int l1)]) dL_bringIn_9 rfl (Nat.le_of_ble_eq_true rfl) rfl ?_
      refine z_sipush (v := -7100) dL_bringIn_10 rfl ?_
      exact z_ireturn ⟨_, rfl, rfl, h⟩ rfl (Nat.le_of_ble_eq_true rfl) (Nat.le_of_ble_eq_true rfl) dL_bringIn_13
    · refine zx_catch [⟨0, 6, 9, 25⟩] ⟨0, 6, 14, 16⟩ [] rfl (by decide) (fun z hz => by
        simp only [List.mem_cons, List.not_mem_nil, or_false] at hz
        rcases hz with rfl
        · exact ⟨by decide, "java/lang/IndexOutOfBoundsException", by decide, by decide, zw_576⟩) (by decide) (by decide) zw_321 (fun q9 => ?_)
      refine z_astore_n (lv' := [(3, .ref q9), (0, .ref a0), (1, .int l1)]) dL_bringIn_14 rfl (Nat.le_of_ble_eq_true rfl) rfl ?_
      refine z_sipush (v := -7300) dL_bringIn_15 rfl ?_
      exact z_ireturn ⟨_, rfl, rfl, h⟩ rfl (Nat.le_of_ble_eq_true rfl) (Nat.le_of_ble_eq_true rfl) dL_bringIn_18
  · refine z_istore_n (lv' := [(2, .int r), (0, .ref a0), (1, .int l1)]) dL_bringIn_5 rfl (Nat.le_of_ble_eq_true rfl) rfl ?_
    refine z_goto 19 dL_bringIn_6 (by decide) ?_
    refine z_iload_n 0 dL_bringIn_19 rfl rfl ?_
    refine z_if_eq 27 dL_bringIn_20 (by decide) (fun c9 => ?_) (fun c9 => ?_)
    · have h := h.1 c9
      refine z_iconst (v := 0) dL_bringIn_27 rfl ?_
      exact z_ireturn ⟨_, rfl, rfl, h⟩ rfl (Nat.le_of_ble_eq_true rfl) (Nat.le_of_ble_eq_true rfl) dL_bringIn_28
    · have h := h.2 c9
      refine z_iconst (v := 1) dL_bringIn_23 rfl ?_
      refine z_goto 28 dL_bringIn_24 (by decide) ?_
      exact z_ireturn ⟨_, rfl, rfl, h⟩ rfl (Nat.le_of_ble_eq_true rfl) (Nat.le_of_ble_eq_true rfl) dL_bringIn_28
set_option maxRecDepth 20000 in
set_option maxHeartbeats 4000000 in
theorem w_L_mend {E : zE} {a0 : Nat} {l1 : Int32} {l2 : Int32} {S : zS} {Q : Int32 → zS → Prop} (h : p_L_mend E a0 l1 l2 S Q) : zMX E yL_mend cL_mend 5 (some .int) [(0, 7, 10, 25), (0, 7, 16, 14), (0, 7, 22, 16)] ({ frames := 9, cells := 3, slots := 18, locals := 147 } : Room) [.ref a0, .int l1, .int l2] [] S (fun v X S1 => ∃ r, v = some (.int r) ∧ X = [] ∧ Q r S1) := by
  obtain ⟨hx9, h⟩ := h
  refine zMX_of RL (by decide) rfl (Nat.le_of_ble_eq_true rfl) ?_
  refine z_sub [0, 1, 2] (lv' := [(0, .ref a0), (1, .int l1), (2, .int l2)]) rfl ?_
  refine z_aload_n 0 dL_mend_0 rfl rfl ?_
  refine z_iload_n 1 dL_mend_1 rfl rfl ?_
  refine z_iload_n 2 dL_mend_2 rfl rfl ?_
  refine z_callVI (ci := 10) (st := []) (w_X10_mend h) hx9.1 hx9.2 (Nat.le_of_ble_eq_true rfl) rfl zw_872 zw_869 zw_870 zw_871 zw_30 zy_X10_mend rfl rfl ⟨Nat.le_of_ble_eq_true rfl, Nat.le_of_ble_eq_true rfl⟩ ⟨Nat.le_of_ble_eq_true rfl, Nat.le_of_ble_eq_true rfl⟩ (Nat.le_of_ble_eq_true rfl) dL_mend_3 (fun ex S1 h => ?_) (fun r S1 h => ?_)
  · rcases h with ⟨rfl, h⟩ | ⟨rfl, h⟩ | ⟨rfl, h⟩
    · refine zx_catch [] ⟨0, 7, 10, 25⟩ [⟨0, 7, 16, 14⟩, ⟨0, 7, 22, 16⟩] rfl (by decide) (fun z hz => by simp at hz) (by decide) (by decide) zw_576 (fun q9 => ?_)
      refine z_astore (lv' := [(4, .ref q9), (0, .ref a0), (1, .int l1), (2, .int l2)]) dL_mend_10 (Nat.le_of_ble_eq_true rfl) rfl ?_
      refine z_sipush (v := -7100) dL_mend_12 rfl ?_
      exact z_ireturn ⟨_, rfl, rfl, h⟩ rfl (Nat.le_of_ble_eq_true rfl) (Nat.le_of_ble_eq_true rfl) dL_mend_15
    · refine zx_catch [⟨0, 7, 10, 25⟩] ⟨0, 7, 16, 14⟩ [⟨0, 7, 22, 16⟩] rfl (by decide) (fun z hz => by
        simp only [List.mem_cons, List.not_mem_nil, or_false] at hz
        rcases hz with rfl
        · exact ⟨by decide, "java/lang/IndexOutOfBoundsException", by decide, by decide, zw_576⟩) (by decide) (by decide) zw_320 (fun q9 => ?_)
      refine z_astore (lv' := [(4, .ref q9), (0, .ref a0), (1, .int l1), (2, .int l2)]) dL_mend_16 (Nat.le_of_ble_eq_true rfl) rfl ?_
      refine z_sipush (v := -7200) dL_mend_18 rfl ?_
      exact z_ireturn ⟨_, rfl, rfl, h⟩ rfl (Nat.le_of_ble_eq_true rfl) (Nat.le_of_ble_eq_true rfl) dL_mend_21
    · refine zx_catch [⟨0, 7, 10, 25⟩, ⟨0, 7, 16, 14⟩] ⟨0, 7, 22, 16⟩ [] rfl (by decide) (fun z hz => by
        simp only [List.mem_cons, List.not_mem_nil, or_false] at hz
        rcases hz with rfl | rfl
        · exact ⟨by decide, "java/lang/IndexOutOfBoundsException", by decide, by decide, zw_576⟩
        · exact ⟨by decide, "java/lang/IllegalArgumentException", by decide, by decide, zw_320⟩) (by decide) (by decide) zw_321 (fun q9 => ?_)
      refine z_astore (lv' := [(4, .ref q9), (0, .ref a0), (1, .int l1), (2, .int l2)]) dL_mend_22 (Nat.le_of_ble_eq_true rfl) rfl ?_
      refine z_sipush (v := -7300) dL_mend_24 rfl ?_
      exact z_ireturn ⟨_, rfl, rfl, h⟩ rfl (Nat.le_of_ble_eq_true rfl) (Nat.le_of_ble_eq_true rfl) dL_mend_27
  · refine z_istore_n (lv' := [(3, .int r), (0, .ref a0), (1, .int l1), (2, .int l2)]) dL_mend_6 rfl (Nat.le_of_ble_eq_true rfl) rfl ?_
    refine z_goto 28 dL_mend_7 (by decide) ?_
    refine z_iload_n 0 dL_mend_28 rfl rfl ?_
    exact z_ireturn ⟨_, rfl, rfl, h⟩ rfl (Nat.le_of_ble_eq_true rfl) (Nat.le_of_ble_eq_true rfl) dL_mend_29
set_option maxRecDepth 20000 in
set_option maxHeartbeats 4000000 in
theorem w_L_setBand {E : zE} {a0 : Nat} {l1 : Int32} {l2 : Int32} {S : zS} {Q : Int32 → zS → Prop} (h : p_L_setBand E a0 l1 l2 S Q) : zMX E yL_setBand cL_setBand 5 (some .int) [(0, 7, 10, 25), (0, 7, 16, 14)] ({ frames := 8, cells := 2, slots := 12, locals := 127 } : Room) [.ref a0, .int l1, .int l2] [] S (fun v X S1 => ∃ r, v = some (.int r) ∧ X = [] ∧ Q r S1) := by
  obtain ⟨hx9, h⟩ := h
  refine zMX_of RL (by decide) rfl (Nat.le_of_ble_eq_true rfl) ?_
  refine z_sub [0, 1, 2] (lv' := [(0, .ref a0), (1, .int l1), (2, .int l2)]) rfl ?_
  refine z_aload_n 0 dL_setBand_0 rfl rfl ?_
  refine z_iload_n 1 dL_setBand_1 rfl rfl ?_
  refine z_iload_n 2 dL_setBand_2 rfl rfl ?_
  refine z_callVI (ci := 10) (st := []) (w_X10_setBand h) hx9.1 hx9.2 (Nat.le_of_ble_eq_true rfl) rfl zw_883 zw_880 zw_881 zw_882 zw_30 zy_X10_setBand rfl rfl ⟨Nat.le_of_ble_eq_true rfl, Nat.le_of_ble_eq_true rfl⟩ ⟨Nat.le_of_ble_eq_true rfl, Nat.le_of_ble_eq_true rfl⟩ (Nat.le_of_ble_eq_true rfl) dL_setBand_3 (fun ex S1 h => ?_) (fun r S1 h => ?_)
  · rcases h with ⟨rfl, h⟩ | ⟨rfl, h⟩
    · refine zx_catch [] ⟨0, 7, 10, 25⟩ [⟨0, 7, 16, 14⟩] rfl (by decide) (fun z hz => by simp at hz) (by decide) (by decide) zw_576 (fun q9 => ?_)
      refine z_astore (lv' := [(4, .ref q9), (0, .ref a0), (1, .int l1), (2, .int l2)]) dL_setBand_10 (Nat.le_of_ble_eq_true rfl) rfl ?_
      refine z_sipush (v := -7100) dL_setBand_12 rfl ?_
      exact z_ireturn ⟨_, rfl, rfl, h⟩ rfl (Nat.le_of_ble_eq_true rfl) (Nat.le_of_ble_eq_true rfl) dL_setBand_15
    · refine zx_catch [⟨0, 7, 10, 25⟩] ⟨0, 7, 16, 14⟩ [] rfl (by decide) (fun z hz => by
        simp only [List.mem_cons, List.not_mem_nil, or_false] at hz
        rcases hz with rfl
        · exact ⟨by decide, "java/lang/IndexOutOfBoundsException", by decide, by decide, zw_576⟩) (by decide) (by decide) zw_320 (fun q9 => ?_)
      refine z_astore (lv' := [(4, .ref q9), (0, .ref a0), (1, .int l1), (2, .int l2)]) dL_setBand_16 (Nat.le_of_ble_eq_true rfl) rfl ?_
      refine z_sipush (v := -7200) dL_setBand_18 rfl ?_
      exact z_ireturn ⟨_, rfl, rfl, h⟩ rfl (Nat.le_of_ble_eq_true rfl) (Nat.le_of_ble_eq_true rfl) dL_setBand_21
  · refine z_istore_n (lv' := [(3, .int r), (0, .ref a0), (1, .int l1), (2, .int l2)]) dL_setBand_6 rfl (Nat.le_of_ble_eq_true rfl) rfl ?_
    refine z_goto 22 dL_setBand_7 (by decide) ?_
    refine z_iload_n 0 dL_setBand_22 rfl rfl ?_
    exact z_ireturn ⟨_, rfl, rfl, h⟩ rfl (Nat.le_of_ble_eq_true rfl) (Nat.le_of_ble_eq_true rfl) dL_setBand_23
set_option maxRecDepth 20000 in
set_option maxHeartbeats 4000000 in
theorem w_L_plan {E : zE} {a0 : Nat} {l1 : Int32} {l2 : Int32} {S : zS} {Q : Int32 → zS → Prop} (h : p_L_plan E a0 l1 l2 S Q) : zMX E yL_plan cL_plan 5 (some .int) [(0, 7, 10, 25), (0, 7, 16, 14), (0, 7, 22, 16)] ({ frames := 9, cells := 3, slots := 34, locals := 195 } : Room) [.ref a0, .int l1, .int l2] [] S (fun v X S1 => ∃ r, v = some (.int r) ∧ X = [] ∧ Q r S1) := by
  obtain ⟨hx9, h⟩ := h
  refine zMX_of RL (by decide) rfl (Nat.le_of_ble_eq_true rfl) ?_
  refine z_sub [0, 1, 2] (lv' := [(0, .ref a0), (1, .int l1), (2, .int l2)]) rfl ?_
  refine z_aload_n 0 dL_plan_0 rfl rfl ?_
  refine z_iload_n 1 dL_plan_1 rfl rfl ?_
  refine z_iload_n 2 dL_plan_2 rfl rfl ?_
  refine z_callVI (ci := 10) (st := []) (w_X10_plan h) hx9.1 hx9.2 (Nat.le_of_ble_eq_true rfl) rfl zw_890 zw_887 zw_888 zw_889 zw_30 zy_X10_plan rfl rfl ⟨Nat.le_of_ble_eq_true rfl, Nat.le_of_ble_eq_true rfl⟩ ⟨Nat.le_of_ble_eq_true rfl, Nat.le_of_ble_eq_true rfl⟩ (Nat.le_of_ble_eq_true rfl) dL_plan_3 (fun ex S1 h => ?_) (fun r S1 h => ?_)
  · rcases h with ⟨rfl, h⟩ | ⟨rfl, h⟩ | ⟨rfl, h⟩
    · refine zx_catch [] ⟨0, 7, 10, 25⟩ [⟨0, 7, 16, 14⟩, ⟨0, 7, 22, 16⟩] rfl (by decide) (fun z hz => by simp at hz) (by decide) (by decide) zw_576 (fun q9 => ?_)
      refine z_astore (lv' := [(4, .ref q9), (0, .ref a0), (1, .int l1), (2, .int l2)]) dL_plan_10 (Nat.le_of_ble_eq_true rfl) rfl ?_
      refine z_sipush (v := -7100) dL_plan_12 rfl ?_
      exact z_ireturn ⟨_, rfl, rfl, h⟩ rfl (Nat.le_of_ble_eq_true rfl) (Nat.le_of_ble_eq_true rfl) dL_plan_15
    · refine zx_catch [⟨0, 7, 10, 25⟩] ⟨0, 7, 16, 14⟩ [⟨0, 7, 22, 16⟩] rfl (by decide) (fun z hz => by
        simp only [List.mem_cons, List.not_mem_nil, or_false] at hz
        rcases hz with rfl
        · exact ⟨by decide, "java/lang/IndexOutOfBoundsException", by decide, by decide, zw_576⟩) (by decide) (by decide) zw_320 (fun q9 => ?_)
      refine z_astore (lv' := [(4, .ref q9), (0, .ref a0), (1, .int l1), (2, .int l2)]) dL_plan_16 (Nat.le_of_ble_eq_true rfl) rfl ?_
      refine z_sipush (v := -7200) dL_plan_18 rfl ?_
      exact z_ireturn ⟨_, rfl, rfl, h⟩ rfl (Nat.le_of_ble_eq_true rfl) (Nat.le_of_ble_eq_true rfl) dL_plan_21
    · refine zx_catch [⟨0, 7, 10, 25⟩, ⟨0, 7, 16, 14⟩] ⟨0, 7, 22, 16⟩ [] rfl (by decide) (fun z hz => by
        simp only [List.mem_cons, List.not_mem_nil, or_false] at hz
        rcases hz with rfl | rfl
        · exact ⟨by decide, "java/lang/IndexOutOfBoundsException", by decide, by decide, zw_576⟩
        · exact ⟨by decide, "java/lang/IllegalArgumentException", by decide, by decide, zw_320⟩) (by decide) (by decide) zw_321 (fun q9 => ?_)
      refine z_astore (lv' := [(4, .ref q9), (0, .ref a0), (1, .int l1), (2, .int l2)]) dL_plan_22 (Nat.le_of_ble_eq_true rfl) rfl ?_
      refine z_sipush (v := -7300) dL_plan_24 rfl ?_
      exact z_ireturn ⟨_, rfl, rfl, h⟩ rfl (Nat.le_of_ble_eq_true rfl) (Nat.le_of_ble_eq_true rfl) dL_plan_27
  · refine z_istore_n (lv' := [(3, .int r), (0, .ref a0), (1, .int l1), (2, .int l2)]) dL_plan_6 rfl (Nat.le_of_ble_eq_true rfl) rfl ?_
    refine z_goto 28 dL_plan_7 (by decide) ?_
    refine z_iload_n 0 dL_plan_28 rfl rfl ?_
    exact z_ireturn ⟨_, rfl, rfl, h⟩ rfl (Nat.le_of_ble_eq_true rfl) (Nat.le_of_ble_eq_true rfl) dL_plan_29
set_option maxRecDepth 20000 in
set_option maxHeartbeats 4000000 in
theorem w_L_pass {E : zE} {a0 : Nat} {S : zS} {Q : Int32 → zS → Prop} (h : p_L_pass E a0 S Q) : zMX E yL_pass cL_pass 3 (some .int) [(0, 5, 8, 16)] ({ frames := 8, cells := 2, slots := 12, locals := 151 } : Room) [.ref a0] [] S (fun v X S1 => ∃ r, v = some (.int r) ∧ X = [] ∧ Q r S1) := by
  obtain ⟨hx9, h⟩ := h
  refine zMX_of RL (by decide) rfl (Nat.le_of_ble_eq_true rfl) ?_
  refine z_sub [0] (lv' := [(0, .ref a0)]) rfl ?_
  refine z_aload_n 0 dL_pass_0 rfl rfl ?_
  refine z_callVI (ci := 10) (st := []) (w_X10_pass h) hx9.1 hx9.2 (Nat.le_of_ble_eq_true rfl) rfl zw_918 zw_915 zw_916 zw_917 zw_30 zy_X10_pass rfl rfl ⟨Nat.le_of_ble_eq_true rfl, Nat.le_of_ble_eq_true rfl⟩ ⟨Nat.le_of_ble_eq_true rfl, Nat.le_of_ble_eq_true rfl⟩ (Nat.le_of_ble_eq_true rfl) dL_pass_1 (fun ex S1 h => ?_) (fun r S1 h => ?_)
  · obtain ⟨rfl, h⟩ := h
    refine zx_catch [] ⟨0, 5, 8, 16⟩ [] rfl (by decide) (fun z hz => by simp at hz) (by decide) (by decide) zw_321 (fun q9 => ?_)
    refine z_astore_n (lv' := [(2, .ref q9), (0, .ref a0)]) dL_pass_8 rfl (Nat.le_of_ble_eq_true rfl) rfl ?_
    refine z_sipush (v := -7300) dL_pass_9 rfl ?_
    exact z_ireturn ⟨_, rfl, rfl, h⟩ rfl (Nat.le_of_ble_eq_true rfl) (Nat.le_of_ble_eq_true rfl) dL_pass_12
  · refine z_istore_n (lv' := [(1, .int r), (0, .ref a0)]) dL_pass_4 rfl (Nat.le_of_ble_eq_true rfl) rfl ?_
    refine z_goto 13 dL_pass_5 (by decide) ?_
    refine z_iload_n 0 dL_pass_13 rfl rfl ?_
    exact z_ireturn ⟨_, rfl, rfl, h⟩ rfl (Nat.le_of_ble_eq_true rfl) (Nat.le_of_ble_eq_true rfl) dL_pass_14
set_option maxRecDepth 20000 in
set_option maxHeartbeats 4000000 in
theorem w_L_ring {E : zE} {a0 : Nat} {l1 : Int32} {l2 : Int32} {l3 : Int32} {S : zS} {Q : Int32 → zS → Prop} (h : p_L_ring E a0 l1 l2 l3 S Q) : zMX E yL_ring cL_ring 6 (some .int) [(0, 9, 12, 25), (0, 9, 18, 14), (0, 9, 24, 16)] ({ frames := 9, cells := 5, slots := 30, locals := 199 } : Room) [.ref a0, .int l1, .int l2, .int l3] [] S (fun v X S1 => ∃ r, v = some (.int r) ∧ X = [] ∧ Q r S1) := by
  obtain ⟨hx9, h⟩ := h
  refine zMX_of RL (by decide) rfl (Nat.le_of_ble_eq_true rfl) ?_
  refine z_sub [0, 1, 2, 3] (lv' := [(0, .ref a0), (1, .int l1), (2, .int l2), (3, .int l3)]) rfl ?_
  refine z_aload_n 0 dL_ring_0 rfl rfl ?_
  refine z_iload_n 1 dL_ring_1 rfl rfl ?_
  refine z_iload_n 2 dL_ring_2 rfl rfl ?_
  refine z_iload_n 3 dL_ring_3 rfl rfl ?_
  refine z_callVI (ci := 10) (st := []) (w_X10_ring h) hx9.1 hx9.2 (Nat.le_of_ble_eq_true rfl) rfl zw_953 zw_950 zw_951 zw_952 zw_30 zy_X10_ring rfl rfl ⟨Nat.le_of_ble_eq_true rfl, Nat.le_of_ble_eq_true rfl⟩ ⟨Nat.le_of_ble_eq_true rfl, Nat.le_of_ble_eq_true rfl⟩ (Nat.le_of_ble_eq_true rfl) dL_ring_4 (fun ex S1 h => ?_) (fun r S1 h => ?_)
  · rcases h with ⟨rfl, h⟩ | ⟨rfl, h⟩ | ⟨rfl, h⟩
    · refine zx_catch [] ⟨0, 9, 12, 25⟩ [⟨0, 9, 18, 14⟩, ⟨0, 9, 24, 16⟩] rfl (by decide) (fun z hz => by simp at hz) (by decide) (by decide) zw_576 (fun q9 => ?_)
      refine z_astore (lv' := [(5, .ref q9), (0, .ref a0), (1, .int l1), (2, .int l2), (3, .int l3)]) dL_ring_12 (Nat.le_of_ble_eq_true rfl) rfl ?_
      refine z_sipush (v := -7100) dL_ring_14 rfl ?_
      exact z_ireturn ⟨_, rfl, rfl, h⟩ rfl (Nat.le_of_ble_eq_true rfl) (Nat.le_of_ble_eq_true rfl) dL_ring_17
    · refine zx_catch [⟨0, 9, 12, 25⟩] ⟨0, 9, 18, 14⟩ [⟨0, 9, 24, 16⟩] rfl (by decide) (fun z hz => by
        simp only [List.mem_cons, List.not_mem_nil, or_false] at hz
        rcases hz with rfl
        · exact ⟨by decide, "java/lang/IndexOutOfBoundsException", by decide, by decide, zw_576⟩) (by decide) (by decide) zw_320 (fun q9 => ?_)
      refine z_astore (lv' := [(5, .ref q9), (0, .ref a0), (1, .int l1), (2, .int l2), (3, .int l3)]) dL_ring_18 (Nat.le_of_ble_eq_true rfl) rfl ?_
      refine z_sipush (v := -7200) dL_ring_20 rfl ?_
      exact z_ireturn ⟨_, rfl, rfl, h⟩ rfl (Nat.le_of_ble_eq_true rfl) (Nat.le_of_ble_eq_true rfl) dL_ring_23
    · refine zx_catch [⟨0, 9, 12, 25⟩, ⟨0, 9, 18, 14⟩] ⟨0, 9, 24, 16⟩ [] rfl (by decide) (fun z hz => by
        simp only [List.mem_cons, List.not_mem_nil, or_false] at hz
        rcases hz with rfl | rfl
        · exact ⟨by decide, "java/lang/IndexOutOfBoundsException", by decide, by decide, zw_576⟩
        · exact ⟨by decide, "java/lang/IllegalArgumentException", by decide, by decide, zw_320⟩) (by decide) (by decide) zw_321 (fun q9 => ?_)
      refine z_astore (lv' := [(5, .ref q9), (0, .ref a0), (1, .int l1), (2, .int l2), (3, .int l3)]) dL_ring_24 (Nat.le_of_ble_eq_true rfl) rfl ?_
      refine z_sipush (v := -7300) dL_ring_26 rfl ?_
      exact z_ireturn ⟨_, rfl, rfl, h⟩ rfl (Nat.le_of_ble_eq_true rfl) (Nat.le_of_ble_eq_true rfl) dL_ring_29
  · refine z_istore (lv' := [(4, .int r), (0, .ref a0), (1, .int l1), (2, .int l2), (3, .int l3)]) dL_ring_7 (Nat.le_of_ble_eq_true rfl) rfl ?_
    refine z_goto 30 dL_ring_9 (by decide) ?_
    refine z_iload 0 dL_ring_30 rfl ?_
    exact z_ireturn ⟨_, rfl, rfl, h⟩ rfl (Nat.le_of_ble_eq_true rfl) (Nat.le_of_ble_eq_true rfl) dL_ring_32
set_option maxRecDepth 20000 in
set_option maxHeartbeats 4000000 in
theorem w_L_stand {E : zE} {a0 : Nat} {S : zS} {Q : Int32 → zS → Prop} (h : p_L_stand E a0 S Q) : zMX E yL_stand cL_stand 3 (some .int) [(0, 5, 8, 16)] ({ frames := 7, cells := 1, slots := 6, locals := 173 } : Room) [.ref a0] [] S (fun v X S1 => ∃ r, v = some (.int r) ∧ X = [] ∧ Q r S1) := by
  obtain ⟨hx9, h⟩ := h
  refine zMX_of RL (by decide) rfl (Nat.le_of_ble_eq_true rfl) ?_
  refine z_sub [0] (lv' := [(0, .ref a0)]) rfl ?_
  refine z_aload_n 0 dL_stand_0 rfl rfl ?_
  refine z_callVI (ci := 10) (st := []) (w_X10_stand h) hx9.1 hx9.2 (Nat.le_of_ble_eq_true rfl) rfl zw_1064 zw_1061 zw_1062 zw_1063 zw_30 zy_X10_stand rfl rfl ⟨Nat.le_of_ble_eq_true rfl, Nat.le_of_ble_eq_true rfl⟩ ⟨Nat.le_of_ble_eq_true rfl, Nat.le_of_ble_eq_true rfl⟩ (Nat.le_of_ble_eq_true rfl) dL_stand_1 (fun ex S1 h => ?_) (fun r S1 h => ?_)
  · obtain ⟨rfl, h⟩ := h
    refine zx_catch [] ⟨0, 5, 8, 16⟩ [] rfl (by decide) (fun z hz => by simp at hz) (by decide) (by decide) zw_321 (fun q9 => ?_)
    refine z_astore_n (lv' := [(2, .ref q9), (0, .ref a0)]) dL_stand_8 rfl (Nat.le_of_ble_eq_true rfl) rfl ?_
    refine z_sipush (v := -7300) dL_stand_9 rfl ?_
    exact z_ireturn ⟨_, rfl, rfl, h⟩ rfl (Nat.le_of_ble_eq_true rfl) (Nat.le_of_ble_eq_true rfl) dL_stand_12
  · refine z_istore_n (lv' := [(1, .int r), (0, .ref a0)]) dL_stand_4 rfl (Nat.le_of_ble_eq_true rfl) rfl ?_
    refine z_goto 13 dL_stand_5 (by decide) ?_
    refine z_iload_n 0 dL_stand_13 rfl rfl ?_
    exact z_ireturn ⟨_, rfl, rfl, h⟩ rfl (Nat.le_of_ble_eq_true rfl) (Nat.le_of_ble_eq_true rfl) dL_stand_14
set_option maxRecDepth 20000 in
set_option maxHeartbeats 4000000 in
theorem w_L_setPatience {E : zE} {a0 : Nat} {l1 : Int32} {S : zS} {Q : Int32 → zS → Prop} (h : p_L_setPatience E a0 l1 S Q) : zMX E yL_setPatience cL_setPatience 4 (some .int) [(0, 6, 9, 14)] ({ frames := 8, cells := 1, slots := 6, locals := 126 } : Room) [.ref a0, .int l1] [] S (fun v X S1 => ∃ r, v = some (.int r) ∧ X = [] ∧ Q r S1) := by
  obtain ⟨hx9, h⟩ := h
  refine zMX_of RL (by decide) rfl (Nat.le_of_ble_eq_true rfl) ?_
  refine z_sub [0, 1] (lv' := [(0, .ref a0), (1, .int l1)]) rfl ?_
  refine z_aload_n 0 dL_setPatience_0 rfl rfl ?_
  refine z_iload_n 1 dL_setPatience_1 rfl rfl ?_
  refine z_callVI (ci := 10) (st := []) (w_X10_setPatience h) hx9.1 hx9.2 (Nat.le_of_ble_eq_true rfl) rfl zw_1088 zw_1085 zw_1086 zw_1087 zw_30 zy_X10_setPatience rfl rfl ⟨Nat.le_of_ble_eq_true rfl, Nat.le_of_ble_eq_true rfl⟩ ⟨Nat.le_of_ble_eq_true rfl, Nat.le_of_ble_eq_true rfl⟩ (Nat.le_of_ble_eq_true rfl) dL_setPatience_2 (fun ex S1 h => ?_) (fun r S1 h => ?_)
  · obtain ⟨rfl, h⟩ := h
    refine zx_catch [] ⟨0, 6, 9, 14⟩ [] rfl (by decide) (fun z hz => by simp at hz) (by decide) (by decide) zw_320 (fun q9 => ?_)
    refine z_astore_n (lv' := [(3, .ref q9), (0, .ref a0), (1, .int l1)]) dL_setPatience_9 rfl (Nat.le_of_ble_eq_true rfl) rfl ?_
    refine z_sipush (v := -7200) dL_setPatience_10 rfl ?_
    exact z_ireturn ⟨_, rfl, rfl, h⟩ rfl (Nat.le_of_ble_eq_true rfl) (Nat.le_of_ble_eq_true rfl) dL_setPatience_13
  · refine z_istore_n (lv' := [(2, .int r), (0, .ref a0), (1, .int l1)]) dL_setPatience_5 rfl (Nat.le_of_ble_eq_true rfl) rfl ?_
    refine z_goto 14 dL_setPatience_6 (by decide) ?_
    refine z_iload_n 0 dL_setPatience_14 rfl rfl ?_
    exact z_ireturn ⟨_, rfl, rfl, h⟩ rfl (Nat.le_of_ble_eq_true rfl) (Nat.le_of_ble_eq_true rfl) dL_setPatience_15
set_option maxRecDepth 20000 in
set_option maxHeartbeats 4000000 in
theorem w_L_pull {E : zE} {a0 : Nat} {l1 : Int32} {l2 : Int32} {S : zS} {Q : Int32 → zS → Prop} (h : p_L_pull E a0 l1 l2 S Q) : zMX E yL_pull cL_pull 5 (some .int) [(0, 7, 10, 25), (0, 7, 16, 14), (0, 7, 22, 16)] ({ frames := 9, cells := 4, slots := 24, locals := 199 } : Room) [.ref a0, .int l1, .int l2] [] S (fun v X S1 => ∃ r, v = some (.int r) ∧ X = [] ∧ Q r S1) := by
  obtain ⟨hx9, h⟩ := h
  refine zMX_of RL (by decide) rfl (Nat.le_of_ble_eq_true rfl) ?_
  refine z_sub [0, 1, 2] (lv' := [(0, .ref a0), (1, .int l1), (2, .int l2)]) rfl ?_
  refine z_aload_n 0 dL_pull_0 rfl rfl ?_
  refine z_iload_n 1 dL_pull_1 rfl rfl ?_
  refine z_iload_n 2 dL_pull_2 rfl rfl ?_
  refine z_callVI (ci := 10) (st := []) (w_X10_pull h) hx9.1 hx9.2 (Nat.le_of_ble_eq_true rfl) rfl zw_1095 zw_1092 zw_1093 zw_1094 zw_30 zy_X10_pull rfl rfl ⟨Nat.le_of_ble_eq_true rfl, Nat.le_of_ble_eq_true rfl⟩ ⟨Nat.le_of_ble_eq_true rfl, Nat.le_of_ble_eq_true rfl⟩ (Nat.le_of_ble_eq_true rfl) dL_pull_3 (fun ex S1 h => ?_) (fun r S1 h => ?_)
  · rcases h with ⟨rfl, h⟩ | ⟨rfl, h⟩ | ⟨rfl, h⟩
    · refine zx_catch [] ⟨0, 7, 10, 25⟩ [⟨0, 7, 16, 14⟩, ⟨0, 7, 22, 16⟩] rfl (by decide) (fun z hz => by simp at hz) (by decide) (by decide) zw_576 (fun q9 => ?_)
      refine z_astore (lv' := [(4, .ref q9), (0, .ref a0), (1, .int l1), (2, .int l2)]) dL_pull_10 (Nat.le_of_ble_eq_true rfl) rfl ?_
      refine z_sipush (v := -7100) dL_pull_12 rfl ?_
      exact z_ireturn ⟨_, rfl, rfl, h⟩ rfl (Nat.le_of_ble_eq_true rfl) (Nat.le_of_ble_eq_true rfl) dL_pull_15
    · refine zx_catch [⟨0, 7, 10, 25⟩] ⟨0, 7, 16, 14⟩ [⟨0, 7, 22, 16⟩] rfl (by decide) (fun z hz => by
        simp only [List.mem_cons, List.not_mem_nil, or_false] at hz
        rcases hz with rfl
        · exact ⟨by decide, "java/lang/IndexOutOfBoundsException", by decide, by decide, zw_576⟩) (by decide) (by decide) zw_320 (fun q9 => ?_)
      refine z_astore (lv' := [(4, .ref q9), (0, .ref a0), (1, .int l1), (2, .int l2)]) dL_pull_16 (Nat.le_of_ble_eq_true rfl) rfl ?_
      refine z_sipush (v := -7200) dL_pull_18 rfl ?_
      exact z_ireturn ⟨_, rfl, rfl, h⟩ rfl (Nat.le_of_ble_eq_true rfl) (Nat.le_of_ble_eq_true rfl) dL_pull_21
    · refine zx_catch [⟨0, 7, 10, 25⟩, ⟨0, 7, 16, 14⟩] ⟨0, 7, 22, 16⟩ [] rfl (by decide) (fun z hz => by
        simp only [List.mem_cons, List.not_mem_nil, or_false] at hz
        rcases hz with rfl | rfl
        · exact ⟨by decide, "java/lang/IndexOutOfBoundsException", by decide, by decide, zw_576⟩
        · exact ⟨by decide, "java/lang/IllegalArgumentException", by decide, by decide, zw_320⟩) (by decide) (by decide) zw_321 (fun q9 => ?_)
      refine z_astore (lv' := [(4, .ref q9), (0, .ref a0), (1, .int l1), (2, .int l2)]) dL_pull_22 (Nat.le_of_ble_eq_true rfl) rfl ?_
      refine z_sipush (v := -7300) dL_pull_24 rfl ?_
      exact z_ireturn ⟨_, rfl, rfl, h⟩ rfl (Nat.le_of_ble_eq_true rfl) (Nat.le_of_ble_eq_true rfl) dL_pull_27
  · refine z_istore_n (lv' := [(3, .int r), (0, .ref a0), (1, .int l1), (2, .int l2)]) dL_pull_6 rfl (Nat.le_of_ble_eq_true rfl) rfl ?_
    refine z_goto 28 dL_pull_7 (by decide) ?_
    refine z_iload_n 0 dL_pull_28 rfl rfl ?_
    exact z_ireturn ⟨_, rfl, rfl, h⟩ rfl (Nat.le_of_ble_eq_true rfl) (Nat.le_of_ble_eq_true rfl) dL_pull_29
set_option maxRecDepth 20000 in
set_option maxHeartbeats 4000000 in
theorem w_L_due {E : zE} {a0 : Nat} {l1 : Int32} {S : zS} {Q : Int32 → zS → Prop} (h : p_L_due E a0 l1 S Q) : zMX E yL_due cL_due 4 (some .int) [(0, 6, 9, 25), (0, 6, 14, 16)] ({ frames := 8, cells := 2, slots := 12, locals := 125 } : Room) [.ref a0, .int l1] [] S (fun v X S1 => ∃ r, v = some (.int r) ∧ X = [] ∧ Q r S1) := by
  obtain ⟨hx9, h⟩ := h
  refine zMX_of RL (by decide) rfl (Nat.le_of_ble_eq_true rfl) ?_
  refine z_sub [0, 1] (lv' := [(0, .ref a0), (1, .int l1)]) rfl ?_
  refine z_aload_n 0 dL_due_0 rfl rfl ?_
  refine z_iload_n 1 dL_due_1 rfl rfl ?_
  refine z_callVI (ci := 10) (st := []) (w_X10_due h) hx9.1 hx9.2 (Nat.le_of_ble_eq_true rfl) rfl zw_1147 zw_1144 zw_1145 zw_1146 zw_30 zy_X10_due rfl rfl ⟨Nat.le_of_ble_eq_true rfl, Nat.le_of_ble_eq_true rfl⟩ ⟨Nat.le_of_ble_eq_true rfl, Nat.le_of_ble_eq_true rfl⟩ (Nat.le_of_ble_eq_true rfl) dL_due_2 (fun ex S1 h => ?_) (fun r S1 h => ?_)
  · rcases h with ⟨rfl, h⟩ | ⟨rfl, h⟩
    · refine zx_catch [] ⟨0, 6, 9, 25⟩ [⟨0, 6, 14, 16⟩] rfl (by decide) (fun z hz => by simp at hz) (by decide) (by decide) zw_576 (fun q9 => ?_)
      refine z_astore_n (lv' := [(3, .ref q9), (0, .ref a0), (1, .int l1)]) dL_due_9 rfl (Nat.le_of_ble_eq_true rfl) rfl ?_
      refine z_sipush (v := -7100) dL_due_10 rfl ?_
      exact z_ireturn ⟨_, rfl, rfl, h⟩ rfl (Nat.le_of_ble_eq_true rfl) (Nat.le_of_ble_eq_true rfl) dL_due_13
    · refine zx_catch [⟨0, 6, 9, 25⟩] ⟨0, 6, 14, 16⟩ [] rfl (by decide) (fun z hz => by
        simp only [List.mem_cons, List.not_mem_nil, or_false] at hz
        rcases hz with rfl
        · exact ⟨by decide, "java/lang/IndexOutOfBoundsException", by decide, by decide, zw_576⟩) (by decide) (by decide) zw_321 (fun q9 => ?_)
      refine z_astore_n (lv' := [(3, .ref q9), (0, .ref a0), (1, .int l1)]) dL_due_14 rfl (Nat.le_of_ble_eq_true rfl) rfl ?_
      refine z_sipush (v := -7300) dL_due_15 rfl ?_
      exact z_ireturn ⟨_, rfl, rfl, h⟩ rfl (Nat.le_of_ble_eq_true rfl) (Nat.le_of_ble_eq_true rfl) dL_due_18
  · refine z_istore_n (lv' := [(2, .int r), (0, .ref a0), (1, .int l1)]) dL_due_5 rfl (Nat.le_of_ble_eq_true rfl) rfl ?_
    refine z_goto 19 dL_due_6 (by decide) ?_
    refine z_iload_n 0 dL_due_19 rfl rfl ?_
    exact z_ireturn ⟨_, rfl, rfl, h⟩ rfl (Nat.le_of_ble_eq_true rfl) (Nat.le_of_ble_eq_true rfl) dL_due_20
set_option maxRecDepth 20000 in
set_option maxHeartbeats 4000000 in
theorem w_L_head {E : zE} {a0 : Nat} {l1 : Int32} {l2 : Int32} {S : zS} {Q : Int32 → zS → Prop} (h : p_L_head E a0 l1 l2 S Q) : zMX E yL_head cL_head 5 (some .int) [(0, 7, 10, 25), (0, 7, 16, 14)] ({ frames := 9, cells := 2, slots := 12, locals := 147 } : Room) [.ref a0, .int l1, .int l2] [] S (fun v X S1 => ∃ r, v = some (.int r) ∧ X = [] ∧ Q r S1) := by
  obtain ⟨hx9, h⟩ := h
  refine zMX_of RL (by decide) rfl (Nat.le_of_ble_eq_true rfl) ?_
  refine z_sub [0, 1, 2] (lv' := [(0, .ref a0), (1, .int l1), (2, .int l2)]) rfl ?_
  refine z_aload_n 0 dL_head_0 rfl rfl ?_
  refine z_iload_n 1 dL_head_1 rfl rfl ?_
  refine z_iload_n 2 dL_head_2 rfl rfl ?_
  refine z_callVI (ci := 10) (st := []) (w_X10_head h) hx9.1 hx9.2 (Nat.le_of_ble_eq_true rfl) rfl zw_1166 zw_1163 zw_1164 zw_1165 zw_30 zy_X10_head rfl rfl ⟨Nat.le_of_ble_eq_true rfl, Nat.le_of_ble_eq_true rfl⟩ ⟨Nat.le_of_ble_eq_true rfl, Nat.le_of_ble_eq_true rfl⟩ (Nat.le_of_ble_eq_true rfl) dL_head_3 (fun ex S1 h => ?_) (fun r S1 h => ?_)
  · rcases h with ⟨rfl, h⟩ | ⟨rfl, h⟩
    · refine zx_catch [] ⟨0, 7, 10, 25⟩ [⟨0, 7, 16, 14⟩] rfl (by decide) (fun z hz => by simp at hz) (by decide) (by decide) zw_576 (fun q9 => ?_)
      refine z_astore (lv' := [(4, .ref q9), (0, .ref a0), (1, .int l1), (2, .int l2)]) dL_head_10 (Nat.le_of_ble_eq_true rfl) rfl ?_
      refine z_sipush (v := -7100) dL_head_12 rfl ?_
      exact z_ireturn ⟨_, rfl, rfl, h⟩ rfl (Nat.le_of_ble_eq_true rfl) (Nat.le_of_ble_eq_true rfl) dL_head_15
    · refine zx_catch [⟨0, 7, 10, 25⟩] ⟨0, 7, 16, 14⟩ [] rfl (by decide) (fun z hz => by
        simp only [List.mem_cons, List.not_mem_nil, or_false] at hz
        rcases hz with rfl
        · exact ⟨by decide, "java/lang/IndexOutOfBoundsException", by decide, by decide, zw_576⟩) (by decide) (by decide) zw_320 (fun q9 => ?_)
      refine z_astore (lv' := [(4, .ref q9), (0, .ref a0), (1, .int l1), (2, .int l2)]) dL_head_16 (Nat.le_of_ble_eq_true rfl) rfl ?_
      refine z_sipush (v := -7200) dL_head_18 rfl ?_
      exact z_ireturn ⟨_, rfl, rfl, h⟩ rfl (Nat.le_of_ble_eq_true rfl) (Nat.le_of_ble_eq_true rfl) dL_head_21
  · refine z_istore_n (lv' := [(3, .int r), (0, .ref a0), (1, .int l1), (2, .int l2)]) dL_head_6 rfl (Nat.le_of_ble_eq_true rfl) rfl ?_
    refine z_goto 22 dL_head_7 (by decide) ?_
    refine z_iload_n 0 dL_head_22 rfl rfl ?_
    exact z_ireturn ⟨_, rfl, rfl, h⟩ rfl (Nat.le_of_ble_eq_true rfl) (Nat.le_of_ble_eq_true rfl) dL_head_23
set_option maxRecDepth 20000 in
set_option maxHeartbeats 4000000 in
theorem w_L_course {E : zE} {a0 : Nat} {l1 : Int32} {S : zS} {Q : Int32 → zS → Prop} (h : p_L_course E a0 l1 S Q) : zMX E yL_course cL_course 4 (some .int) [(0, 6, 9, 25)] ({ frames := 9, cells := 1, slots := 6, locals := 145 } : Room) [.ref a0, .int l1] [] S (fun v X S1 => ∃ r, v = some (.int r) ∧ X = [] ∧ Q r S1) := by
  obtain ⟨hx9, h⟩ := h
  refine zMX_of RL (by decide) rfl (Nat.le_of_ble_eq_true rfl) ?_
  refine z_sub [0, 1] (lv' := [(0, .ref a0), (1, .int l1)]) rfl ?_
  refine z_aload_n 0 dL_course_0 rfl rfl ?_
  refine z_iload_n 1 dL_course_1 rfl rfl ?_
  refine z_callVI (ci := 10) (st := []) (w_X10_course h) hx9.1 hx9.2 (Nat.le_of_ble_eq_true rfl) rfl zw_1183 zw_1180 zw_1181 zw_1182 zw_30 zy_X10_course rfl rfl ⟨Nat.le_of_ble_eq_true rfl, Nat.le_of_ble_eq_true rfl⟩ ⟨Nat.le_of_ble_eq_true rfl, Nat.le_of_ble_eq_true rfl⟩ (Nat.le_of_ble_eq_true rfl) dL_course_2 (fun ex S1 h => ?_) (fun r S1 h => ?_)
  · obtain ⟨rfl, h⟩ := h
    refine zx_catch [] ⟨0, 6, 9, 25⟩ [] rfl (by decide) (fun z hz => by simp at hz) (by decide) (by decide) zw_576 (fun q9 => ?_)
    refine z_astore_n (lv' := [(3, .ref q9), (0, .ref a0), (1, .int l1)]) dL_course_9 rfl (Nat.le_of_ble_eq_true rfl) rfl ?_
    refine z_sipush (v := -7100) dL_course_10 rfl ?_
    exact z_ireturn ⟨_, rfl, rfl, h⟩ rfl (Nat.le_of_ble_eq_true rfl) (Nat.le_of_ble_eq_true rfl) dL_course_13
  · refine z_istore_n (lv' := [(2, .int r), (0, .ref a0), (1, .int l1)]) dL_course_5 rfl (Nat.le_of_ble_eq_true rfl) rfl ?_
    refine z_goto 14 dL_course_6 (by decide) ?_
    refine z_iload_n 0 dL_course_14 rfl rfl ?_
    exact z_ireturn ⟨_, rfl, rfl, h⟩ rfl (Nat.le_of_ble_eq_true rfl) (Nat.le_of_ble_eq_true rfl) dL_course_15
set_option maxRecDepth 20000 in
set_option maxHeartbeats 4000000 in
theorem w_L_isFalse {E : zE} {a0 : Nat} {l1 : Int32} {l2 : Int32} {S : zS} {Q : Int32 → zS → Prop} (h : p_L_isFalse E a0 l1 l2 S Q) : zMX E yL_isFalse cL_isFalse 5 (some .int) [(0, 7, 10, 25)] ({ frames := 9, cells := 2, slots := 12, locals := 147 } : Room) [.ref a0, .int l1, .int l2] [] S (fun v X S1 => ∃ r, v = some (.int r) ∧ X = [] ∧ Q r S1) := by
  obtain ⟨hx9, h⟩ := h
  refine zMX_of RL (by decide) rfl (Nat.le_of_ble_eq_true rfl) ?_
  refine z_sub [0, 1, 2] (lv' := [(0, .ref a0), (1, .int l1), (2, .int l2)]) rfl ?_
  refine z_aload_n 0 dL_isFalse_0 rfl rfl ?_
  refine z_iload_n 1 dL_isFalse_1 rfl rfl ?_
  refine z_iload_n 2 dL_isFalse_2 rfl rfl ?_
  refine z_callVI (ci := 10) (st := []) (w_X10_isFalse h) hx9.1 hx9.2 (Nat.le_of_ble_eq_true rfl) rfl zw_1195 zw_1192 zw_1193 zw_1194 zw_30 zy_X10_isFalse rfl rfl ⟨Nat.le_of_ble_eq_true rfl, Nat.le_of_ble_eq_true rfl⟩ ⟨Nat.le_of_ble_eq_true rfl, Nat.le_of_ble_eq_true rfl⟩ (Nat.le_of_ble_eq_true rfl) dL_isFalse_3 (fun ex S1 h => ?_) (fun r S1 h => ?_)
  · obtain ⟨rfl, h⟩ := h
    refine zx_catch [] ⟨0, 7, 10, 25⟩ [] rfl (by decide) (fun z hz => by simp at hz) (by decide) (by decide) zw_576 (fun q9 => ?_)
    refine z_astore (lv' := [(4, .ref q9), (0, .ref a0), (1, .int l1), (2, .int l2)]) dL_isFalse_10 (Nat.le_of_ble_eq_true rfl) rfl ?_
    refine z_sipush (v := -7100) dL_isFalse_12 rfl ?_
    exact z_ireturn ⟨_, rfl, rfl, h⟩ rfl (Nat.le_of_ble_eq_true rfl) (Nat.le_of_ble_eq_true rfl) dL_isFalse_15
  · refine z_istore_n (lv' := [(3, .int r), (0, .ref a0), (1, .int l1), (2, .int l2)]) dL_isFalse_6 rfl (Nat.le_of_ble_eq_true rfl) rfl ?_
    refine z_goto 16 dL_isFalse_7 (by decide) ?_
    refine z_iload_n 0 dL_isFalse_16 rfl rfl ?_
    refine z_if_eq 24 dL_isFalse_17 (by decide) (fun c9 => ?_) (fun c9 => ?_)
    · have h := h.1 c9
      refine z_iconst (v := 0) dL_isFalse_24 rfl ?_
      exact z_ireturn ⟨_, rfl, rfl, h⟩ rfl (Nat.le_of_ble_eq_true rfl) (Nat.le_of_ble_eq_true rfl) dL_isFalse_25
    · have h := h.2 c9
      refine z_iconst (v := 1) dL_isFalse_20 rfl ?_
      refine z_goto 25 dL_isFalse_21 (by decide) ?_
      exact z_ireturn ⟨_, rfl, rfl, h⟩ rfl (Nat.le_of_ble_eq_true rfl) (Nat.le_of_ble_eq_true rfl) dL_isFalse_25
set_option maxRecDepth 20000 in
set_option maxHeartbeats 4000000 in
theorem w_L_falseRows {E : zE} {a0 : Nat} {l1 : Int32} {S : zS} {Q : Int32 → zS → Prop} (h : p_L_falseRows E a0 l1 S Q) : zMX E yL_falseRows cL_falseRows 4 (some .int) [(0, 6, 9, 25)] ({ frames := 9, cells := 1, slots := 6, locals := 145 } : Room) [.ref a0, .int l1] [] S (fun v X S1 => ∃ r, v = some (.int r) ∧ X = [] ∧ Q r S1) := by
  obtain ⟨hx9, h⟩ := h
  refine zMX_of RL (by decide) rfl (Nat.le_of_ble_eq_true rfl) ?_
  refine z_sub [0, 1] (lv' := [(0, .ref a0), (1, .int l1)]) rfl ?_
  refine z_aload_n 0 dL_falseRows_0 rfl rfl ?_
  refine z_iload_n 1 dL_falseRows_1 rfl rfl ?_
  refine z_callVI (ci := 10) (st := []) (w_X10_falseRows h) hx9.1 hx9.2 (Nat.le_of_ble_eq_true rfl) rfl zw_1206 zw_1203 zw_1204 zw_1205 zw_30 zy_X10_falseRows rfl rfl ⟨Nat.le_of_ble_eq_true rfl, Nat.le_of_ble_eq_true rfl⟩ ⟨Nat.le_of_ble_eq_true rfl, Nat.le_of_ble_eq_true rfl⟩ (Nat.le_of_ble_eq_true rfl) dL_falseRows_2 (fun ex S1 h => ?_) (fun r S1 h => ?_)
  · obtain ⟨rfl, h⟩ := h
    refine zx_catch [] ⟨0, 6, 9, 25⟩ [] rfl (by decide) (fun z hz => by simp at hz) (by decide) (by decide) zw_576 (fun q9 => ?_)
    refine z_astore_n (lv' := [(3, .ref q9), (0, .ref a0), (1, .int l1)]) dL_falseRows_9 rfl (Nat.le_of_ble_eq_true rfl) rfl ?_
    refine z_sipush (v := -7100) dL_falseRows_10 rfl ?_
    exact z_ireturn ⟨_, rfl, rfl, h⟩ rfl (Nat.le_of_ble_eq_true rfl) (Nat.le_of_ble_eq_true rfl) dL_falseRows_13
  · refine z_istore_n (lv' := [(2, .int r), (0, .ref a0), (1, .int l1)]) dL_falseRows_5 rfl (Nat.le_of_ble_eq_true rfl) rfl ?_
    refine z_goto 14 dL_falseRows_6 (by decide) ?_
    refine z_iload_n 0 dL_falseRows_14 rfl rfl ?_
    exact z_ireturn ⟨_, rfl, rfl, h⟩ rfl (Nat.le_of_ble_eq_true rfl) (Nat.le_of_ble_eq_true rfl) dL_falseRows_15
set_option maxRecDepth 20000 in
set_option maxHeartbeats 4000000 in
theorem w_L_leads {E : zE} {a0 : Nat} {l1 : Int32} {S : zS} {Q : Int32 → zS → Prop} (h : p_L_leads E a0 l1 S Q) : zMX E yL_leads cL_leads 4 (some .int) [(0, 6, 9, 25)] ({ frames := 9, cells := 1, slots := 6, locals := 145 } : Room) [.ref a0, .int l1] [] S (fun v X S1 => ∃ r, v = some (.int r) ∧ X = [] ∧ Q r S1) := by
  obtain ⟨hx9, h⟩ := h
  refine zMX_of RL (by decide) rfl (Nat.le_of_ble_eq_true rfl) ?_
  refine z_sub [0, 1] (lv' := [(0, .ref a0), (1, .int l1)]) rfl ?_
  refine z_aload_n 0 dL_leads_0 rfl rfl ?_
  refine z_iload_n 1 dL_leads_1 rfl rfl ?_
  refine z_callVI (ci := 10) (st := []) (w_X10_leads h) hx9.1 hx9.2 (Nat.le_of_ble_eq_true rfl) rfl zw_1216 zw_1213 zw_1214 zw_1215 zw_30 zy_X10_leads rfl rfl ⟨Nat.le_of_ble_eq_true rfl, Nat.le_of_ble_eq_true rfl⟩ ⟨Nat.le_of_ble_eq_true rfl, Nat.le_of_ble_eq_true rfl⟩ (Nat.le_of_ble_eq_true rfl) dL_leads_2 (fun ex S1 h => ?_) (fun r S1 h => ?_)
  · obtain ⟨rfl, h⟩ := h
    refine zx_catch [] ⟨0, 6, 9, 25⟩ [] rfl (by decide) (fun z hz => by simp at hz) (by decide) (by decide) zw_576 (fun q9 => ?_)
    refine z_astore_n (lv' := [(3, .ref q9), (0, .ref a0), (1, .int l1)]) dL_leads_9 rfl (Nat.le_of_ble_eq_true rfl) rfl ?_
    refine z_sipush (v := -7100) dL_leads_10 rfl ?_
    exact z_ireturn ⟨_, rfl, rfl, h⟩ rfl (Nat.le_of_ble_eq_true rfl) (Nat.le_of_ble_eq_true rfl) dL_leads_13
  · refine z_istore_n (lv' := [(2, .int r), (0, .ref a0), (1, .int l1)]) dL_leads_5 rfl (Nat.le_of_ble_eq_true rfl) rfl ?_
    refine z_goto 14 dL_leads_6 (by decide) ?_
    refine z_iload_n 0 dL_leads_14 rfl rfl ?_
    exact z_ireturn ⟨_, rfl, rfl, h⟩ rfl (Nat.le_of_ble_eq_true rfl) (Nat.le_of_ble_eq_true rfl) dL_leads_15
set_option maxRecDepth 20000 in
set_option maxHeartbeats 4000000 in
theorem w_L_rows {E : zE} {a0 : Nat} {l1 : Int32} {S : zS} {Q : Int32 → zS → Prop} (h : p_L_rows E a0 l1 S Q) : zMX E yL_rows cL_rows 4 (some .int) [(0, 6, 9, 25)] ({ frames := 9, cells := 1, slots := 6, locals := 145 } : Room) [.ref a0, .int l1] [] S (fun v X S1 => ∃ r, v = some (.int r) ∧ X = [] ∧ Q r S1) := by
  obtain ⟨hx9, h⟩ := h
  refine zMX_of RL (by decide) rfl (Nat.le_of_ble_eq_true rfl) ?_
  refine z_sub [0, 1] (lv' := [(0, .ref a0), (1, .int l1)]) rfl ?_
  refine z_aload_n 0 dL_rows_0 rfl rfl ?_
  refine z_iload_n 1 dL_rows_1 rfl rfl ?_
  refine z_callVI (ci := 10) (st := []) (w_X10_rows h) hx9.1 hx9.2 (Nat.le_of_ble_eq_true rfl) rfl zw_1223 zw_1220 zw_1221 zw_1222 zw_30 zy_X10_rows rfl rfl ⟨Nat.le_of_ble_eq_true rfl, Nat.le_of_ble_eq_true rfl⟩ ⟨Nat.le_of_ble_eq_true rfl, Nat.le_of_ble_eq_true rfl⟩ (Nat.le_of_ble_eq_true rfl) dL_rows_2 (fun ex S1 h => ?_) (fun r S1 h => ?_)
  · obtain ⟨rfl, h⟩ := h
    refine zx_catch [] ⟨0, 6, 9, 25⟩ [] rfl (by decide) (fun z hz => by simp at hz) (by decide) (by decide) zw_576 (fun q9 => ?_)
    refine z_astore_n (lv' := [(3, .ref q9), (0, .ref a0), (1, .int l1)]) dL_rows_9 rfl (Nat.le_of_ble_eq_true rfl) rfl ?_
    refine z_sipush (v := -7100) dL_rows_10 rfl ?_
    exact z_ireturn ⟨_, rfl, rfl, h⟩ rfl (Nat.le_of_ble_eq_true rfl) (Nat.le_of_ble_eq_true rfl) dL_rows_13
  · refine z_istore_n (lv' := [(2, .int r), (0, .ref a0), (1, .int l1)]) dL_rows_5 rfl (Nat.le_of_ble_eq_true rfl) rfl ?_
    refine z_goto 14 dL_rows_6 (by decide) ?_
    refine z_iload_n 0 dL_rows_14 rfl rfl ?_
    exact z_ireturn ⟨_, rfl, rfl, h⟩ rfl (Nat.le_of_ble_eq_true rfl) (Nat.le_of_ble_eq_true rfl) dL_rows_15
set_option maxRecDepth 20000 in
set_option maxHeartbeats 4000000 in
theorem w_L_leadAt {E : zE} {a0 : Nat} {l1 : Int32} {l2 : Int32} {S : zS} {Q : Int32 → zS → Prop} (h : p_L_leadAt E a0 l1 l2 S Q) : zMX E yL_leadAt cL_leadAt 5 (some .int) [(0, 7, 10, 25)] ({ frames := 9, cells := 2, slots := 12, locals := 147 } : Room) [.ref a0, .int l1, .int l2] [] S (fun v X S1 => ∃ r, v = some (.int r) ∧ X = [] ∧ Q r S1) := by
  obtain ⟨hx9, h⟩ := h
  refine zMX_of RL (by decide) rfl (Nat.le_of_ble_eq_true rfl) ?_
  refine z_sub [0, 1, 2] (lv' := [(0, .ref a0), (1, .int l1), (2, .int l2)]) rfl ?_
  refine z_aload_n 0 dL_leadAt_0 rfl rfl ?_
  refine z_iload_n 1 dL_leadAt_1 rfl rfl ?_
  refine z_iload_n 2 dL_leadAt_2 rfl rfl ?_
  refine z_callVI (ci := 10) (st := []) (w_X10_leadAt h) hx9.1 hx9.2 (Nat.le_of_ble_eq_true rfl) rfl zw_1230 zw_1227 zw_1228 zw_1229 zw_30 zy_X10_leadAt rfl rfl ⟨Nat.le_of_ble_eq_true rfl, Nat.le_of_ble_eq_true rfl⟩ ⟨Nat.le_of_ble_eq_true rfl, Nat.le_of_ble_eq_true rfl⟩ (Nat.le_of_ble_eq_true rfl) dL_leadAt_3 (fun ex S1 h => ?_) (fun r S1 h => ?_)
  · obtain ⟨rfl, h⟩ := h
    refine zx_catch [] ⟨0, 7, 10, 25⟩ [] rfl (by decide) (fun z hz => by simp at hz) (by decide) (by decide) zw_576 (fun q9 => ?_)
    refine z_astore (lv' := [(4, .ref q9), (0, .ref a0), (1, .int l1), (2, .int l2)]) dL_leadAt_10 (Nat.le_of_ble_eq_true rfl) rfl ?_
    refine z_sipush (v := -7100) dL_leadAt_12 rfl ?_
    exact z_ireturn ⟨_, rfl, rfl, h⟩ rfl (Nat.le_of_ble_eq_true rfl) (Nat.le_of_ble_eq_true rfl) dL_leadAt_15
  · refine z_istore_n (lv' := [(3, .int r), (0, .ref a0), (1, .int l1), (2, .int l2)]) dL_leadAt_6 rfl (Nat.le_of_ble_eq_true rfl) rfl ?_
    refine z_goto 16 dL_leadAt_7 (by decide) ?_
    refine z_iload_n 0 dL_leadAt_16 rfl rfl ?_
    exact z_ireturn ⟨_, rfl, rfl, h⟩ rfl (Nat.le_of_ble_eq_true rfl) (Nat.le_of_ble_eq_true rfl) dL_leadAt_17
set_option maxRecDepth 20000 in
set_option maxHeartbeats 4000000 in
theorem w_L_rowAt {E : zE} {a0 : Nat} {l1 : Int32} {l2 : Int32} {S : zS} {Q : Int32 → zS → Prop} (h : p_L_rowAt E a0 l1 l2 S Q) : zMX E yL_rowAt cL_rowAt 5 (some .int) [(0, 7, 10, 25)] ({ frames := 9, cells := 2, slots := 12, locals := 147 } : Room) [.ref a0, .int l1, .int l2] [] S (fun v X S1 => ∃ r, v = some (.int r) ∧ X = [] ∧ Q r S1) := by
  obtain ⟨hx9, h⟩ := h
  refine zMX_of RL (by decide) rfl (Nat.le_of_ble_eq_true rfl) ?_
  refine z_sub [0, 1, 2] (lv' := [(0, .ref a0), (1, .int l1), (2, .int l2)]) rfl ?_
  refine z_aload_n 0 dL_rowAt_0 rfl rfl ?_
  refine z_iload_n 1 dL_rowAt_1 rfl rfl ?_
  refine z_iload_n 2 dL_rowAt_2 rfl rfl ?_
  refine z_callVI (ci := 10) (st := []) (w_X10_rowAt h) hx9.1 hx9.2 (Nat.le_of_ble_eq_true rfl) rfl zw_1237 zw_1234 zw_1235 zw_1236 zw_30 zy_X10_rowAt rfl rfl ⟨Nat.le_of_ble_eq_true rfl, Nat.le_of_ble_eq_true rfl⟩ ⟨Nat.le_of_ble_eq_true rfl, Nat.le_of_ble_eq_true rfl⟩ (Nat.le_of_ble_eq_true rfl) dL_rowAt_3 (fun ex S1 h => ?_) (fun r S1 h => ?_)
  · obtain ⟨rfl, h⟩ := h
    refine zx_catch [] ⟨0, 7, 10, 25⟩ [] rfl (by decide) (fun z hz => by simp at hz) (by decide) (by decide) zw_576 (fun q9 => ?_)
    refine z_astore (lv' := [(4, .ref q9), (0, .ref a0), (1, .int l1), (2, .int l2)]) dL_rowAt_10 (Nat.le_of_ble_eq_true rfl) rfl ?_
    refine z_sipush (v := -7100) dL_rowAt_12 rfl ?_
    exact z_ireturn ⟨_, rfl, rfl, h⟩ rfl (Nat.le_of_ble_eq_true rfl) (Nat.le_of_ble_eq_true rfl) dL_rowAt_15
  · refine z_istore_n (lv' := [(3, .int r), (0, .ref a0), (1, .int l1), (2, .int l2)]) dL_rowAt_6 rfl (Nat.le_of_ble_eq_true rfl) rfl ?_
    refine z_goto 16 dL_rowAt_7 (by decide) ?_
    refine z_iload_n 0 dL_rowAt_16 rfl rfl ?_
    exact z_ireturn ⟨_, rfl, rfl, h⟩ rfl (Nat.le_of_ble_eq_true rfl) (Nat.le_of_ble_eq_true rfl) dL_rowAt_17
set_option maxRecDepth 20000 in
set_option maxHeartbeats 4000000 in
theorem w_L_bellAt {E : zE} {a0 : Nat} {l1 : Int32} {l2 : Int32} {l3 : Int32} {S : zS} {Q : Int32 → zS → Prop} (h : p_L_bellAt E a0 l1 l2 l3 S Q) : zMX E yL_bellAt cL_bellAt 6 (some .int) [(0, 9, 12, 25)] ({ frames := 9, cells := 3, slots := 18, locals := 148 } : Room) [.ref a0, .int l1, .int l2, .int l3] [] S (fun v X S1 => ∃ r, v = some (.int r) ∧ X = [] ∧ Q r S1) := by
  obtain ⟨hx9, h⟩ := h
  refine zMX_of RL (by decide) rfl (Nat.le_of_ble_eq_true rfl) ?_
  refine z_sub [0, 1, 2, 3] (lv' := [(0, .ref a0), (1, .int l1), (2, .int l2), (3, .int l3)]) rfl ?_
  refine z_aload_n 0 dL_bellAt_0 rfl rfl ?_
  refine z_iload_n 1 dL_bellAt_1 rfl rfl ?_
  refine z_iload_n 2 dL_bellAt_2 rfl rfl ?_
  refine z_iload_n 3 dL_bellAt_3 rfl rfl ?_
  refine z_callVI (ci := 10) (st := []) (w_X10_bellAt h) hx9.1 hx9.2 (Nat.le_of_ble_eq_true rfl) rfl zw_1244 zw_1241 zw_1242 zw_1243 zw_30 zy_X10_bellAt rfl rfl ⟨Nat.le_of_ble_eq_true rfl, Nat.le_of_ble_eq_true rfl⟩ ⟨Nat.le_of_ble_eq_true rfl, Nat.le_of_ble_eq_true rfl⟩ (Nat.le_of_ble_eq_true rfl) dL_bellAt_4 (fun ex S1 h => ?_) (fun r S1 h => ?_)
  · obtain ⟨rfl, h⟩ := h
    refine zx_catch [] ⟨0, 9, 12, 25⟩ [] rfl (by decide) (fun z hz => by simp at hz) (by decide) (by decide) zw_576 (fun q9 => ?_)
    refine z_astore (lv' := [(5, .ref q9), (0, .ref a0), (1, .int l1), (2, .int l2), (3, .int l3)]) dL_bellAt_12 (Nat.le_of_ble_eq_true rfl) rfl ?_
    refine z_sipush (v := -7100) dL_bellAt_14 rfl ?_
    exact z_ireturn ⟨_, rfl, rfl, h⟩ rfl (Nat.le_of_ble_eq_true rfl) (Nat.le_of_ble_eq_true rfl) dL_bellAt_17
  · refine z_istore (lv' := [(4, .int r), (0, .ref a0), (1, .int l1), (2, .int l2), (3, .int l3)]) dL_bellAt_7 (Nat.le_of_ble_eq_true rfl) rfl ?_
    refine z_goto 18 dL_bellAt_9 (by decide) ?_
    refine z_iload 0 dL_bellAt_18 rfl ?_
    exact z_ireturn ⟨_, rfl, rfl, h⟩ rfl (Nat.le_of_ble_eq_true rfl) (Nat.le_of_ble_eq_true rfl) dL_bellAt_20
set_option maxRecDepth 20000 in
set_option maxHeartbeats 4000000 in
theorem w_L_isTrue {E : zE} {a0 : Nat} {l1 : Int32} {S : zS} {Q : Int32 → zS → Prop} (h : p_L_isTrue E a0 l1 S Q) : zMX E yL_isTrue cL_isTrue 4 (some .int) [(0, 6, 9, 25)] ({ frames := 9, cells := 1, slots := 6, locals := 145 } : Room) [.ref a0, .int l1] [] S (fun v X S1 => ∃ r, v = some (.int r) ∧ X = [] ∧ Q r S1) := by
  obtain ⟨hx9, h⟩ := h
  refine zMX_of RL (by decide) rfl (Nat.le_of_ble_eq_true rfl) ?_
  refine z_sub [0, 1] (lv' := [(0, .ref a0), (1, .int l1)]) rfl ?_
  refine z_aload_n 0 dL_isTrue_0 rfl rfl ?_
  refine z_iload_n 1 dL_isTrue_1 rfl rfl ?_
  refine z_callVI (ci := 10) (st := []) (w_X10_isTrue h) hx9.1 hx9.2 (Nat.le_of_ble_eq_true rfl) rfl zw_1256 zw_1253 zw_1254 zw_1255 zw_30 zy_X10_isTrue rfl rfl ⟨Nat.le_of_ble_eq_true rfl, Nat.le_of_ble_eq_true rfl⟩ ⟨Nat.le_of_ble_eq_true rfl, Nat.le_of_ble_eq_true rfl⟩ (Nat.le_of_ble_eq_true rfl) dL_isTrue_2 (fun ex S1 h => ?_) (fun r S1 h => ?_)
  · obtain ⟨rfl, h⟩ := h
    refine zx_catch [] ⟨0, 6, 9, 25⟩ [] rfl (by decide) (fun z hz => by simp at hz) (by decide) (by decide) zw_576 (fun q9 => ?_)
    refine z_astore_n (lv' := [(3, .ref q9), (0, .ref a0), (1, .int l1)]) dL_isTrue_9 rfl (Nat.le_of_ble_eq_true rfl) rfl ?_
    refine z_sipush (v := -7100) dL_isTrue_10 rfl ?_
    exact z_ireturn ⟨_, rfl, rfl, h⟩ rfl (Nat.le_of_ble_eq_true rfl) (Nat.le_of_ble_eq_true rfl) dL_isTrue_13
  · refine z_istore_n (lv' := [(2, .int r), (0, .ref a0), (1, .int l1)]) dL_isTrue_5 rfl (Nat.le_of_ble_eq_true rfl) rfl ?_
    refine z_goto 14 dL_isTrue_6 (by decide) ?_
    refine z_iload_n 0 dL_isTrue_14 rfl rfl ?_
    refine z_if_eq 22 dL_isTrue_15 (by decide) (fun c9 => ?_) (fun c9 => ?_)
    · have h := h.1 c9
      refine z_iconst (v := 0) dL_isTrue_22 rfl ?_
      exact z_ireturn ⟨_, rfl, rfl, h⟩ rfl (Nat.le_of_ble_eq_true rfl) (Nat.le_of_ble_eq_true rfl) dL_isTrue_23
    · have h := h.2 c9
      refine z_iconst (v := 1) dL_isTrue_18 rfl ?_
      refine z_goto 23 dL_isTrue_19 (by decide) ?_
      exact z_ireturn ⟨_, rfl, rfl, h⟩ rfl (Nat.le_of_ble_eq_true rfl) (Nat.le_of_ble_eq_true rfl) dL_isTrue_23
set_option maxRecDepth 20000 in
set_option maxHeartbeats 4000000 in
theorem w_L_firstRepeat {E : zE} {a0 : Nat} {l1 : Int32} {S : zS} {Q : Int32 → zS → Prop} (h : p_L_firstRepeat E a0 l1 S Q) : zMX E yL_firstRepeat cL_firstRepeat 4 (some .int) [(0, 6, 9, 25)] ({ frames := 9, cells := 1, slots := 6, locals := 145 } : Room) [.ref a0, .int l1] [] S (fun v X S1 => ∃ r, v = some (.int r) ∧ X = [] ∧ Q r S1) := by
  obtain ⟨hx9, h⟩ := h
  refine zMX_of RL (by decide) rfl (Nat.le_of_ble_eq_true rfl) ?_
  refine z_sub [0, 1] (lv' := [(0, .ref a0), (1, .int l1)]) rfl ?_
  refine z_aload_n 0 dL_firstRepeat_0 rfl rfl ?_
  refine z_iload_n 1 dL_firstRepeat_1 rfl rfl ?_
  refine z_callVI (ci := 10) (st := []) (w_X10_firstRepeat h) hx9.1 hx9.2 (Nat.le_of_ble_eq_true rfl) rfl zw_1263 zw_1260 zw_1261 zw_1262 zw_30 zy_X10_firstRepeat rfl rfl ⟨Nat.le_of_ble_eq_true rfl, Nat.le_of_ble_eq_true rfl⟩ ⟨Nat.le_of_ble_eq_true rfl, Nat.le_of_ble_eq_true rfl⟩ (Nat.le_of_ble_eq_true rfl) dL_firstRepeat_2 (fun ex S1 h => ?_) (fun r S1 h => ?_)
  · obtain ⟨rfl, h⟩ := h
    refine zx_catch [] ⟨0, 6, 9, 25⟩ [] rfl (by decide) (fun z hz => by simp at hz) (by decide) (by decide) zw_576 (fun q9 => ?_)
    refine z_astore_n (lv' := [(3, .ref q9), (0, .ref a0), (1, .int l1)]) dL_firstRepeat_9 rfl (Nat.le_of_ble_eq_true rfl) rfl ?_
    refine z_sipush (v := -7100) dL_firstRepeat_10 rfl ?_
    exact z_ireturn ⟨_, rfl, rfl, h⟩ rfl (Nat.le_of_ble_eq_true rfl) (Nat.le_of_ble_eq_true rfl) dL_firstRepeat_13
  · refine z_istore_n (lv' := [(2, .int r), (0, .ref a0), (1, .int l1)]) dL_firstRepeat_5 rfl (Nat.le_of_ble_eq_true rfl) rfl ?_
    refine z_goto 14 dL_firstRepeat_6 (by decide) ?_
    refine z_iload_n 0 dL_firstRepeat_14 rfl rfl ?_
    exact z_ireturn ⟨_, rfl, rfl, h⟩ rfl (Nat.le_of_ble_eq_true rfl) (Nat.le_of_ble_eq_true rfl) dL_firstRepeat_15
set_option maxRecDepth 20000 in
set_option maxHeartbeats 4000000 in
theorem w_L_comesRound {E : zE} {a0 : Nat} {l1 : Int32} {S : zS} {Q : Int32 → zS → Prop} (h : p_L_comesRound E a0 l1 S Q) : zMX E yL_comesRound cL_comesRound 4 (some .int) [(0, 6, 9, 25)] ({ frames := 9, cells := 1, slots := 6, locals := 145 } : Room) [.ref a0, .int l1] [] S (fun v X S1 => ∃ r, v = some (.int r) ∧ X = [] ∧ Q r S1) := by
  obtain ⟨hx9, h⟩ := h
  refine zMX_of RL (by decide) rfl (Nat.le_of_ble_eq_true rfl) ?_
  refine z_sub [0, 1] (lv' := [(0, .ref a0), (1, .int l1)]) rfl ?_
  refine z_aload_n 0 dL_comesRound_0 rfl rfl ?_
  refine z_iload_n 1 dL_comesRound_1 rfl rfl ?_
  refine z_callVI (ci := 10) (st := []) (w_X10_comesRound h) hx9.1 hx9.2 (Nat.le_of_ble_eq_true rfl) rfl zw_1270 zw_1267 zw_1268 zw_1269 zw_30 zy_X10_comesRound rfl rfl ⟨Nat.le_of_ble_eq_true rfl, Nat.le_of_ble_eq_true rfl⟩ ⟨Nat.le_of_ble_eq_true rfl, Nat.le_of_ble_eq_true rfl⟩ (Nat.le_of_ble_eq_true rfl) dL_comesRound_2 (fun ex S1 h => ?_) (fun r S1 h => ?_)
  · obtain ⟨rfl, h⟩ := h
    refine zx_catch [] ⟨0, 6, 9, 25⟩ [] rfl (by decide) (fun z hz => by simp at hz) (by decide) (by decide) zw_576 (fun q9 => ?_)
    refine z_astore_n (lv' := [(3, .ref q9), (0, .ref a0), (1, .int l1)]) dL_comesRound_9 rfl (Nat.le_of_ble_eq_true rfl) rfl ?_
    refine z_sipush (v := -7100) dL_comesRound_10 rfl ?_
    exact z_ireturn ⟨_, rfl, rfl, h⟩ rfl (Nat.le_of_ble_eq_true rfl) (Nat.le_of_ble_eq_true rfl) dL_comesRound_13
  · refine z_istore_n (lv' := [(2, .int r), (0, .ref a0), (1, .int l1)]) dL_comesRound_5 rfl (Nat.le_of_ble_eq_true rfl) rfl ?_
    refine z_goto 14 dL_comesRound_6 (by decide) ?_
    refine z_iload_n 0 dL_comesRound_14 rfl rfl ?_
    refine z_if_eq 22 dL_comesRound_15 (by decide) (fun c9 => ?_) (fun c9 => ?_)
    · have h := h.1 c9
      refine z_iconst (v := 0) dL_comesRound_22 rfl ?_
      exact z_ireturn ⟨_, rfl, rfl, h⟩ rfl (Nat.le_of_ble_eq_true rfl) (Nat.le_of_ble_eq_true rfl) dL_comesRound_23
    · have h := h.2 c9
      refine z_iconst (v := 1) dL_comesRound_18 rfl ?_
      refine z_goto 23 dL_comesRound_19 (by decide) ?_
      exact z_ireturn ⟨_, rfl, rfl, h⟩ rfl (Nat.le_of_ble_eq_true rfl) (Nat.le_of_ble_eq_true rfl) dL_comesRound_23
set_option maxRecDepth 20000 in
set_option maxHeartbeats 4000000 in
theorem w_L_wear {E : zE} {a0 : Nat} {l1 : Int32} {l2 : Int32} {S : zS} {Q : Int32 → zS → Prop} (h : p_L_wear E a0 l1 l2 S Q) : zMX E yL_wear cL_wear 5 (some .int) [(0, 7, 10, 25), (0, 7, 16, 14)] ({ frames := 9, cells := 2, slots := 12, locals := 147 } : Room) [.ref a0, .int l1, .int l2] [] S (fun v X S1 => ∃ r, v = some (.int r) ∧ X = [] ∧ Q r S1) := by
  obtain ⟨hx9, h⟩ := h
  refine zMX_of RL (by decide) rfl (Nat.le_of_ble_eq_true rfl) ?_
  refine z_sub [0, 1, 2] (lv' := [(0, .ref a0), (1, .int l1), (2, .int l2)]) rfl ?_
  refine z_aload_n 0 dL_wear_0 rfl rfl ?_
  refine z_iload_n 1 dL_wear_1 rfl rfl ?_
  refine z_iload_n 2 dL_wear_2 rfl rfl ?_
  refine z_callVI (ci := 10) (st := []) (w_X10_wear h) hx9.1 hx9.2 (Nat.le_of_ble_eq_true rfl) rfl zw_1277 zw_1274 zw_1275 zw_1276 zw_30 zy_X10_wear rfl rfl ⟨Nat.le_of_ble_eq_true rfl, Nat.le_of_ble_eq_true rfl⟩ ⟨Nat.le_of_ble_eq_true rfl, Nat.le_of_ble_eq_true rfl⟩ (Nat.le_of_ble_eq_true rfl) dL_wear_3 (fun ex S1 h => ?_) (fun r S1 h => ?_)
  · rcases h with ⟨rfl, h⟩ | ⟨rfl, h⟩
    · refine zx_catch [] ⟨0, 7, 10, 25⟩ [⟨0, 7, 16, 14⟩] rfl (by decide) (fun z hz => by simp at hz) (by decide) (by decide) zw_576 (fun q9 => ?_)
      refine z_astore (lv' := [(4, .ref q9), (0, .ref a0), (1, .int l1), (2, .int l2)]) dL_wear_10 (Nat.le_of_ble_eq_true rfl) rfl ?_
      refine z_sipush (v := -7100) dL_wear_12 rfl ?_
      exact z_ireturn ⟨_, rfl, rfl, h⟩ rfl (Nat.le_of_ble_eq_true rfl) (Nat.le_of_ble_eq_true rfl) dL_wear_15
    · refine zx_catch [⟨0, 7, 10, 25⟩] ⟨0, 7, 16, 14⟩ [] rfl (by decide) (fun z hz => by
        simp only [List.mem_cons, List.not_mem_nil, or_false] at hz
        rcases hz with rfl
        · exact ⟨by decide, "java/lang/IndexOutOfBoundsException", by decide, by decide, zw_576⟩) (by decide) (by decide) zw_320 (fun q9 => ?_)
      refine z_astore (lv' := [(4, .ref q9), (0, .ref a0), (1, .int l1), (2, .int l2)]) dL_wear_16 (Nat.le_of_ble_eq_true rfl) rfl ?_
      refine z_sipush (v := -7200) dL_wear_18 rfl ?_
      exact z_ireturn ⟨_, rfl, rfl, h⟩ rfl (Nat.le_of_ble_eq_true rfl) (Nat.le_of_ble_eq_true rfl) dL_wear_21
  · refine z_istore_n (lv' := [(3, .int r), (0, .ref a0), (1, .int l1), (2, .int l2)]) dL_wear_6 rfl (Nat.le_of_ble_eq_true rfl) rfl ?_
    refine z_goto 22 dL_wear_7 (by decide) ?_
    refine z_iload_n 0 dL_wear_22 rfl rfl ?_
    exact z_ireturn ⟨_, rfl, rfl, h⟩ rfl (Nat.le_of_ble_eq_true rfl) (Nat.le_of_ble_eq_true rfl) dL_wear_23
set_option maxRecDepth 20000 in
set_option maxHeartbeats 4000000 in
theorem w_L_isIn {E : zE} {a0 : Nat} {l1 : Int32} {S : zS} {Q : Int32 → zS → Prop} (h : p_L_isIn E a0 l1 S Q) : zMX E yL_isIn cL_isIn 4 (some .int) [(0, 6, 9, 25)] ({ frames := 9, cells := 1, slots := 6, locals := 145 } : Room) [.ref a0, .int l1] [] S (fun v X S1 => ∃ r, v = some (.int r) ∧ X = [] ∧ Q r S1) := by
  obtain ⟨hx9, h⟩ := h
  refine zMX_of RL (by decide) rfl (Nat.le_of_ble_eq_true rfl) ?_
  refine z_sub [0, 1] (lv' := [(0, .ref a0), (1, .int l1)]) rfl ?_
  refine z_aload_n 0 dL_isIn_0 rfl rfl ?_
  refine z_iload_n 1 dL_isIn_1 rfl rfl ?_
  refine z_callVI (ci := 10) (st := []) (w_X10_isIn h) hx9.1 hx9.2 (Nat.le_of_ble_eq_true rfl) rfl zw_1284 zw_1281 zw_1282 zw_1283 zw_30 zy_X10_isIn rfl rfl ⟨Nat.le_of_ble_eq_true rfl, Nat.le_of_ble_eq_true rfl⟩ ⟨Nat.le_of_ble_eq_true rfl, Nat.le_of_ble_eq_true rfl⟩ (Nat.le_of_ble_eq_true rfl) dL_isIn_2 (fun ex S1 h => ?_) (fun r S1 h => ?_)
  · obtain ⟨rfl, h⟩ := h
    refine zx_catch [] ⟨0, 6, 9, 25⟩ [] rfl (by decide) (fun z hz => by simp at hz) (by decide) (by decide) zw_576 (fun q9 => ?_)
    refine z_astore_n (lv' := [(3, .ref q9), (0, .ref a0), (1, .int l1)]) dL_isIn_9 rfl (Nat.le_of_ble_eq_true rfl) rfl ?_
    refine z_sipush (v := -7100) dL_isIn_10 rfl ?_
    exact z_ireturn ⟨_, rfl, rfl, h⟩ rfl (Nat.le_of_ble_eq_true rfl) (Nat.le_of_ble_eq_true rfl) dL_isIn_13
  · refine z_istore_n (lv' := [(2, .int r), (0, .ref a0), (1, .int l1)]) dL_isIn_5 rfl (Nat.le_of_ble_eq_true rfl) rfl ?_
    refine z_goto 14 dL_isIn_6 (by decide) ?_
    refine z_iload_n 0 dL_isIn_14 rfl rfl ?_
    refine z_if_eq 22 dL_isIn_15 (by decide) (fun c9 => ?_) (fun c9 => ?_)
    · have h := h.1 c9
      refine z_iconst (v := 0) dL_isIn_22 rfl ?_
      exact z_ireturn ⟨_, rfl, rfl, h⟩ rfl (Nat.le_of_ble_eq_true rfl) (Nat.le_of_ble_eq_true rfl) dL_isIn_23
    · have h := h.2 c9
      refine z_iconst (v := 1) dL_isIn_18 rfl ?_
      refine z_goto 23 dL_isIn_19 (by decide) ?_
      exact z_ireturn ⟨_, rfl, rfl, h⟩ rfl (Nat.le_of_ble_eq_true rfl) (Nat.le_of_ble_eq_true rfl) dL_isIn_23
set_option maxRecDepth 20000 in
set_option maxHeartbeats 4000000 in
theorem w_L_late {E : zE} {a0 : Nat} {l1 : Int32} {S : zS} {Q : Int32 → zS → Prop} (h : p_L_late E a0 l1 S Q) : zMX E yL_late cL_late 4 (some .int) [(0, 6, 9, 25)] ({ frames := 9, cells := 1, slots := 6, locals := 145 } : Room) [.ref a0, .int l1] [] S (fun v X S1 => ∃ r, v = some (.int r) ∧ X = [] ∧ Q r S1) := by
  obtain ⟨hx9, h⟩ := h
  refine zMX_of RL (by decide) rfl (Nat.le_of_ble_eq_true rfl) ?_
  refine z_sub [0, 1] (lv' := [(0, .ref a0), (1, .int l1)]) rfl ?_
  refine z_aload_n 0 dL_late_0 rfl rfl ?_
  refine z_iload_n 1 dL_late_1 rfl rfl ?_
  refine z_callVI (ci := 10) (st := []) (w_X10_late h) hx9.1 hx9.2 (Nat.le_of_ble_eq_true rfl) rfl zw_1291 zw_1288 zw_1289 zw_1290 zw_30 zy_X10_late rfl rfl ⟨Nat.le_of_ble_eq_true rfl, Nat.le_of_ble_eq_true rfl⟩ ⟨Nat.le_of_ble_eq_true rfl, Nat.le_of_ble_eq_true rfl⟩ (Nat.le_of_ble_eq_true rfl) dL_late_2 (fun ex S1 h => ?_) (fun r S1 h => ?_)
  · obtain ⟨rfl, h⟩ := h
    refine zx_catch [] ⟨0, 6, 9, 25⟩ [] rfl (by decide) (fun z hz => by simp at hz) (by decide) (by decide) zw_576 (fun q9 => ?_)
    refine z_astore_n (lv' := [(3, .ref q9), (0, .ref a0), (1, .int l1)]) dL_late_9 rfl (Nat.le_of_ble_eq_true rfl) rfl ?_
    refine z_sipush (v := -7100) dL_late_10 rfl ?_
    exact z_ireturn ⟨_, rfl, rfl, h⟩ rfl (Nat.le_of_ble_eq_true rfl) (Nat.le_of_ble_eq_true rfl) dL_late_13
  · refine z_istore_n (lv' := [(2, .int r), (0, .ref a0), (1, .int l1)]) dL_late_5 rfl (Nat.le_of_ble_eq_true rfl) rfl ?_
    refine z_goto 14 dL_late_6 (by decide) ?_
    refine z_iload_n 0 dL_late_14 rfl rfl ?_
    exact z_ireturn ⟨_, rfl, rfl, h⟩ rfl (Nat.le_of_ble_eq_true rfl) (Nat.le_of_ble_eq_true rfl) dL_late_15
set_option maxRecDepth 20000 in
set_option maxHeartbeats 4000000 in
theorem w_L_early {E : zE} {a0 : Nat} {l1 : Int32} {S : zS} {Q : Int32 → zS → Prop} (h : p_L_early E a0 l1 S Q) : zMX E yL_early cL_early 4 (some .int) [(0, 6, 9, 25)] ({ frames := 9, cells := 1, slots := 6, locals := 145 } : Room) [.ref a0, .int l1] [] S (fun v X S1 => ∃ r, v = some (.int r) ∧ X = [] ∧ Q r S1) := by
  obtain ⟨hx9, h⟩ := h
  refine zMX_of RL (by decide) rfl (Nat.le_of_ble_eq_true rfl) ?_
  refine z_sub [0, 1] (lv' := [(0, .ref a0), (1, .int l1)]) rfl ?_
  refine z_aload_n 0 dL_early_0 rfl rfl ?_
  refine z_iload_n 1 dL_early_1 rfl rfl ?_
  refine z_callVI (ci := 10) (st := []) (w_X10_early h) hx9.1 hx9.2 (Nat.le_of_ble_eq_true rfl) rfl zw_1298 zw_1295 zw_1296 zw_1297 zw_30 zy_X10_early rfl rfl ⟨Nat.le_of_ble_eq_true rfl, Nat.le_of_ble_eq_true rfl⟩ ⟨Nat.le_of_ble_eq_true rfl, Nat.le_of_ble_eq_true rfl⟩ (Nat.le_of_ble_eq_true rfl) dL_early_2 (fun ex S1 h => ?_) (fun r S1 h => ?_)
  · obtain ⟨rfl, h⟩ := h
    refine zx_catch [] ⟨0, 6, 9, 25⟩ [] rfl (by decide) (fun z hz => by simp at hz) (by decide) (by decide) zw_576 (fun q9 => ?_)
    refine z_astore_n (lv' := [(3, .ref q9), (0, .ref a0), (1, .int l1)]) dL_early_9 rfl (Nat.le_of_ble_eq_true rfl) rfl ?_
    refine z_sipush (v := -7100) dL_early_10 rfl ?_
    exact z_ireturn ⟨_, rfl, rfl, h⟩ rfl (Nat.le_of_ble_eq_true rfl) (Nat.le_of_ble_eq_true rfl) dL_early_13
  · refine z_istore_n (lv' := [(2, .int r), (0, .ref a0), (1, .int l1)]) dL_early_5 rfl (Nat.le_of_ble_eq_true rfl) rfl ?_
    refine z_goto 14 dL_early_6 (by decide) ?_
    refine z_iload_n 0 dL_early_14 rfl rfl ?_
    exact z_ireturn ⟨_, rfl, rfl, h⟩ rfl (Nat.le_of_ble_eq_true rfl) (Nat.le_of_ble_eq_true rfl) dL_early_15
set_option maxRecDepth 20000 in
set_option maxHeartbeats 4000000 in
theorem w_L_errors {E : zE} {a0 : Nat} {l1 : Int32} {S : zS} {Q : Int32 → zS → Prop} (h : p_L_errors E a0 l1 S Q) : zMX E yL_errors cL_errors 4 (some .int) [(0, 6, 9, 25)] ({ frames := 9, cells := 1, slots := 6, locals := 145 } : Room) [.ref a0, .int l1] [] S (fun v X S1 => ∃ r, v = some (.int r) ∧ X = [] ∧ Q r S1) := by
  obtain ⟨hx9, h⟩ := h
  refine zMX_of RL (by decide) rfl (Nat.le_of_ble_eq_true rfl) ?_
  refine z_sub [0, 1] (lv' := [(0, .ref a0), (1, .int l1)]) rfl ?_
  refine z_aload_n 0 dL_errors_0 rfl rfl ?_
  refine z_iload_n 1 dL_errors_1 rfl rfl ?_
  refine z_callVI (ci := 10) (st := []) (w_X10_errors h) hx9.1 hx9.2 (Nat.le_of_ble_eq_true rfl) rfl zw_1305 zw_1302 zw_1303 zw_1304 zw_30 zy_X10_errors rfl rfl ⟨Nat.le_of_ble_eq_true rfl, Nat.le_of_ble_eq_true rfl⟩ ⟨Nat.le_of_ble_eq_true rfl, Nat.le_of_ble_eq_true rfl⟩ (Nat.le_of_ble_eq_true rfl) dL_errors_2 (fun ex S1 h => ?_) (fun r S1 h => ?_)
  · obtain ⟨rfl, h⟩ := h
    refine zx_catch [] ⟨0, 6, 9, 25⟩ [] rfl (by decide) (fun z hz => by simp at hz) (by decide) (by decide) zw_576 (fun q9 => ?_)
    refine z_astore_n (lv' := [(3, .ref q9), (0, .ref a0), (1, .int l1)]) dL_errors_9 rfl (Nat.le_of_ble_eq_true rfl) rfl ?_
    refine z_sipush (v := -7100) dL_errors_10 rfl ?_
    exact z_ireturn ⟨_, rfl, rfl, h⟩ rfl (Nat.le_of_ble_eq_true rfl) (Nat.le_of_ble_eq_true rfl) dL_errors_13
  · refine z_istore_n (lv' := [(2, .int r), (0, .ref a0), (1, .int l1)]) dL_errors_5 rfl (Nat.le_of_ble_eq_true rfl) rfl ?_
    refine z_goto 14 dL_errors_6 (by decide) ?_
    refine z_iload_n 0 dL_errors_14 rfl rfl ?_
    exact z_ireturn ⟨_, rfl, rfl, h⟩ rfl (Nat.le_of_ble_eq_true rfl) (Nat.le_of_ble_eq_true rfl) dL_errors_15
set_option maxRecDepth 20000 in
set_option maxHeartbeats 4000000 in
theorem w_L_planned {E : zE} {a0 : Nat} {l1 : Int32} {S : zS} {Q : Int32 → zS → Prop} (h : p_L_planned E a0 l1 S Q) : zMX E yL_planned cL_planned 4 (some .int) [(0, 6, 9, 14)] ({ frames := 9, cells := 1, slots := 6, locals := 146 } : Room) [.ref a0, .int l1] [] S (fun v X S1 => ∃ r, v = some (.int r) ∧ X = [] ∧ Q r S1) := by
  obtain ⟨hx9, h⟩ := h
  refine zMX_of RL (by decide) rfl (Nat.le_of_ble_eq_true rfl) ?_
  refine z_sub [0, 1] (lv' := [(0, .ref a0), (1, .int l1)]) rfl ?_
  refine z_aload_n 0 dL_planned_0 rfl rfl ?_
  refine z_iload_n 1 dL_planned_1 rfl rfl ?_
  refine z_callVI (ci := 10) (st := []) (w_X10_planned h) hx9.1 hx9.2 (Nat.le_of_ble_eq_true rfl) rfl zw_1312 zw_1309 zw_1310 zw_1311 zw_30 zy_X10_planned rfl rfl ⟨Nat.le_of_ble_eq_true rfl, Nat.le_of_ble_eq_true rfl⟩ ⟨Nat.le_of_ble_eq_true rfl, Nat.le_of_ble_eq_true rfl⟩ (Nat.le_of_ble_eq_true rfl) dL_planned_2 (fun ex S1 h => ?_) (fun r S1 h => ?_)
  · obtain ⟨rfl, h⟩ := h
    refine zx_catch [] ⟨0, 6, 9, 14⟩ [] rfl (by decide) (fun z hz => by simp at hz) (by decide) (by decide) zw_320 (fun q9 => ?_)
    refine z_astore_n (lv' := [(3, .ref q9), (0, .ref a0), (1, .int l1)]) dL_planned_9 rfl (Nat.le_of_ble_eq_true rfl) rfl ?_
    refine z_sipush (v := -7200) dL_planned_10 rfl ?_
    exact z_ireturn ⟨_, rfl, rfl, h⟩ rfl (Nat.le_of_ble_eq_true rfl) (Nat.le_of_ble_eq_true rfl) dL_planned_13
  · refine z_istore_n (lv' := [(2, .int r), (0, .ref a0), (1, .int l1)]) dL_planned_5 rfl (Nat.le_of_ble_eq_true rfl) rfl ?_
    refine z_goto 14 dL_planned_6 (by decide) ?_
    refine z_iload_n 0 dL_planned_14 rfl rfl ?_
    exact z_ireturn ⟨_, rfl, rfl, h⟩ rfl (Nat.le_of_ble_eq_true rfl) (Nat.le_of_ble_eq_true rfl) dL_planned_15
set_option maxRecDepth 20000 in
set_option maxHeartbeats 4000000 in
theorem w_L_rota {E : zE} {a0 : Nat} {l1 : Int32} {S : zS} {Q : Int32 → zS → Prop} (h : p_L_rota E a0 l1 S Q) : zMX E yL_rota cL_rota 4 (some .int) [(0, 6, 9, 14)] ({ frames := 8, cells := 1, slots := 6, locals := 132 } : Room) [.ref a0, .int l1] [] S (fun v X S1 => ∃ r, v = some (.int r) ∧ X = [] ∧ Q r S1) := by
  obtain ⟨hx9, h⟩ := h
  refine zMX_of RL (by decide) rfl (Nat.le_of_ble_eq_true rfl) ?_
  refine z_sub [0, 1] (lv' := [(0, .ref a0), (1, .int l1)]) rfl ?_
  refine z_aload_n 0 dL_rota_0 rfl rfl ?_
  refine z_iload_n 1 dL_rota_1 rfl rfl ?_
  refine z_callVI (ci := 10) (st := []) (w_X10_rota h) hx9.1 hx9.2 (Nat.le_of_ble_eq_true rfl) rfl zw_1319 zw_1316 zw_1317 zw_1318 zw_30 zy_X10_rota rfl rfl ⟨Nat.le_of_ble_eq_true rfl, Nat.le_of_ble_eq_true rfl⟩ ⟨Nat.le_of_ble_eq_true rfl, Nat.le_of_ble_eq_true rfl⟩ (Nat.le_of_ble_eq_true rfl) dL_rota_2 (fun ex S1 h => ?_) (fun r S1 h => ?_)
  · obtain ⟨rfl, h⟩ := h
    refine zx_catch [] ⟨0, 6, 9, 14⟩ [] rfl (by decide) (fun z hz => by simp at hz) (by decide) (by decide) zw_320 (fun q9 => ?_)
    refine z_astore_n (lv' := [(3, .ref q9), (0, .ref a0), (1, .int l1)]) dL_rota_9 rfl (Nat.le_of_ble_eq_true rfl) rfl ?_
    refine z_sipush (v := -7200) dL_rota_10 rfl ?_
    exact z_ireturn ⟨_, rfl, rfl, h⟩ rfl (Nat.le_of_ble_eq_true rfl) (Nat.le_of_ble_eq_true rfl) dL_rota_13
  · refine z_istore_n (lv' := [(2, .int r), (0, .ref a0), (1, .int l1)]) dL_rota_5 rfl (Nat.le_of_ble_eq_true rfl) rfl ?_
    refine z_goto 14 dL_rota_6 (by decide) ?_
    refine z_iload_n 0 dL_rota_14 rfl rfl ?_
    exact z_ireturn ⟨_, rfl, rfl, h⟩ rfl (Nat.le_of_ble_eq_true rfl) (Nat.le_of_ble_eq_true rfl) dL_rota_15
set_option maxRecDepth 20000 in
set_option maxHeartbeats 4000000 in
theorem w_L_plannedAt {E : zE} {a0 : Nat} {l1 : Int32} {l2 : Int32} {S : zS} {Q : Int32 → zS → Prop} (h : p_L_plannedAt E a0 l1 l2 S Q) : zMX E yL_plannedAt cL_plannedAt 5 (some .int) [(0, 7, 10, 14), (0, 7, 16, 25)] ({ frames := 9, cells := 2, slots := 12, locals := 148 } : Room) [.ref a0, .int l1, .int l2] [] S (fun v X S1 => ∃ r, v = some (.int r) ∧ X = [] ∧ Q r S1) := by
  obtain ⟨hx9, h⟩ := h
  refine zMX_of RL (by decide) rfl (Nat.le_of_ble_eq_true rfl) ?_
  refine z_sub [0, 1, 2] (lv' := [(0, .ref a0), (1, .int l1), (2, .int l2)]) rfl ?_
  refine z_aload_n 0 dL_plannedAt_0 rfl rfl ?_
  refine z_iload_n 1 dL_plannedAt_1 rfl rfl ?_
  refine z_iload_n 2 dL_plannedAt_2 rfl rfl ?_
  refine z_callVI (ci := 10) (st := []) (w_X10_plannedAt h) hx9.1 hx9.2 (Nat.le_of_ble_eq_true rfl) rfl zw_1327 zw_1324 zw_1325 zw_1326 zw_30 zy_X10_plannedAt rfl rfl ⟨Nat.le_of_ble_eq_true rfl, Nat.le_of_ble_eq_true rfl⟩ ⟨Nat.le_of_ble_eq_true rfl, Nat.le_of_ble_eq_true rfl⟩ (Nat.le_of_ble_eq_true rfl) dL_plannedAt_3 (fun ex S1 h => ?_) (fun r S1 h => ?_)
  · rcases h with ⟨rfl, h⟩ | ⟨rfl, h⟩
    · refine zx_catch [] ⟨0, 7, 10, 14⟩ [⟨0, 7, 16, 25⟩] rfl (by decide) (fun z hz => by simp at hz) (by decide) (by decide) zw_320 (fun q9 => ?_)
      refine z_astore (lv' := [(4, .ref q9), (0, .ref a0), (1, .int l1), (2, .int l2)]) dL_plannedAt_10 (Nat.le_of_ble_eq_true rfl) rfl ?_
      refine z_sipush (v := -7200) dL_plannedAt_12 rfl ?_
      exact z_ireturn ⟨_, rfl, rfl, h⟩ rfl (Nat.le_of_ble_eq_true rfl) (Nat.le_of_ble_eq_true rfl) dL_plannedAt_15
    · refine zx_catch [⟨0, 7, 10, 14⟩] ⟨0, 7, 16, 25⟩ [] rfl (by decide) (fun z hz => by
        simp only [List.mem_cons, List.not_mem_nil, or_false] at hz
        rcases hz with rfl
        · exact ⟨by decide, "java/lang/IllegalArgumentException", by decide, by decide, zw_320⟩) (by decide) (by decide) zw_576 (fun q9 => ?_)
      refine z_astore (lv' := [(4, .ref q9), (0, .ref a0), (1, .int l1), (2, .int l2)]) dL_plannedAt_16 (Nat.le_of_ble_eq_true rfl) rfl ?_
      refine z_sipush (v := -7100) dL_plannedAt_18 rfl ?_
      exact z_ireturn ⟨_, rfl, rfl, h⟩ rfl (Nat.le_of_ble_eq_true rfl) (Nat.le_of_ble_eq_true rfl) dL_plannedAt_21
  · refine z_istore_n (lv' := [(3, .int r), (0, .ref a0), (1, .int l1), (2, .int l2)]) dL_plannedAt_6 rfl (Nat.le_of_ble_eq_true rfl) rfl ?_
    refine z_goto 22 dL_plannedAt_7 (by decide) ?_
    refine z_iload_n 0 dL_plannedAt_22 rfl rfl ?_
    exact z_ireturn ⟨_, rfl, rfl, h⟩ rfl (Nat.le_of_ble_eq_true rfl) (Nat.le_of_ble_eq_true rfl) dL_plannedAt_23
