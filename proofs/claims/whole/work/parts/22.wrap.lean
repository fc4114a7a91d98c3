set_option maxRecDepth 20000 in
set_option maxHeartbeats 4000000 in
theorem w_L_change {E : zE} {x q : Nat} {l1 : Int32} {f : Nat → Int64} {S : zS} {PM : Int32 → Int32 → zS → Prop} (hx9 : x ∈ gL S ∧ gK S x = 10) (h : p_X10_change E x l1 S (fun r S1 => PM 0 r S1) (fun ex S1 => (ex = "java/lang/IllegalArgumentException" ∧ PM 1 0 S1) ∨ (ex = "java/lang/IllegalStateException" ∧ PM 2 0 S1))) : zMX E yL_change cL_change 4 (some .int) [(0, 9, 12, 13), (0, 9, 15, 15)] ({ frames := 8, cells := 2, slots := 12, locals := 125 } : Room) [.ref x, .int l1, .ref q] [(q, zcl E f)] S (fun v X S1 => ∃ k r f1, v = some (.int k) ∧ X = [(q, zcl E f1)] ∧ (k = 0 → f1 0 = r.toInt64) ∧ PM k r S1) := by
  refine zMX_of RL (by decide) rfl (Nat.le_of_ble_eq_true rfl) ?_
  refine z_sub [0, 1, 2] (lv' := [(0, .ref x), (1, .int l1), (2, .ref q)]) rfl ?_
  refine z_aload_n 2 dL_change_0 rfl rfl ?_
  refine z_iconst (v := 0) dL_change_1 rfl ?_
  refine z_aload_n 0 dL_change_2 rfl rfl ?_
  refine z_iload_n 1 dL_change_3 rfl rfl ?_
  refine z_callVI (ci := 10) (st := [.int 0, .ref q]) (w_X10_change h) hx9.1 hx9.2 (Nat.le_of_ble_eq_true rfl) rfl zw_410 zw_407 zw_408 zw_409 zw_63 zy_X10_change rfl rfl ⟨Nat.le_of_ble_eq_true rfl, Nat.le_of_ble_eq_true rfl⟩ ⟨Nat.le_of_ble_eq_true rfl, Nat.le_of_ble_eq_true rfl⟩ (Nat.le_of_ble_eq_true rfl) dL_change_4 (fun ex S1 h => ?_) (fun r S1 h => ?_)
  · rcases h with ⟨rfl, h⟩ | ⟨rfl, h⟩
    · refine zx_catch [] ⟨0, 9, 12, 13⟩ [⟨0, 9, 15, 15⟩] rfl (by decide) (fun z hz => by simp at hz) (by decide) (by decide) zw_405 (fun q9 => ?_)
      refine z_astore_n (lv' := [(3, .ref q9), (0, .ref x), (1, .int l1), (2, .ref q)]) dL_change_12 rfl (Nat.le_of_ble_eq_true rfl) rfl ?_
      refine z_iconst (v := 1) dL_change_13 rfl ?_
      exact z_ireturn ⟨1, 0, f, rfl, rfl, (fun h0 => absurd h0 (by decide)), h⟩ rfl (Nat.le_of_ble_eq_true rfl) (Nat.le_of_ble_eq_true rfl) dL_change_14
    · refine zx_catch [⟨0, 9, 12, 13⟩] ⟨0, 9, 15, 15⟩ [] rfl (by decide) (fun z hz => by
        simp only [List.mem_cons, List.not_mem_nil, or_false] at hz
        rcases hz with rfl
        · exact ⟨by decide, "java/lang/IllegalArgumentException", by decide, by decide, zw_405⟩) (by decide) (by decide) zw_406 (fun q9 => ?_)
      refine z_astore_n (lv' := [(3, .ref q9), (0, .ref x), (1, .int l1), (2, .ref q)]) dL_change_15 rfl (Nat.le_of_ble_eq_true rfl) rfl ?_
      refine z_iconst (v := 2) dL_change_16 rfl ?_
      exact z_ireturn ⟨2, 0, f, rfl, rfl, (fun h0 => absurd h0 (by decide)), h⟩ rfl (Nat.le_of_ble_eq_true rfl) (Nat.le_of_ble_eq_true rfl) dL_change_17
  · refine z_i2l dL_change_7 rfl ?_
    refine z_lastX dL_change_8 ?_
    refine z_goto 18 dL_change_9 (by decide) ?_
    refine z_iconst (v := 0) dL_change_18 rfl ?_
    exact z_ireturn ⟨0, r, _, rfl, rfl, (fun _ => by rw [vp_updL]; rfl), h⟩ rfl (Nat.le_of_ble_eq_true rfl) (Nat.le_of_ble_eq_true rfl) dL_change_19
set_option maxRecDepth 20000 in
set_option maxHeartbeats 4000000 in
theorem w_L_method {E : zE} {x q : Nat} {l1 : Int32} {f : Nat → Int64} {S : zS} {PM : Int32 → Int32 → zS → Prop} (hx9 : x ∈ gL S ∧ gK S x = 10) (h : p_X10_method E x l1 S (fun r S1 => PM 0 r S1) (fun ex S1 => (ex = "java/lang/IllegalArgumentException" ∧ PM 1 0 S1) ∨ (ex = "java/lang/IllegalStateException" ∧ PM 2 0 S1))) : zMX E yL_method cL_method 4 (some .int) [(0, 9, 12, 13), (0, 9, 15, 15)] ({ frames := 8, cells := 7, slots := 194, locals := 193 } : Room) [.ref x, .int l1, .ref q] [(q, zcl E f)] S (fun v X S1 => ∃ k r f1, v = some (.int k) ∧ X = [(q, zcl E f1)] ∧ (k = 0 → f1 0 = r.toInt64) ∧ PM k r S1) := by
  refine zMX_of RL (by decide) rfl (Nat.le_of_ble_eq_true rfl) ?_
  refine z_sub [0, 1, 2] (lv' := [(0, .ref x), (1, .int l1), (2, .ref q)]) rfl ?_
  refine z_aload_n 2 dL_method_0 rfl rfl ?_
  refine z_iconst (v := 0) dL_method_1 rfl ?_
  refine z_aload_n 0 dL_method_2 rfl rfl ?_
  refine z_iload_n 1 dL_method_3 rfl rfl ?_
  refine z_callVI (ci := 10) (st := [.int 0, .ref q]) (w_X10_method h) hx9.1 hx9.2 (Nat.le_of_ble_eq_true rfl) rfl zw_504 zw_501 zw_502 zw_503 zw_63 zy_X10_method rfl rfl ⟨Nat.le_of_ble_eq_true rfl, Nat.le_of_ble_eq_true rfl⟩ ⟨Nat.le_of_ble_eq_true rfl, Nat.le_of_ble_eq_true rfl⟩ (Nat.le_of_ble_eq_true rfl) dL_method_4 (fun ex S1 h => ?_) (fun r S1 h => ?_)
  · rcases h with ⟨rfl, h⟩ | ⟨rfl, h⟩
    · refine zx_catch [] ⟨0, 9, 12, 13⟩ [⟨0, 9, 15, 15⟩] rfl (by decide) (fun z hz => by simp at hz) (by decide) (by decide) zw_405 (fun q9 => ?_)
      refine z_astore_n (lv' := [(3, .ref q9), (0, .ref x), (1, .int l1), (2, .ref q)]) dL_method_12 rfl (Nat.le_of_ble_eq_true rfl) rfl ?_
      refine z_iconst (v := 1) dL_method_13 rfl ?_
      exact z_ireturn ⟨1, 0, f, rfl, rfl, (fun h0 => absurd h0 (by decide)), h⟩ rfl (Nat.le_of_ble_eq_true rfl) (Nat.le_of_ble_eq_true rfl) dL_method_14
    · refine zx_catch [⟨0, 9, 12, 13⟩] ⟨0, 9, 15, 15⟩ [] rfl (by decide) (fun z hz => by
        simp only [List.mem_cons, List.not_mem_nil, or_false] at hz
        rcases hz with rfl
        · exact ⟨by decide, "java/lang/IllegalArgumentException", by decide, by decide, zw_405⟩) (by decide) (by decide) zw_406 (fun q9 => ?_)
      refine z_astore_n (lv' := [(3, .ref q9), (0, .ref x), (1, .int l1), (2, .ref q)]) dL_method_15 rfl (Nat.le_of_ble_eq_true rfl) rfl ?_
      refine z_iconst (v := 2) dL_method_16 rfl ?_
      exact z_ireturn ⟨2, 0, f, rfl, rfl, (fun h0 => absurd h0 (by decide)), h⟩ rfl (Nat.le_of_ble_eq_true rfl) (Nat.le_of_ble_eq_true rfl) dL_method_17
  · refine z_i2l dL_method_7 rfl ?_
    refine z_lastX dL_method_8 ?_
    refine z_goto 18 dL_method_9 (by decide) ?_
    refine z_iconst (v := 0) dL_method_18 rfl ?_
    exact z_ireturn ⟨0, r, _, rfl, rfl, (fun _ => by rw [vp_updL]; rfl), h⟩ rfl (Nat.le_of_ble_eq_true rfl) (Nat.le_of_ble_eq_true rfl) dL_method_19
set_option maxRecDepth 20000 in
set_option maxHeartbeats 4000000 in
theorem w_L_setCall {E : zE} {x q : Nat} {l1 l2 l3 : Int32} {f : Nat → Int64} {S : zS} {PM : Int32 → Int32 → zS → Prop} (hx9 : x ∈ gL S ∧ gK S x = 10) (h : p_X10_setCall E x l1 l2 l3 S (fun r S1 => PM 0 r S1) (fun ex S1 => (ex = "java/lang/IndexOutOfBoundsException" ∧ PM 1 0 S1) ∨ (ex = "java/lang/IllegalArgumentException" ∧ PM 2 0 S1) ∨ (ex = "java/lang/IllegalStateException" ∧ PM 3 0 S1))) : zMX E yL_setCall cL_setCall 6 (some .int) [(0, 12, 15, 24), (0, 12, 19, 13), (0, 12, 23, 15)] ({ frames := 9, cells := 3, slots := 18, locals := 166 } : Room) [.ref x, .int l1, .int l2, .int l3, .ref q] [(q, zcl E f)] S (fun v X S1 => ∃ k r f1, v = some (.int k) ∧ X = [(q, zcl E f1)] ∧ (k = 0 → f1 0 = r.toInt64) ∧ PM k r S1) := by
  refine zMX_of RL (by decide) rfl (Nat.le_of_ble_eq_true rfl) ?_
  refine z_sub [0, 1, 2, 3, 4] (lv' := [(0, .ref x), (1, .int l1), (2, .int l2), (3, .int l3), (4, .ref q)]) rfl ?_
  refine z_aload 4 dL_setCall_0 rfl ?_
  refine z_iconst (v := 0) dL_setCall_2 rfl ?_
  refine z_aload_n 0 dL_setCall_3 rfl rfl ?_
  refine z_iload_n 1 dL_setCall_4 rfl rfl ?_
  refine z_iload_n 2 dL_setCall_5 rfl rfl ?_
  refine z_iload_n 3 dL_setCall_6 rfl rfl ?_
  refine z_callVI (ci := 10) (st := [.int 0, .ref q]) (w_X10_setCall h) hx9.1 hx9.2 (Nat.le_of_ble_eq_true rfl) rfl zw_655 zw_652 zw_653 zw_654 zw_63 zy_X10_setCall rfl rfl ⟨Nat.le_of_ble_eq_true rfl, Nat.le_of_ble_eq_true rfl⟩ ⟨Nat.le_of_ble_eq_true rfl, Nat.le_of_ble_eq_true rfl⟩ (Nat.le_of_ble_eq_true rfl) dL_setCall_7 (fun ex S1 h => ?_) (fun r S1 h => ?_)
  · rcases h with ⟨rfl, h⟩ | ⟨rfl, h⟩ | ⟨rfl, h⟩
    · refine zx_catch [] ⟨0, 12, 15, 24⟩ [⟨0, 12, 19, 13⟩, ⟨0, 12, 23, 15⟩] rfl (by decide) (fun z hz => by simp at hz) (by decide) (by decide) zw_651 (fun q9 => ?_)
      refine z_astore (lv' := [(5, .ref q9), (0, .ref x), (1, .int l1), (2, .int l2), (3, .int l3), (4, .ref q)]) dL_setCall_15 (Nat.le_of_ble_eq_true rfl) rfl ?_
      refine z_iconst (v := 1) dL_setCall_17 rfl ?_
      exact z_ireturn ⟨1, 0, f, rfl, rfl, (fun h0 => absurd h0 (by decide)), h⟩ rfl (Nat.le_of_ble_eq_true rfl) (Nat.le_of_ble_eq_true rfl) dL_setCall_18
    · refine zx_catch [⟨0, 12, 15, 24⟩] ⟨0, 12, 19, 13⟩ [⟨0, 12, 23, 15⟩] rfl (by decide) (fun z hz => by
        simp only [List.mem_cons, List.not_mem_nil, or_false] at hz
        rcases hz with rfl
        · exact ⟨by decide, "java/lang/IndexOutOfBoundsException", by decide, by decide, zw_651⟩) (by decide) (by decide) zw_405 (fun q9 => ?_)
      refine z_astore (lv' := [(5, .ref q9), (0, .ref x), (1, .int l1), (2, .int l2), (3, .int l3), (4, .ref q)]) dL_setCall_19 (Nat.le_of_ble_eq_true rfl) rfl ?_
      refine z_iconst (v := 2) dL_setCall_21 rfl ?_
      exact z_ireturn ⟨2, 0, f, rfl, rfl, (fun h0 => absurd h0 (by decide)), h⟩ rfl (Nat.le_of_ble_eq_true rfl) (Nat.le_of_ble_eq_true rfl) dL_setCall_22
    · refine zx_catch [⟨0, 12, 15, 24⟩, ⟨0, 12, 19, 13⟩] ⟨0, 12, 23, 15⟩ [] rfl (by decide) (fun z hz => by
        simp only [List.mem_cons, List.not_mem_nil, or_false] at hz
        rcases hz with rfl | rfl
        · exact ⟨by decide, "java/lang/IndexOutOfBoundsException", by decide, by decide, zw_651⟩
        · exact ⟨by decide, "java/lang/IllegalArgumentException", by decide, by decide, zw_405⟩) (by decide) (by decide) zw_406 (fun q9 => ?_)
      refine z_astore (lv' := [(5, .ref q9), (0, .ref x), (1, .int l1), (2, .int l2), (3, .int l3), (4, .ref q)]) dL_setCall_23 (Nat.le_of_ble_eq_true rfl) rfl ?_
      refine z_iconst (v := 3) dL_setCall_25 rfl ?_
      exact z_ireturn ⟨3, 0, f, rfl, rfl, (fun h0 => absurd h0 (by decide)), h⟩ rfl (Nat.le_of_ble_eq_true rfl) (Nat.le_of_ble_eq_true rfl) dL_setCall_26
  · refine z_i2l dL_setCall_10 rfl ?_
    refine z_lastX dL_setCall_11 ?_
    refine z_goto 27 dL_setCall_12 (by decide) ?_
    refine z_iconst (v := 0) dL_setCall_27 rfl ?_
    exact z_ireturn ⟨0, r, _, rfl, rfl, (fun _ => by rw [vp_updL]; rfl), h⟩ rfl (Nat.le_of_ble_eq_true rfl) (Nat.le_of_ble_eq_true rfl) dL_setCall_28
set_option maxRecDepth 20000 in
set_option maxHeartbeats 4000000 in
theorem w_L_stage {E : zE} {x q : Nat} {l1 : Int32} {f : Nat → Int64} {S : zS} {PM : Int32 → Int32 → zS → Prop} (hx9 : x ∈ gL S ∧ gK S x = 10) (h : p_X10_stage E x l1 S (fun r S1 => PM 0 r S1) (fun ex S1 => (ex = "java/lang/IndexOutOfBoundsException" ∧ PM 1 0 S1))) : zMX E yL_stage cL_stage 4 (some .int) [(0, 9, 12, 24)] ({ frames := 9, cells := 1, slots := 6, locals := 145 } : Room) [.ref x, .int l1, .ref q] [(q, zcl E f)] S (fun v X S1 => ∃ k r f1, v = some (.int k) ∧ X = [(q, zcl E f1)] ∧ (k = 0 → f1 0 = r.toInt64) ∧ PM k r S1) := by
  refine zMX_of RL (by decide) rfl (Nat.le_of_ble_eq_true rfl) ?_
  refine z_sub [0, 1, 2] (lv' := [(0, .ref x), (1, .int l1), (2, .ref q)]) rfl ?_
  refine z_aload_n 2 dL_stage_0 rfl rfl ?_
  refine z_iconst (v := 0) dL_stage_1 rfl ?_
  refine z_aload_n 0 dL_stage_2 rfl rfl ?_
  refine z_iload_n 1 dL_stage_3 rfl rfl ?_
  refine z_callVI (ci := 10) (st := [.int 0, .ref q]) (w_X10_stage h) hx9.1 hx9.2 (Nat.le_of_ble_eq_true rfl) rfl zw_775 zw_772 zw_773 zw_774 zw_63 zy_X10_stage rfl rfl ⟨Nat.le_of_ble_eq_true rfl, Nat.le_of_ble_eq_true rfl⟩ ⟨Nat.le_of_ble_eq_true rfl, Nat.le_of_ble_eq_true rfl⟩ (Nat.le_of_ble_eq_true rfl) dL_stage_4 (fun ex S1 h => ?_) (fun r S1 h => ?_)
  · obtain ⟨rfl, h⟩ := h
    refine zx_catch [] ⟨0, 9, 12, 24⟩ [] rfl (by decide) (fun z hz => by simp at hz) (by decide) (by decide) zw_651 (fun q9 => ?_)
    refine z_astore_n (lv' := [(3, .ref q9), (0, .ref x), (1, .int l1), (2, .ref q)]) dL_stage_12 rfl (Nat.le_of_ble_eq_true rfl) rfl ?_
    refine z_iconst (v := 1) dL_stage_13 rfl ?_
    exact z_ireturn ⟨1, 0, f, rfl, rfl, (fun h0 => absurd h0 (by decide)), h⟩ rfl (Nat.le_of_ble_eq_true rfl) (Nat.le_of_ble_eq_true rfl) dL_stage_14
  · refine z_i2l dL_stage_7 rfl ?_
    refine z_lastX dL_stage_8 ?_
    refine z_goto 15 dL_stage_9 (by decide) ?_
    refine z_iconst (v := 0) dL_stage_15 rfl ?_
    exact z_ireturn ⟨0, r, _, rfl, rfl, (fun _ => by rw [vp_updL]; rfl), h⟩ rfl (Nat.le_of_ble_eq_true rfl) (Nat.le_of_ble_eq_true rfl) dL_stage_16
set_option maxRecDepth 20000 in
set_option maxHeartbeats 4000000 in
theorem w_L_changeAt {E : zE} {x q : Nat} {l1 l2 l3 : Int32} {f : Nat → Int64} {S : zS} {PM : Int32 → Int32 → zS → Prop} (hx9 : x ∈ gL S ∧ gK S x = 10) (h : p_X10_changeAt E x l1 l2 l3 S (fun r S1 => PM 0 r S1) (fun ex S1 => (ex = "java/lang/IndexOutOfBoundsException" ∧ PM 1 0 S1) ∨ (ex = "java/lang/IllegalArgumentException" ∧ PM 2 0 S1))) : zMX E yL_changeAt cL_changeAt 6 (some .int) [(0, 12, 15, 24), (0, 12, 19, 13)] ({ frames := 9, cells := 2, slots := 12, locals := 148 } : Room) [.ref x, .int l1, .int l2, .int l3, .ref q] [(q, zcl E f)] S (fun v X S1 => ∃ k r f1, v = some (.int k) ∧ X = [(q, zcl E f1)] ∧ (k = 0 → f1 0 = r.toInt64) ∧ PM k r S1) := by
  refine zMX_of RL (by decide) rfl (Nat.le_of_ble_eq_true rfl) ?_
  refine z_sub [0, 1, 2, 3, 4] (lv' := [(0, .ref x), (1, .int l1), (2, .int l2), (3, .int l3), (4, .ref q)]) rfl ?_
  refine z_aload 4 dL_changeAt_0 rfl ?_
  refine z_iconst (v := 0) dL_changeAt_2 rfl ?_
  refine z_aload_n 0 dL_changeAt_3 rfl rfl ?_
  refine z_iload_n 1 dL_changeAt_4 rfl rfl ?_
  refine z_iload_n 2 dL_changeAt_5 rfl rfl ?_
  refine z_iload_n 3 dL_changeAt_6 rfl rfl ?_
  refine z_callVI (ci := 10) (st := [.int 0, .ref q]) (w_X10_changeAt h) hx9.1 hx9.2 (Nat.le_of_ble_eq_true rfl) rfl zw_782 zw_779 zw_780 zw_781 zw_63 zy_X10_changeAt rfl rfl ⟨Nat.le_of_ble_eq_true rfl, Nat.le_of_ble_eq_true rfl⟩ ⟨Nat.le_of_ble_eq_true rfl, Nat.le_of_ble_eq_true rfl⟩ (Nat.le_of_ble_eq_true rfl) dL_changeAt_7 (fun ex S1 h => ?_) (fun r S1 h => ?_)
  · rcases h with ⟨rfl, h⟩ | ⟨rfl, h⟩
    · refine zx_catch [] ⟨0, 12, 15, 24⟩ [⟨0, 12, 19, 13⟩] rfl (by decide) (fun z hz => by simp at hz) (by decide) (by decide) zw_651 (fun q9 => ?_)
      refine z_astore (lv' := [(5, .ref q9), (0, .ref x), (1, .int l1), (2, .int l2), (3, .int l3), (4, .ref q)]) dL_changeAt_15 (Nat.le_of_ble_eq_true rfl) rfl ?_
      refine z_iconst (v := 1) dL_changeAt_17 rfl ?_
      exact z_ireturn ⟨1, 0, f, rfl, rfl, (fun h0 => absurd h0 (by decide)), h⟩ rfl (Nat.le_of_ble_eq_true rfl) (Nat.le_of_ble_eq_true rfl) dL_changeAt_18
    · refine zx_catch [⟨0, 12, 15, 24⟩] ⟨0, 12, 19, 13⟩ [] rfl (by decide) (fun z hz => by
        simp only [List.mem_cons, List.not_mem_nil, or_false] at hz
        rcases hz with rfl
        · exact ⟨by decide, "java/lang/IndexOutOfBoundsException", by decide, by decide, zw_651⟩) (by decide) (by decide) zw_405 (fun q9 => ?_)
      refine z_astore (lv' := [(5, .ref q9), (0, .ref x), (1, .int l1), (2, .int l2), (3, .int l3), (4, .ref q)]) dL_changeAt_19 (Nat.le_of_ble_eq_true rfl) rfl ?_
      refine z_iconst (v := 2) dL_changeAt_21 rfl ?_
      exact z_ireturn ⟨2, 0, f, rfl, rfl, (fun h0 => absurd h0 (by decide)), h⟩ rfl (Nat.le_of_ble_eq_true rfl) (Nat.le_of_ble_eq_true rfl) dL_changeAt_22
  · refine z_i2l dL_changeAt_10 rfl ?_
    refine z_lastX dL_changeAt_11 ?_
    refine z_goto 23 dL_changeAt_12 (by decide) ?_
    refine z_iconst (v := 0) dL_changeAt_23 rfl ?_
    exact z_ireturn ⟨0, r, _, rfl, rfl, (fun _ => by rw [vp_updL]; rfl), h⟩ rfl (Nat.le_of_ble_eq_true rfl) (Nat.le_of_ble_eq_true rfl) dL_changeAt_24
set_option maxRecDepth 20000 in
set_option maxHeartbeats 4000000 in
theorem w_L_head {E : zE} {x q : Nat} {l1 l2 : Int32} {f : Nat → Int64} {S : zS} {PM : Int32 → Int32 → zS → Prop} (hx9 : x ∈ gL S ∧ gK S x = 10) (h : p_X10_head E x l1 l2 S (fun r S1 => PM 0 r S1) (fun ex S1 => (ex = "java/lang/IndexOutOfBoundsException" ∧ PM 1 0 S1) ∨ (ex = "java/lang/IllegalArgumentException" ∧ PM 2 0 S1))) : zMX E yL_head cL_head 5 (some .int) [(0, 10, 13, 24), (0, 10, 17, 13)] ({ frames := 9, cells := 2, slots := 12, locals := 147 } : Room) [.ref x, .int l1, .int l2, .ref q] [(q, zcl E f)] S (fun v X S1 => ∃ k r f1, v = some (.int k) ∧ X = [(q, zcl E f1)] ∧ (k = 0 → f1 0 = r.toInt64) ∧ PM k r S1) := by
  refine zMX_of RL (by decide) rfl (Nat.le_of_ble_eq_true rfl) ?_
  refine z_sub [0, 1, 2, 3] (lv' := [(0, .ref x), (1, .int l1), (2, .int l2), (3, .ref q)]) rfl ?_
  refine z_aload_n 3 dL_head_0 rfl rfl ?_
  refine z_iconst (v := 0) dL_head_1 rfl ?_
  refine z_aload_n 0 dL_head_2 rfl rfl ?_
  refine z_iload_n 1 dL_head_3 rfl rfl ?_
  refine z_iload_n 2 dL_head_4 rfl rfl ?_
  refine z_callVI (ci := 10) (st := [.int 0, .ref q]) (w_X10_head h) hx9.1 hx9.2 (Nat.le_of_ble_eq_true rfl) rfl zw_790 zw_787 zw_788 zw_789 zw_63 zy_X10_head rfl rfl ⟨Nat.le_of_ble_eq_true rfl, Nat.le_of_ble_eq_true rfl⟩ ⟨Nat.le_of_ble_eq_true rfl, Nat.le_of_ble_eq_true rfl⟩ (Nat.le_of_ble_eq_true rfl) dL_head_5 (fun ex S1 h => ?_) (fun r S1 h => ?_)
  · rcases h with ⟨rfl, h⟩ | ⟨rfl, h⟩
    · refine zx_catch [] ⟨0, 10, 13, 24⟩ [⟨0, 10, 17, 13⟩] rfl (by decide) (fun z hz => by simp at hz) (by decide) (by decide) zw_651 (fun q9 => ?_)
      refine z_astore (lv' := [(4, .ref q9), (0, .ref x), (1, .int l1), (2, .int l2), (3, .ref q)]) dL_head_13 (Nat.le_of_ble_eq_true rfl) rfl ?_
      refine z_iconst (v := 1) dL_head_15 rfl ?_
      exact z_ireturn ⟨1, 0, f, rfl, rfl, (fun h0 => absurd h0 (by decide)), h⟩ rfl (Nat.le_of_ble_eq_true rfl) (Nat.le_of_ble_eq_true rfl) dL_head_16
    · refine zx_catch [⟨0, 10, 13, 24⟩] ⟨0, 10, 17, 13⟩ [] rfl (by decide) (fun z hz => by
        simp only [List.mem_cons, List.not_mem_nil, or_false] at hz
        rcases hz with rfl
        · exact ⟨by decide, "java/lang/IndexOutOfBoundsException", by decide, by decide, zw_651⟩) (by decide) (by decide) zw_405 (fun q9 => ?_)
      refine z_astore (lv' := [(4, .ref q9), (0, .ref x), (1, .int l1), (2, .int l2), (3, .ref q)]) dL_head_17 (Nat.le_of_ble_eq_true rfl) rfl ?_
      refine z_iconst (v := 2) dL_head_19 rfl ?_
      exact z_ireturn ⟨2, 0, f, rfl, rfl, (fun h0 => absurd h0 (by decide)), h⟩ rfl (Nat.le_of_ble_eq_true rfl) (Nat.le_of_ble_eq_true rfl) dL_head_20
  · refine z_i2l dL_head_8 rfl ?_
    refine z_lastX dL_head_9 ?_
    refine z_goto 21 dL_head_10 (by decide) ?_
    refine z_iconst (v := 0) dL_head_21 rfl ?_
    exact z_ireturn ⟨0, r, _, rfl, rfl, (fun _ => by rw [vp_updL]; rfl), h⟩ rfl (Nat.le_of_ble_eq_true rfl) (Nat.le_of_ble_eq_true rfl) dL_head_22
set_option maxRecDepth 20000 in
set_option maxHeartbeats 4000000 in
theorem w_L_course {E : zE} {x q : Nat} {l1 : Int32} {f : Nat → Int64} {S : zS} {PM : Int32 → Int32 → zS → Prop} (hx9 : x ∈ gL S ∧ gK S x = 10) (h : p_X10_course E x l1 S (fun r S1 => PM 0 r S1) (fun ex S1 => (ex = "java/lang/IndexOutOfBoundsException" ∧ PM 1 0 S1))) : zMX E yL_course cL_course 4 (some .int) [(0, 9, 12, 24)] ({ frames := 9, cells := 1, slots := 6, locals := 145 } : Room) [.ref x, .int l1, .ref q] [(q, zcl E f)] S (fun v X S1 => ∃ k r f1, v = some (.int k) ∧ X = [(q, zcl E f1)] ∧ (k = 0 → f1 0 = r.toInt64) ∧ PM k r S1) := by
  refine zMX_of RL (by decide) rfl (Nat.le_of_ble_eq_true rfl) ?_
  refine z_sub [0, 1, 2] (lv' := [(0, .ref x), (1, .int l1), (2, .ref q)]) rfl ?_
  refine z_aload_n 2 dL_course_0 rfl rfl ?_
  refine z_iconst (v := 0) dL_course_1 rfl ?_
  refine z_aload_n 0 dL_course_2 rfl rfl ?_
  refine z_iload_n 1 dL_course_3 rfl rfl ?_
  refine z_callVI (ci := 10) (st := [.int 0, .ref q]) (w_X10_course h) hx9.1 hx9.2 (Nat.le_of_ble_eq_true rfl) rfl zw_804 zw_801 zw_802 zw_803 zw_63 zy_X10_course rfl rfl ⟨Nat.le_of_ble_eq_true rfl, Nat.le_of_ble_eq_true rfl⟩ ⟨Nat.le_of_ble_eq_true rfl, Nat.le_of_ble_eq_true rfl⟩ (Nat.le_of_ble_eq_true rfl) dL_course_4 (fun ex S1 h => ?_) (fun r S1 h => ?_)
  · obtain ⟨rfl, h⟩ := h
    refine zx_catch [] ⟨0, 9, 12, 24⟩ [] rfl (by decide) (fun z hz => by simp at hz) (by decide) (by decide) zw_651 (fun q9 => ?_)
    refine z_astore_n (lv' := [(3, .ref q9), (0, .ref x), (1, .int l1), (2, .ref q)]) dL_course_12 rfl (Nat.le_of_ble_eq_true rfl) rfl ?_
    refine z_iconst (v := 1) dL_course_13 rfl ?_
    exact z_ireturn ⟨1, 0, f, rfl, rfl, (fun h0 => absurd h0 (by decide)), h⟩ rfl (Nat.le_of_ble_eq_true rfl) (Nat.le_of_ble_eq_true rfl) dL_course_14
  · refine z_i2l dL_course_7 rfl ?_
    refine z_lastX dL_course_8 ?_
    refine z_goto 15 dL_course_9 (by decide) ?_
    refine z_iconst (v := 0) dL_course_15 rfl ?_
    exact z_ireturn ⟨0, r, _, rfl, rfl, (fun _ => by rw [vp_updL]; rfl), h⟩ rfl (Nat.le_of_ble_eq_true rfl) (Nat.le_of_ble_eq_true rfl) dL_course_16
set_option maxRecDepth 20000 in
set_option maxHeartbeats 4000000 in
theorem w_L_isFalse {E : zE} {x q : Nat} {l1 l2 : Int32} {f : Nat → Int64} {S : zS} {PM : Int32 → Int32 → zS → Prop} (hx9 : x ∈ gL S ∧ gK S x = 10) (h : p_X10_isFalse E x l1 l2 S (fun r S1 => PM 0 r S1) (fun ex S1 => (ex = "java/lang/IndexOutOfBoundsException" ∧ PM 1 0 S1))) : zMX E yL_isFalse cL_isFalse 5 (some .int) [(0, 17, 20, 24)] ({ frames := 9, cells := 2, slots := 12, locals := 147 } : Room) [.ref x, .int l1, .int l2, .ref q] [(q, zcl E f)] S (fun v X S1 => ∃ k r f1, v = some (.int k) ∧ X = [(q, zcl E f1)] ∧ (k = 0 → f1 0 = (if r = 0 then 0 else 1)) ∧ PM k r S1) := by
  refine zMX_of RL (by decide) rfl (Nat.le_of_ble_eq_true rfl) ?_
  refine z_sub [0, 1, 2, 3] (lv' := [(0, .ref x), (1, .int l1), (2, .int l2), (3, .ref q)]) rfl ?_
  refine z_aload_n 3 dL_isFalse_0 rfl rfl ?_
  refine z_iconst (v := 0) dL_isFalse_1 rfl ?_
  refine z_aload_n 0 dL_isFalse_2 rfl rfl ?_
  refine z_iload_n 1 dL_isFalse_3 rfl rfl ?_
  refine z_iload_n 2 dL_isFalse_4 rfl rfl ?_
  refine z_callVI (ci := 10) (st := [.int 0, .ref q]) (w_X10_isFalse h) hx9.1 hx9.2 (Nat.le_of_ble_eq_true rfl) rfl zw_816 zw_813 zw_814 zw_815 zw_63 zy_X10_isFalse rfl rfl ⟨Nat.le_of_ble_eq_true rfl, Nat.le_of_ble_eq_true rfl⟩ ⟨Nat.le_of_ble_eq_true rfl, Nat.le_of_ble_eq_true rfl⟩ (Nat.le_of_ble_eq_true rfl) dL_isFalse_5 (fun ex S1 h => ?_) (fun r S1 h => ?_)
  · obtain ⟨rfl, h⟩ := h
    refine zx_catch [] ⟨0, 17, 20, 24⟩ [] rfl (by decide) (fun z hz => by simp at hz) (by decide) (by decide) zw_651 (fun q9 => ?_)
    refine z_astore (lv' := [(4, .ref q9), (0, .ref x), (1, .int l1), (2, .int l2), (3, .ref q)]) dL_isFalse_20 (Nat.le_of_ble_eq_true rfl) rfl ?_
    refine z_iconst (v := 1) dL_isFalse_22 rfl ?_
    exact z_ireturn ⟨1, 0, f, rfl, rfl, (fun h0 => absurd h0 (by decide)), h⟩ rfl (Nat.le_of_ble_eq_true rfl) (Nat.le_of_ble_eq_true rfl) dL_isFalse_23
  · refine z_if_eq 15 dL_isFalse_8 (by decide) (fun c9 => ?_) (fun c9 => ?_)
    · refine z_lconst (v := 0) dL_isFalse_15 rfl ?_
      refine z_lastX dL_isFalse_16 ?_
      refine z_goto 24 dL_isFalse_17 (by decide) ?_
      refine z_iconst (v := 0) dL_isFalse_24 rfl ?_
      exact z_ireturn ⟨0, r, _, rfl, rfl, (fun _ => by rw [vp_updL]; simp [c9]), h⟩ rfl (Nat.le_of_ble_eq_true rfl) (Nat.le_of_ble_eq_true rfl) dL_isFalse_25
    · refine z_lconst (v := 1) dL_isFalse_11 rfl ?_
      refine z_goto 16 dL_isFalse_12 (by decide) ?_
      refine z_lastX dL_isFalse_16 ?_
      refine z_goto 24 dL_isFalse_17 (by decide) ?_
      refine z_iconst (v := 0) dL_isFalse_24 rfl ?_
      exact z_ireturn ⟨0, r, _, rfl, rfl, (fun _ => by rw [vp_updL]; simp [c9]), h⟩ rfl (Nat.le_of_ble_eq_true rfl) (Nat.le_of_ble_eq_true rfl) dL_isFalse_25
set_option maxRecDepth 20000 in
set_option maxHeartbeats 4000000 in
theorem w_L_falseRows {E : zE} {x q : Nat} {l1 : Int32} {f : Nat → Int64} {S : zS} {PM : Int32 → Int32 → zS → Prop} (hx9 : x ∈ gL S ∧ gK S x = 10) (h : p_X10_falseRows E x l1 S (fun r S1 => PM 0 r S1) (fun ex S1 => (ex = "java/lang/IndexOutOfBoundsException" ∧ PM 1 0 S1))) : zMX E yL_falseRows cL_falseRows 4 (some .int) [(0, 9, 12, 24)] ({ frames := 9, cells := 1, slots := 6, locals := 145 } : Room) [.ref x, .int l1, .ref q] [(q, zcl E f)] S (fun v X S1 => ∃ k r f1, v = some (.int k) ∧ X = [(q, zcl E f1)] ∧ (k = 0 → f1 0 = r.toInt64) ∧ PM k r S1) := by
  refine zMX_of RL (by decide) rfl (Nat.le_of_ble_eq_true rfl) ?_
  refine z_sub [0, 1, 2] (lv' := [(0, .ref x), (1, .int l1), (2, .ref q)]) rfl ?_
  refine z_aload_n 2 dL_falseRows_0 rfl rfl ?_
  refine z_iconst (v := 0) dL_falseRows_1 rfl ?_
  refine z_aload_n 0 dL_falseRows_2 rfl rfl ?_
  refine z_iload_n 1 dL_falseRows_3 rfl rfl ?_
  refine z_callVI (ci := 10) (st := [.int 0, .ref q]) (w_X10_falseRows h) hx9.1 hx9.2 (Nat.le_of_ble_eq_true rfl) rfl zw_827 zw_824 zw_825 zw_826 zw_63 zy_X10_falseRows rfl rfl ⟨Nat.le_of_ble_eq_true rfl, Nat.le_of_ble_eq_true rfl⟩ ⟨Nat.le_of_ble_eq_true rfl, Nat.le_of_ble_eq_true rfl⟩ (Nat.le_of_ble_eq_true rfl) dL_falseRows_4 (fun ex S1 h => ?_) (fun r S1 h => ?_)
  · obtain ⟨rfl, h⟩ := h
    refine zx_catch [] ⟨0, 9, 12, 24⟩ [] rfl (by decide) (fun z hz => by simp at hz) (by decide) (by decide) zw_651 (fun q9 => ?_)
    refine z_astore_n (lv' := [(3, .ref q9), (0, .ref x), (1, .int l1), (2, .ref q)]) dL_falseRows_12 rfl (Nat.le_of_ble_eq_true rfl) rfl ?_
    refine z_iconst (v := 1) dL_falseRows_13 rfl ?_
    exact z_ireturn ⟨1, 0, f, rfl, rfl, (fun h0 => absurd h0 (by decide)), h⟩ rfl (Nat.le_of_ble_eq_true rfl) (Nat.le_of_ble_eq_true rfl) dL_falseRows_14
  · refine z_i2l dL_falseRows_7 rfl ?_
    refine z_lastX dL_falseRows_8 ?_
    refine z_goto 15 dL_falseRows_9 (by decide) ?_
    refine z_iconst (v := 0) dL_falseRows_15 rfl ?_
    exact z_ireturn ⟨0, r, _, rfl, rfl, (fun _ => by rw [vp_updL]; rfl), h⟩ rfl (Nat.le_of_ble_eq_true rfl) (Nat.le_of_ble_eq_true rfl) dL_falseRows_16
set_option maxRecDepth 20000 in
set_option maxHeartbeats 4000000 in
theorem w_L_lead {E : zE} {x q : Nat} {l1 l2 : Int32} {f : Nat → Int64} {S : zS} {PM : Int32 → Int32 → zS → Prop} (hx9 : x ∈ gL S ∧ gK S x = 10) (h : p_X10_lead E x l1 l2 S (fun r S1 => PM 0 r S1) (fun ex S1 => (ex = "java/lang/IndexOutOfBoundsException" ∧ PM 1 0 S1) ∨ (ex = "java/lang/IllegalArgumentException" ∧ PM 2 0 S1) ∨ (ex = "java/lang/IllegalStateException" ∧ PM 3 0 S1))) : zMX E yL_lead cL_lead 5 (some .int) [(0, 10, 13, 24), (0, 10, 17, 13), (0, 10, 21, 15)] ({ frames := 9, cells := 3, slots := 34, locals := 216 } : Room) [.ref x, .int l1, .int l2, .ref q] [(q, zcl E f)] S (fun v X S1 => ∃ k r f1, v = some (.int k) ∧ X = [(q, zcl E f1)] ∧ (k = 0 → f1 0 = r.toInt64) ∧ PM k r S1) := by
  refine zMX_of RL (by decide) rfl (Nat.le_of_ble_eq_true rfl) ?_
  refine z_sub [0, 1, 2, 3] (lv' := [(0, .ref x), (1, .int l1), (2, .int l2), (3, .ref q)]) rfl ?_
  refine z_aload_n 3 dL_lead_0 rfl rfl ?_
  refine z_iconst (v := 0) dL_lead_1 rfl ?_
  refine z_aload_n 0 dL_lead_2 rfl rfl ?_
  refine z_iload_n 1 dL_lead_3 rfl rfl ?_
  refine z_iload_n 2 dL_lead_4 rfl rfl ?_
  refine z_callVI (ci := 10) (st := [.int 0, .ref q]) (w_X10_lead h) hx9.1 hx9.2 (Nat.le_of_ble_eq_true rfl) rfl zw_834 zw_831 zw_832 zw_833 zw_63 zy_X10_lead rfl rfl ⟨Nat.le_of_ble_eq_true rfl, Nat.le_of_ble_eq_true rfl⟩ ⟨Nat.le_of_ble_eq_true rfl, Nat.le_of_ble_eq_true rfl⟩ (Nat.le_of_ble_eq_true rfl) dL_lead_5 (fun ex S1 h => ?_) (fun r S1 h => ?_)
  · rcases h with ⟨rfl, h⟩ | ⟨rfl, h⟩ | ⟨rfl, h⟩
    · refine zx_catch [] ⟨0, 10, 13, 24⟩ [⟨0, 10, 17, 13⟩, ⟨0, 10, 21, 15⟩] rfl (by decide) (fun z hz => by simp at hz) (by decide) (by decide) zw_651 (fun q9 => ?_)
      refine z_astore (lv' := [(4, .ref q9), (0, .ref x), (1, .int l1), (2, .int l2), (3, .ref q)]) dL_lead_13 (Nat.le_of_ble_eq_true rfl) rfl ?_
      refine z_iconst (v := 1) dL_lead_15 rfl ?_
      exact z_ireturn ⟨1, 0, f, rfl, rfl, (fun h0 => absurd h0 (by decide)), h⟩ rfl (Nat.le_of_ble_eq_true rfl) (Nat.le_of_ble_eq_true rfl) dL_lead_16
    · refine zx_catch [⟨0, 10, 13, 24⟩] ⟨0, 10, 17, 13⟩ [⟨0, 10, 21, 15⟩] rfl (by decide) (fun z hz => by
        simp only [List.mem_cons, List.not_mem_nil, or_false] at hz
        rcases hz with rfl
        · exact ⟨by decide, "java/lang/IndexOutOfBoundsException", by decide, by decide, zw_651⟩) (by decide) (by decide) zw_405 (fun q9 => ?_)
      refine z_astore (lv' := [(4, .ref q9), (0, .ref x), (1, .int l1), (2, .int l2), (3, .ref q)]) dL_lead_17 (Nat.le_of_ble_eq_true rfl) rfl ?_
      refine z_iconst (v := 2) dL_lead_19 rfl ?_
      exact z_ireturn ⟨2, 0, f, rfl, rfl, (fun h0 => absurd h0 (by decide)), h⟩ rfl (Nat.le_of_ble_eq_true rfl) (Nat.le_of_ble_eq_true rfl) dL_lead_20
    · refine zx_catch [⟨0, 10, 13, 24⟩, ⟨0, 10, 17, 13⟩] ⟨0, 10, 21, 15⟩ [] rfl (by decide) (fun z hz => by
        simp only [List.mem_cons, List.not_mem_nil, or_false] at hz
        rcases hz with rfl | rfl
        · exact ⟨by decide, "java/lang/IndexOutOfBoundsException", by decide, by decide, zw_651⟩
        · exact ⟨by decide, "java/lang/IllegalArgumentException", by decide, by decide, zw_405⟩) (by decide) (by decide) zw_406 (fun q9 => ?_)
      refine z_astore (lv' := [(4, .ref q9), (0, .ref x), (1, .int l1), (2, .int l2), (3, .ref q)]) dL_lead_21 (Nat.le_of_ble_eq_true rfl) rfl ?_
      refine z_iconst (v := 3) dL_lead_23 rfl ?_
      exact z_ireturn ⟨3, 0, f, rfl, rfl, (fun h0 => absurd h0 (by decide)), h⟩ rfl (Nat.le_of_ble_eq_true rfl) (Nat.le_of_ble_eq_true rfl) dL_lead_24
  · refine z_i2l dL_lead_8 rfl ?_
    refine z_lastX dL_lead_9 ?_
    refine z_goto 25 dL_lead_10 (by decide) ?_
    refine z_iconst (v := 0) dL_lead_25 rfl ?_
    exact z_ireturn ⟨0, r, _, rfl, rfl, (fun _ => by rw [vp_updL]; rfl), h⟩ rfl (Nat.le_of_ble_eq_true rfl) (Nat.le_of_ble_eq_true rfl) dL_lead_26
set_option maxRecDepth 20000 in
set_option maxHeartbeats 4000000 in
theorem w_L_touch {E : zE} {x q : Nat} {_u : Unit} {f : Nat → Int64} {S : zS} {PM : Int32 → Int32 → zS → Prop} (hx9 : x ∈ gL S ∧ gK S x = 10) (h : p_X10_touch E x S (fun r S1 => PM 0 r S1) (fun ex S1 => (ex = "java/lang/IllegalStateException" ∧ PM 1 0 S1))) : zMX E yL_touch cL_touch 3 (some .int) [(0, 8, 11, 15)] ({ frames := 9, cells := 6, slots := 300, locals := 213 } : Room) [.ref x, .ref q] [(q, zcl E f)] S (fun v X S1 => ∃ k r f1, v = some (.int k) ∧ X = [(q, zcl E f1)] ∧ (k = 0 → f1 0 = r.toInt64) ∧ PM k r S1) := by
  refine zMX_of RL (by decide) rfl (Nat.le_of_ble_eq_true rfl) ?_
  refine z_sub [0, 1] (lv' := [(0, .ref x), (1, .ref q)]) rfl ?_
  refine z_aload_n 1 dL_touch_0 rfl rfl ?_
  refine z_iconst (v := 0) dL_touch_1 rfl ?_
  refine z_aload_n 0 dL_touch_2 rfl rfl ?_
  refine z_callVI (ci := 10) (st := [.int 0, .ref q]) (w_X10_touch h) hx9.1 hx9.2 (Nat.le_of_ble_eq_true rfl) rfl zw_855 zw_852 zw_853 zw_854 zw_63 zy_X10_touch rfl rfl ⟨Nat.le_of_ble_eq_true rfl, Nat.le_of_ble_eq_true rfl⟩ ⟨Nat.le_of_ble_eq_true rfl, Nat.le_of_ble_eq_true rfl⟩ (Nat.le_of_ble_eq_true rfl) dL_touch_3 (fun ex S1 h => ?_) (fun r S1 h => ?_)
  · obtain ⟨rfl, h⟩ := h
    refine zx_catch [] ⟨0, 8, 11, 15⟩ [] rfl (by decide) (fun z hz => by simp at hz) (by decide) (by decide) zw_406 (fun q9 => ?_)
    refine z_astore_n (lv' := [(2, .ref q9), (0, .ref x), (1, .ref q)]) dL_touch_11 rfl (Nat.le_of_ble_eq_true rfl) rfl ?_
    refine z_iconst (v := 1) dL_touch_12 rfl ?_
    exact z_ireturn ⟨1, 0, f, rfl, rfl, (fun h0 => absurd h0 (by decide)), h⟩ rfl (Nat.le_of_ble_eq_true rfl) (Nat.le_of_ble_eq_true rfl) dL_touch_13
  · refine z_i2l dL_touch_6 rfl ?_
    refine z_lastX dL_touch_7 ?_
    refine z_goto 14 dL_touch_8 (by decide) ?_
    refine z_iconst (v := 0) dL_touch_14 rfl ?_
    exact z_ireturn ⟨0, r, _, rfl, rfl, (fun _ => by rw [vp_updL]; rfl), h⟩ rfl (Nat.le_of_ble_eq_true rfl) (Nat.le_of_ble_eq_true rfl) dL_touch_15
set_option maxRecDepth 20000 in
set_option maxHeartbeats 4000000 in
theorem w_L_compose {E : zE} {x q : Nat} {l1 l2 : Int32} {f : Nat → Int64} {S : zS} {PM : Int32 → Int32 → zS → Prop} (hx9 : x ∈ gL S ∧ gK S x = 10) (h : p_X10_compose E x l1 l2 S (fun r S1 => PM 0 r S1) (fun ex S1 => (ex = "java/lang/IndexOutOfBoundsException" ∧ PM 1 0 S1) ∨ (ex = "java/lang/IllegalArgumentException" ∧ PM 2 0 S1) ∨ (ex = "java/lang/IllegalStateException" ∧ PM 3 0 S1))) : zMX E yL_compose cL_compose 5 (some .int) [(0, 10, 13, 24), (0, 10, 17, 13), (0, 10, 21, 15)] ({ frames := 10, cells := 15, slots := 466, locals := 241 } : Room) [.ref x, .int l1, .int l2, .ref q] [(q, zcl E f)] S (fun v X S1 => ∃ k r f1, v = some (.int k) ∧ X = [(q, zcl E f1)] ∧ (k = 0 → f1 0 = r.toInt64) ∧ PM k r S1) := by
  refine zMX_of RL (by decide) rfl (Nat.le_of_ble_eq_true rfl) ?_
  refine z_sub [0, 1, 2, 3] (lv' := [(0, .ref x), (1, .int l1), (2, .int l2), (3, .ref q)]) rfl ?_
  refine z_aload_n 3 dL_compose_0 rfl rfl ?_
  refine z_iconst (v := 0) dL_compose_1 rfl ?_
  refine z_aload_n 0 dL_compose_2 rfl rfl ?_
  refine z_iload_n 1 dL_compose_3 rfl rfl ?_
  refine z_iload_n 2 dL_compose_4 rfl rfl ?_
  refine z_callVI (ci := 10) (st := [.int 0, .ref q]) (w_X10_compose h) hx9.1 hx9.2 (Nat.le_of_ble_eq_true rfl) rfl zw_872 zw_869 zw_870 zw_871 zw_63 zy_X10_compose rfl rfl ⟨Nat.le_of_ble_eq_true rfl, Nat.le_of_ble_eq_true rfl⟩ ⟨Nat.le_of_ble_eq_true rfl, Nat.le_of_ble_eq_true rfl⟩ (Nat.le_of_ble_eq_true rfl) dL_compose_5 (fun ex S1 h => ?_) (fun r S1 h => ?_)
  · rcases h with ⟨rfl, h⟩ | ⟨rfl, h⟩ | ⟨rfl, h⟩
    · refine zx_catch [] ⟨0, 10, 13, 24⟩ [⟨0, 10, 17, 13⟩, ⟨0, 10, 21, 15⟩] rfl (by decide) (fun z hz => by simp at hz) (by decide) (by decide) zw_651 (fun q9 => ?_)
      refine z_astore (lv' := [(4, .ref q9), (0, .ref x), (1, .int l1), (2, .int l2), (3, .ref q)]) dL_compose_13 (Nat.le_of_ble_eq_true rfl) rfl ?_
      refine z_iconst (v := 1) dL_compose_15 rfl ?_
      exact z_ireturn ⟨1, 0, f, rfl, rfl, (fun h0 => absurd h0 (by decide)), h⟩ rfl (Nat.le_of_ble_eq_true rfl) (Nat.le_of_ble_eq_true rfl) dL_compose_16
    · refine zx_catch [⟨0, 10, 13, 24⟩] ⟨0, 10, 17, 13⟩ [⟨0, 10, 21, 15⟩] rfl (by decide) (fun z hz => by
        simp only [List.mem_cons, List.not_mem_nil, or_false] at hz
        rcases hz with rfl
        · exact ⟨by decide, "java/lang/IndexOutOfBoundsException", by decide, by decide, zw_651⟩) (by decide) (by decide) zw_405 (fun q9 => ?_)
      refine z_astore (lv' := [(4, .ref q9), (0, .ref x), (1, .int l1), (2, .int l2), (3, .ref q)]) dL_compose_17 (Nat.le_of_ble_eq_true rfl) rfl ?_
      refine z_iconst (v := 2) dL_compose_19 rfl ?_
      exact z_ireturn ⟨2, 0, f, rfl, rfl, (fun h0 => absurd h0 (by decide)), h⟩ rfl (Nat.le_of_ble_eq_true rfl) (Nat.le_of_ble_eq_true rfl) dL_compose_20
    · refine zx_catch [⟨0, 10, 13, 24⟩, ⟨0, 10, 17, 13⟩] ⟨0, 10, 21, 15⟩ [] rfl (by decide) (fun z hz => by
        simp only [List.mem_cons, List.not_mem_nil, or_false] at hz
        rcases hz with rfl | rfl
        · exact ⟨by decide, "java/lang/IndexOutOfBoundsException", by decide, by decide, zw_651⟩
        · exact ⟨by decide, "java/lang/IllegalArgumentException", by decide, by decide, zw_405⟩) (by decide) (by decide) zw_406 (fun q9 => ?_)
      refine z_astore (lv' := [(4, .ref q9), (0, .ref x), (1, .int l1), (2, .int l2), (3, .ref q)]) dL_compose_21 (Nat.le_of_ble_eq_true rfl) rfl ?_
      refine z_iconst (v := 3) dL_compose_23 rfl ?_
      exact z_ireturn ⟨3, 0, f, rfl, rfl, (fun h0 => absurd h0 (by decide)), h⟩ rfl (Nat.le_of_ble_eq_true rfl) (Nat.le_of_ble_eq_true rfl) dL_compose_24
  · refine z_i2l dL_compose_8 rfl ?_
    refine z_lastX dL_compose_9 ?_
    refine z_goto 25 dL_compose_10 (by decide) ?_
    refine z_iconst (v := 0) dL_compose_25 rfl ?_
    exact z_ireturn ⟨0, r, _, rfl, rfl, (fun _ => by rw [vp_updL]; rfl), h⟩ rfl (Nat.le_of_ble_eq_true rfl) (Nat.le_of_ble_eq_true rfl) dL_compose_26
set_option maxRecDepth 20000 in
set_option maxHeartbeats 4000000 in
theorem w_L_leads {E : zE} {x q : Nat} {l1 : Int32} {f : Nat → Int64} {S : zS} {PM : Int32 → Int32 → zS → Prop} (hx9 : x ∈ gL S ∧ gK S x = 10) (h : p_X10_leads E x l1 S (fun r S1 => PM 0 r S1) (fun ex S1 => (ex = "java/lang/IndexOutOfBoundsException" ∧ PM 1 0 S1))) : zMX E yL_leads cL_leads 4 (some .int) [(0, 9, 12, 24)] ({ frames := 9, cells := 1, slots := 6, locals := 145 } : Room) [.ref x, .int l1, .ref q] [(q, zcl E f)] S (fun v X S1 => ∃ k r f1, v = some (.int k) ∧ X = [(q, zcl E f1)] ∧ (k = 0 → f1 0 = r.toInt64) ∧ PM k r S1) := by
  refine zMX_of RL (by decide) rfl (Nat.le_of_ble_eq_true rfl) ?_
  refine z_sub [0, 1, 2] (lv' := [(0, .ref x), (1, .int l1), (2, .ref q)]) rfl ?_
  refine z_aload_n 2 dL_leads_0 rfl rfl ?_
  refine z_iconst (v := 0) dL_leads_1 rfl ?_
  refine z_aload_n 0 dL_leads_2 rfl rfl ?_
  refine z_iload_n 1 dL_leads_3 rfl rfl ?_
  refine z_callVI (ci := 10) (st := [.int 0, .ref q]) (w_X10_leads h) hx9.1 hx9.2 (Nat.le_of_ble_eq_true rfl) rfl zw_903 zw_900 zw_901 zw_902 zw_63 zy_X10_leads rfl rfl ⟨Nat.le_of_ble_eq_true rfl, Nat.le_of_ble_eq_true rfl⟩ ⟨Nat.le_of_ble_eq_true rfl, Nat.le_of_ble_eq_true rfl⟩ (Nat.le_of_ble_eq_true rfl) dL_leads_4 (fun ex S1 h => ?_) (fun r S1 h => ?_)
  · obtain ⟨rfl, h⟩ := h
    refine zx_catch [] ⟨0, 9, 12, 24⟩ [] rfl (by decide) (fun z hz => by simp at hz) (by decide) (by decide) zw_651 (fun q9 => ?_)
    refine z_astore_n (lv' := [(3, .ref q9), (0, .ref x), (1, .int l1), (2, .ref q)]) dL_leads_12 rfl (Nat.le_of_ble_eq_true rfl) rfl ?_
    refine z_iconst (v := 1) dL_leads_13 rfl ?_
    exact z_ireturn ⟨1, 0, f, rfl, rfl, (fun h0 => absurd h0 (by decide)), h⟩ rfl (Nat.le_of_ble_eq_true rfl) (Nat.le_of_ble_eq_true rfl) dL_leads_14
  · refine z_i2l dL_leads_7 rfl ?_
    refine z_lastX dL_leads_8 ?_
    refine z_goto 15 dL_leads_9 (by decide) ?_
    refine z_iconst (v := 0) dL_leads_15 rfl ?_
    exact z_ireturn ⟨0, r, _, rfl, rfl, (fun _ => by rw [vp_updL]; rfl), h⟩ rfl (Nat.le_of_ble_eq_true rfl) (Nat.le_of_ble_eq_true rfl) dL_leads_16
set_option maxRecDepth 20000 in
set_option maxHeartbeats 4000000 in
theorem w_L_leadAt {E : zE} {x q : Nat} {l1 l2 : Int32} {f : Nat → Int64} {S : zS} {PM : Int32 → Int32 → zS → Prop} (hx9 : x ∈ gL S ∧ gK S x = 10) (h : p_X10_leadAt E x l1 l2 S (fun r S1 => PM 0 r S1) (fun ex S1 => (ex = "java/lang/IndexOutOfBoundsException" ∧ PM 1 0 S1))) : zMX E yL_leadAt cL_leadAt 5 (some .int) [(0, 10, 13, 24)] ({ frames := 9, cells := 2, slots := 12, locals := 147 } : Room) [.ref x, .int l1, .int l2, .ref q] [(q, zcl E f)] S (fun v X S1 => ∃ k r f1, v = some (.int k) ∧ X = [(q, zcl E f1)] ∧ (k = 0 → f1 0 = r.toInt64) ∧ PM k r S1) := by
  refine zMX_of RL (by decide) rfl (Nat.le_of_ble_eq_true rfl) ?_
  refine z_sub [0, 1, 2, 3] (lv' := [(0, .ref x), (1, .int l1), (2, .int l2), (3, .ref q)]) rfl ?_
  refine z_aload_n 3 dL_leadAt_0 rfl rfl ?_
  refine z_iconst (v := 0) dL_leadAt_1 rfl ?_
  refine z_aload_n 0 dL_leadAt_2 rfl rfl ?_
  refine z_iload_n 1 dL_leadAt_3 rfl rfl ?_
  refine z_iload_n 2 dL_leadAt_4 rfl rfl ?_
  refine z_callVI (ci := 10) (st := [.int 0, .ref q]) (w_X10_leadAt h) hx9.1 hx9.2 (Nat.le_of_ble_eq_true rfl) rfl zw_914 zw_911 zw_912 zw_913 zw_63 zy_X10_leadAt rfl rfl ⟨Nat.le_of_ble_eq_true rfl, Nat.le_of_ble_eq_true rfl⟩ ⟨Nat.le_of_ble_eq_true rfl, Nat.le_of_ble_eq_true rfl⟩ (Nat.le_of_ble_eq_true rfl) dL_leadAt_5 (fun ex S1 h => ?_) (fun r S1 h => ?_)
  · obtain ⟨rfl, h⟩ := h
    refine zx_catch [] ⟨0, 10, 13, 24⟩ [] rfl (by decide) (fun z hz => by simp at hz) (by decide) (by decide) zw_651 (fun q9 => ?_)
    refine z_astore (lv' := [(4, .ref q9), (0, .ref x), (1, .int l1), (2, .int l2), (3, .ref q)]) dL_leadAt_13 (Nat.le_of_ble_eq_true rfl) rfl ?_
    refine z_iconst (v := 1) dL_leadAt_15 rfl ?_
    exact z_ireturn ⟨1, 0, f, rfl, rfl, (fun h0 => absurd h0 (by decide)), h⟩ rfl (Nat.le_of_ble_eq_true rfl) (Nat.le_of_ble_eq_true rfl) dL_leadAt_16
  · refine z_i2l dL_leadAt_8 rfl ?_
    refine z_lastX dL_leadAt_9 ?_
    refine z_goto 17 dL_leadAt_10 (by decide) ?_
    refine z_iconst (v := 0) dL_leadAt_17 rfl ?_
    exact z_ireturn ⟨0, r, _, rfl, rfl, (fun _ => by rw [vp_updL]; rfl), h⟩ rfl (Nat.le_of_ble_eq_true rfl) (Nat.le_of_ble_eq_true rfl) dL_leadAt_18
set_option maxRecDepth 20000 in
set_option maxHeartbeats 4000000 in
theorem w_L_rows {E : zE} {x q : Nat} {l1 : Int32} {f : Nat → Int64} {S : zS} {PM : Int32 → Int32 → zS → Prop} (hx9 : x ∈ gL S ∧ gK S x = 10) (h : p_X10_rows E x l1 S (fun r S1 => PM 0 r S1) (fun ex S1 => (ex = "java/lang/IndexOutOfBoundsException" ∧ PM 1 0 S1))) : zMX E yL_rows cL_rows 4 (some .int) [(0, 9, 12, 24)] ({ frames := 9, cells := 1, slots := 6, locals := 145 } : Room) [.ref x, .int l1, .ref q] [(q, zcl E f)] S (fun v X S1 => ∃ k r f1, v = some (.int k) ∧ X = [(q, zcl E f1)] ∧ (k = 0 → f1 0 = r.toInt64) ∧ PM k r S1) := by
  refine zMX_of RL (by decide) rfl (Nat.le_of_ble_eq_true rfl) ?_
  refine z_sub [0, 1, 2] (lv' := [(0, .ref x), (1, .int l1), (2, .ref q)]) rfl ?_
  refine z_aload_n 2 dL_rows_0 rfl rfl ?_
  refine z_iconst (v := 0) dL_rows_1 rfl ?_
  refine z_aload_n 0 dL_rows_2 rfl rfl ?_
  refine z_iload_n 1 dL_rows_3 rfl rfl ?_
  refine z_callVI (ci := 10) (st := [.int 0, .ref q]) (w_X10_rows h) hx9.1 hx9.2 (Nat.le_of_ble_eq_true rfl) rfl zw_921 zw_918 zw_919 zw_920 zw_63 zy_X10_rows rfl rfl ⟨Nat.le_of_ble_eq_true rfl, Nat.le_of_ble_eq_true rfl⟩ ⟨Nat.le_of_ble_eq_true rfl, Nat.le_of_ble_eq_true rfl⟩ (Nat.le_of_ble_eq_true rfl) dL_rows_4 (fun ex S1 h => ?_) (fun r S1 h => ?_)
  · obtain ⟨rfl, h⟩ := h
    refine zx_catch [] ⟨0, 9, 12, 24⟩ [] rfl (by decide) (fun z hz => by simp at hz) (by decide) (by decide) zw_651 (fun q9 => ?_)
    refine z_astore_n (lv' := [(3, .ref q9), (0, .ref x), (1, .int l1), (2, .ref q)]) dL_rows_12 rfl (Nat.le_of_ble_eq_true rfl) rfl ?_
    refine z_iconst (v := 1) dL_rows_13 rfl ?_
    exact z_ireturn ⟨1, 0, f, rfl, rfl, (fun h0 => absurd h0 (by decide)), h⟩ rfl (Nat.le_of_ble_eq_true rfl) (Nat.le_of_ble_eq_true rfl) dL_rows_14
  · refine z_i2l dL_rows_7 rfl ?_
    refine z_lastX dL_rows_8 ?_
    refine z_goto 15 dL_rows_9 (by decide) ?_
    refine z_iconst (v := 0) dL_rows_15 rfl ?_
    exact z_ireturn ⟨0, r, _, rfl, rfl, (fun _ => by rw [vp_updL]; rfl), h⟩ rfl (Nat.le_of_ble_eq_true rfl) (Nat.le_of_ble_eq_true rfl) dL_rows_16
set_option maxRecDepth 20000 in
set_option maxHeartbeats 4000000 in
theorem w_L_rowAt {E : zE} {x q : Nat} {l1 l2 : Int32} {f : Nat → Int64} {S : zS} {PM : Int32 → Int32 → zS → Prop} (hx9 : x ∈ gL S ∧ gK S x = 10) (h : p_X10_rowAt E x l1 l2 S (fun r S1 => PM 0 r S1) (fun ex S1 => (ex = "java/lang/IndexOutOfBoundsException" ∧ PM 1 0 S1))) : zMX E yL_rowAt cL_rowAt 5 (some .int) [(0, 10, 13, 24)] ({ frames := 9, cells := 2, slots := 12, locals := 147 } : Room) [.ref x, .int l1, .int l2, .ref q] [(q, zcl E f)] S (fun v X S1 => ∃ k r f1, v = some (.int k) ∧ X = [(q, zcl E f1)] ∧ (k = 0 → f1 0 = r.toInt64) ∧ PM k r S1) := by
  refine zMX_of RL (by decide) rfl (Nat.le_of_ble_eq_true rfl) ?_
  refine z_sub [0, 1, 2, 3] (lv' := [(0, .ref x), (1, .int l1), (2, .int l2), (3, .ref q)]) rfl ?_
  refine z_aload_n 3 dL_rowAt_0 rfl rfl ?_
  refine z_iconst (v := 0) dL_rowAt_1 rfl ?_
  refine z_aload_n 0 dL_rowAt_2 rfl rfl ?_
  refine z_iload_n 1 dL_rowAt_3 rfl rfl ?_
  refine z_iload_n 2 dL_rowAt_4 rfl rfl ?_
  refine z_callVI (ci := 10) (st := [.int 0, .ref q]) (w_X10_rowAt h) hx9.1 hx9.2 (Nat.le_of_ble_eq_true rfl) rfl zw_928 zw_925 zw_926 zw_927 zw_63 zy_X10_rowAt rfl rfl ⟨Nat.le_of_ble_eq_true rfl, Nat.le_of_ble_eq_true rfl⟩ ⟨Nat.le_of_ble_eq_true rfl, Nat.le_of_ble_eq_true rfl⟩ (Nat.le_of_ble_eq_true rfl) dL_rowAt_5 (fun ex S1 h => ?_) (fun r S1 h => ?_)
  · obtain ⟨rfl, h⟩ := h
    refine zx_catch [] ⟨0, 10, 13, 24⟩ [] rfl (by decide) (fun z hz => by simp at hz) (by decide) (by decide) zw_651 (fun q9 => ?_)
    refine z_astore (lv' := [(4, .ref q9), (0, .ref x), (1, .int l1), (2, .int l2), (3, .ref q)]) dL_rowAt_13 (Nat.le_of_ble_eq_true rfl) rfl ?_
    refine z_iconst (v := 1) dL_rowAt_15 rfl ?_
    exact z_ireturn ⟨1, 0, f, rfl, rfl, (fun h0 => absurd h0 (by decide)), h⟩ rfl (Nat.le_of_ble_eq_true rfl) (Nat.le_of_ble_eq_true rfl) dL_rowAt_16
  · refine z_i2l dL_rowAt_8 rfl ?_
    refine z_lastX dL_rowAt_9 ?_
    refine z_goto 17 dL_rowAt_10 (by decide) ?_
    refine z_iconst (v := 0) dL_rowAt_17 rfl ?_
    exact z_ireturn ⟨0, r, _, rfl, rfl, (fun _ => by rw [vp_updL]; rfl), h⟩ rfl (Nat.le_of_ble_eq_true rfl) (Nat.le_of_ble_eq_true rfl) dL_rowAt_18
set_option maxRecDepth 20000 in
set_option maxHeartbeats 4000000 in
theorem w_L_bellAt {E : zE} {x q : Nat} {l1 l2 l3 : Int32} {f : Nat → Int64} {S : zS} {PM : Int32 → Int32 → zS → Prop} (hx9 : x ∈ gL S ∧ gK S x = 10) (h : p_X10_bellAt E x l1 l2 l3 S (fun r S1 => PM 0 r S1) (fun ex S1 => (ex = "java/lang/IndexOutOfBoundsException" ∧ PM 1 0 S1))) : zMX E yL_bellAt cL_bellAt 6 (some .int) [(0, 12, 15, 24)] ({ frames := 9, cells := 3, slots := 18, locals := 148 } : Room) [.ref x, .int l1, .int l2, .int l3, .ref q] [(q, zcl E f)] S (fun v X S1 => ∃ k r f1, v = some (.int k) ∧ X = [(q, zcl E f1)] ∧ (k = 0 → f1 0 = r.toInt64) ∧ PM k r S1) := by
  refine zMX_of RL (by decide) rfl (Nat.le_of_ble_eq_true rfl) ?_
  refine z_sub [0, 1, 2, 3, 4] (lv' := [(0, .ref x), (1, .int l1), (2, .int l2), (3, .int l3), (4, .ref q)]) rfl ?_
  refine z_aload 4 dL_bellAt_0 rfl ?_
  refine z_iconst (v := 0) dL_bellAt_2 rfl ?_
  refine z_aload_n 0 dL_bellAt_3 rfl rfl ?_
  refine z_iload_n 1 dL_bellAt_4 rfl rfl ?_
  refine z_iload_n 2 dL_bellAt_5 rfl rfl ?_
  refine z_iload_n 3 dL_bellAt_6 rfl rfl ?_
  refine z_callVI (ci := 10) (st := [.int 0, .ref q]) (w_X10_bellAt h) hx9.1 hx9.2 (Nat.le_of_ble_eq_true rfl) rfl zw_935 zw_932 zw_933 zw_934 zw_63 zy_X10_bellAt rfl rfl ⟨Nat.le_of_ble_eq_true rfl, Nat.le_of_ble_eq_true rfl⟩ ⟨Nat.le_of_ble_eq_true rfl, Nat.le_of_ble_eq_true rfl⟩ (Nat.le_of_ble_eq_true rfl) dL_bellAt_7 (fun ex S1 h => ?_) (fun r S1 h => ?_)
  · obtain ⟨rfl, h⟩ := h
    refine zx_catch [] ⟨0, 12, 15, 24⟩ [] rfl (by decide) (fun z hz => by simp at hz) (by decide) (by decide) zw_651 (fun q9 => ?_)
    refine z_astore (lv' := [(5, .ref q9), (0, .ref x), (1, .int l1), (2, .int l2), (3, .int l3), (4, .ref q)]) dL_bellAt_15 (Nat.le_of_ble_eq_true rfl) rfl ?_
    refine z_iconst (v := 1) dL_bellAt_17 rfl ?_
    exact z_ireturn ⟨1, 0, f, rfl, rfl, (fun h0 => absurd h0 (by decide)), h⟩ rfl (Nat.le_of_ble_eq_true rfl) (Nat.le_of_ble_eq_true rfl) dL_bellAt_18
  · refine z_i2l dL_bellAt_10 rfl ?_
    refine z_lastX dL_bellAt_11 ?_
    refine z_goto 19 dL_bellAt_12 (by decide) ?_
    refine z_iconst (v := 0) dL_bellAt_19 rfl ?_
    exact z_ireturn ⟨0, r, _, rfl, rfl, (fun _ => by rw [vp_updL]; rfl), h⟩ rfl (Nat.le_of_ble_eq_true rfl) (Nat.le_of_ble_eq_true rfl) dL_bellAt_20
set_option maxRecDepth 20000 in
set_option maxHeartbeats 4000000 in
theorem w_L_isTrue {E : zE} {x q : Nat} {l1 : Int32} {f : Nat → Int64} {S : zS} {PM : Int32 → Int32 → zS → Prop} (hx9 : x ∈ gL S ∧ gK S x = 10) (h : p_X10_isTrue E x l1 S (fun r S1 => PM 0 r S1) (fun ex S1 => (ex = "java/lang/IndexOutOfBoundsException" ∧ PM 1 0 S1))) : zMX E yL_isTrue cL_isTrue 4 (some .int) [(0, 16, 19, 24)] ({ frames := 9, cells := 1, slots := 6, locals := 145 } : Room) [.ref x, .int l1, .ref q] [(q, zcl E f)] S (fun v X S1 => ∃ k r f1, v = some (.int k) ∧ X = [(q, zcl E f1)] ∧ (k = 0 → f1 0 = (if r = 0 then 0 else 1)) ∧ PM k r S1) := by
  refine zMX_of RL (by decide) rfl (Nat.le_of_ble_eq_true rfl) ?_
  refine z_sub [0, 1, 2] (lv' := [(0, .ref x), (1, .int l1), (2, .ref q)]) rfl ?_
  refine z_aload_n 2 dL_isTrue_0 rfl rfl ?_
  refine z_iconst (v := 0) dL_isTrue_1 rfl ?_
  refine z_aload_n 0 dL_isTrue_2 rfl rfl ?_
  refine z_iload_n 1 dL_isTrue_3 rfl rfl ?_
  refine z_callVI (ci := 10) (st := [.int 0, .ref q]) (w_X10_isTrue h) hx9.1 hx9.2 (Nat.le_of_ble_eq_true rfl) rfl zw_947 zw_944 zw_945 zw_946 zw_63 zy_X10_isTrue rfl rfl ⟨Nat.le_of_ble_eq_true rfl, Nat.le_of_ble_eq_true rfl⟩ ⟨Nat.le_of_ble_eq_true rfl, Nat.le_of_ble_eq_true rfl⟩ (Nat.le_of_ble_eq_true rfl) dL_isTrue_4 (fun ex S1 h => ?_) (fun r S1 h => ?_)
  · obtain ⟨rfl, h⟩ := h
    refine zx_catch [] ⟨0, 16, 19, 24⟩ [] rfl (by decide) (fun z hz => by simp at hz) (by decide) (by decide) zw_651 (fun q9 => ?_)
    refine z_astore_n (lv' := [(3, .ref q9), (0, .ref x), (1, .int l1), (2, .ref q)]) dL_isTrue_19 rfl (Nat.le_of_ble_eq_true rfl) rfl ?_
    refine z_iconst (v := 1) dL_isTrue_20 rfl ?_
    exact z_ireturn ⟨1, 0, f, rfl, rfl, (fun h0 => absurd h0 (by decide)), h⟩ rfl (Nat.le_of_ble_eq_true rfl) (Nat.le_of_ble_eq_true rfl) dL_isTrue_21
  · refine z_if_eq 14 dL_isTrue_7 (by decide) (fun c9 => ?_) (fun c9 => ?_)
    · refine z_lconst (v := 0) dL_isTrue_14 rfl ?_
      refine z_lastX dL_isTrue_15 ?_
      refine z_goto 22 dL_isTrue_16 (by decide) ?_
      refine z_iconst (v := 0) dL_isTrue_22 rfl ?_
      exact z_ireturn ⟨0, r, _, rfl, rfl, (fun _ => by rw [vp_updL]; simp [c9]), h⟩ rfl (Nat.le_of_ble_eq_true rfl) (Nat.le_of_ble_eq_true rfl) dL_isTrue_23
    · refine z_lconst (v := 1) dL_isTrue_10 rfl ?_
      refine z_goto 15 dL_isTrue_11 (by decide) ?_
      refine z_lastX dL_isTrue_15 ?_
      refine z_goto 22 dL_isTrue_16 (by decide) ?_
      refine z_iconst (v := 0) dL_isTrue_22 rfl ?_
      exact z_ireturn ⟨0, r, _, rfl, rfl, (fun _ => by rw [vp_updL]; simp [c9]), h⟩ rfl (Nat.le_of_ble_eq_true rfl) (Nat.le_of_ble_eq_true rfl) dL_isTrue_23
set_option maxRecDepth 20000 in
set_option maxHeartbeats 4000000 in
theorem w_L_comesRound {E : zE} {x q : Nat} {l1 : Int32} {f : Nat → Int64} {S : zS} {PM : Int32 → Int32 → zS → Prop} (hx9 : x ∈ gL S ∧ gK S x = 10) (h : p_X10_comesRound E x l1 S (fun r S1 => PM 0 r S1) (fun ex S1 => (ex = "java/lang/IndexOutOfBoundsException" ∧ PM 1 0 S1))) : zMX E yL_comesRound cL_comesRound 4 (some .int) [(0, 16, 19, 24)] ({ frames := 9, cells := 1, slots := 6, locals := 145 } : Room) [.ref x, .int l1, .ref q] [(q, zcl E f)] S (fun v X S1 => ∃ k r f1, v = some (.int k) ∧ X = [(q, zcl E f1)] ∧ (k = 0 → f1 0 = (if r = 0 then 0 else 1)) ∧ PM k r S1) := by
  refine zMX_of RL (by decide) rfl (Nat.le_of_ble_eq_true rfl) ?_
  refine z_sub [0, 1, 2] (lv' := [(0, .ref x), (1, .int l1), (2, .ref q)]) rfl ?_
  refine z_aload_n 2 dL_comesRound_0 rfl rfl ?_
  refine z_iconst (v := 0) dL_comesRound_1 rfl ?_
  refine z_aload_n 0 dL_comesRound_2 rfl rfl ?_
  refine z_iload_n 1 dL_comesRound_3 rfl rfl ?_
  refine z_callVI (ci := 10) (st := [.int 0, .ref q]) (w_X10_comesRound h) hx9.1 hx9.2 (Nat.le_of_ble_eq_true rfl) rfl zw_954 zw_951 zw_952 zw_953 zw_63 zy_X10_comesRound rfl rfl ⟨Nat.le_of_ble_eq_true rfl, Nat.le_of_ble_eq_true rfl⟩ ⟨Nat.le_of_ble_eq_true rfl, Nat.le_of_ble_eq_true rfl⟩ (Nat.le_of_ble_eq_true rfl) dL_comesRound_4 (fun ex S1 h => ?_) (fun r S1 h => ?_)
  · obtain ⟨rfl, h⟩ := h
    refine zx_catch [] ⟨0, 16, 19, 24⟩ [] rfl (by decide) (fun z hz => by simp at hz) (by decide) (by decide) zw_651 (fun q9 => ?_)
    refine z_astore_n (lv' := [(3, .ref q9), (0, .ref x), (1, .int l1), (2, .ref q)]) dL_comesRound_19 rfl (Nat.le_of_ble_eq_true rfl) rfl ?_
    refine z_iconst (v := 1) dL_comesRound_20 rfl ?_
    exact z_ireturn ⟨1, 0, f, rfl, rfl, (fun h0 => absurd h0 (by decide)), h⟩ rfl (Nat.le_of_ble_eq_true rfl) (Nat.le_of_ble_eq_true rfl) dL_comesRound_21
  · refine z_if_eq 14 dL_comesRound_7 (by decide) (fun c9 => ?_) (fun c9 => ?_)
    · refine z_lconst (v := 0) dL_comesRound_14 rfl ?_
      refine z_lastX dL_comesRound_15 ?_
      refine z_goto 22 dL_comesRound_16 (by decide) ?_
      refine z_iconst (v := 0) dL_comesRound_22 rfl ?_
      exact z_ireturn ⟨0, r, _, rfl, rfl, (fun _ => by rw [vp_updL]; simp [c9]), h⟩ rfl (Nat.le_of_ble_eq_true rfl) (Nat.le_of_ble_eq_true rfl) dL_comesRound_23
    · refine z_lconst (v := 1) dL_comesRound_10 rfl ?_
      refine z_goto 15 dL_comesRound_11 (by decide) ?_
      refine z_lastX dL_comesRound_15 ?_
      refine z_goto 22 dL_comesRound_16 (by decide) ?_
      refine z_iconst (v := 0) dL_comesRound_22 rfl ?_
      exact z_ireturn ⟨0, r, _, rfl, rfl, (fun _ => by rw [vp_updL]; simp [c9]), h⟩ rfl (Nat.le_of_ble_eq_true rfl) (Nat.le_of_ble_eq_true rfl) dL_comesRound_23
set_option maxRecDepth 20000 in
set_option maxHeartbeats 4000000 in
theorem w_L_firstRepeat {E : zE} {x q : Nat} {l1 : Int32} {f : Nat → Int64} {S : zS} {PM : Int32 → Int32 → zS → Prop} (hx9 : x ∈ gL S ∧ gK S x = 10) (h : p_X10_firstRepeat E x l1 S (fun r S1 => PM 0 r S1) (fun ex S1 => (ex = "java/lang/IndexOutOfBoundsException" ∧ PM 1 0 S1))) : zMX E yL_firstRepeat cL_firstRepeat 4 (some .int) [(0, 9, 12, 24)] ({ frames := 9, cells := 1, slots := 6, locals := 145 } : Room) [.ref x, .int l1, .ref q] [(q, zcl E f)] S (fun v X S1 => ∃ k r f1, v = some (.int k) ∧ X = [(q, zcl E f1)] ∧ (k = 0 → f1 0 = r.toInt64) ∧ PM k r S1) := by
  refine zMX_of RL (by decide) rfl (Nat.le_of_ble_eq_true rfl) ?_
  refine z_sub [0, 1, 2] (lv' := [(0, .ref x), (1, .int l1), (2, .ref q)]) rfl ?_
  refine z_aload_n 2 dL_firstRepeat_0 rfl rfl ?_
  refine z_iconst (v := 0) dL_firstRepeat_1 rfl ?_
  refine z_aload_n 0 dL_firstRepeat_2 rfl rfl ?_
  refine z_iload_n 1 dL_firstRepeat_3 rfl rfl ?_
  refine z_callVI (ci := 10) (st := [.int 0, .ref q]) (w_X10_firstRepeat h) hx9.1 hx9.2 (Nat.le_of_ble_eq_true rfl) rfl zw_961 zw_958 zw_959 zw_960 zw_63 zy_X10_firstRepeat rfl rfl ⟨Nat.le_of_ble_eq_true rfl, Nat.le_of_ble_eq_true rfl⟩ ⟨Nat.le_of_ble_eq_true rfl, Nat.le_of_ble_eq_true rfl⟩ (Nat.le_of_ble_eq_true rfl) dL_firstRepeat_4 (fun ex S1 h => ?_) (fun r S1 h => ?_)
  · obtain ⟨rfl, h⟩ := h
    refine zx_catch [] ⟨0, 9, 12, 24⟩ [] rfl (by decide) (fun z hz => by simp at hz) (by decide) (by decide) zw_651 (fun q9 => ?_)
    refine z_astore_n (lv' := [(3, .ref q9), (0, .ref x), (1, .int l1), (2, .ref q)]) dL_firstRepeat_12 rfl (Nat.le_of_ble_eq_true rfl) rfl ?_
    refine z_iconst (v := 1) dL_firstRepeat_13 rfl ?_
    exact z_ireturn ⟨1, 0, f, rfl, rfl, (fun h0 => absurd h0 (by decide)), h⟩ rfl (Nat.le_of_ble_eq_true rfl) (Nat.le_of_ble_eq_true rfl) dL_firstRepeat_14
  · refine z_i2l dL_firstRepeat_7 rfl ?_
    refine z_lastX dL_firstRepeat_8 ?_
    refine z_goto 15 dL_firstRepeat_9 (by decide) ?_
    refine z_iconst (v := 0) dL_firstRepeat_15 rfl ?_
    exact z_ireturn ⟨0, r, _, rfl, rfl, (fun _ => by rw [vp_updL]; rfl), h⟩ rfl (Nat.le_of_ble_eq_true rfl) (Nat.le_of_ble_eq_true rfl) dL_firstRepeat_16
set_option maxRecDepth 20000 in
set_option maxHeartbeats 4000000 in
theorem w_L_takeOut {E : zE} {x q : Nat} {l1 : Int32} {f : Nat → Int64} {S : zS} {PM : Int32 → Int32 → zS → Prop} (hx9 : x ∈ gL S ∧ gK S x = 10) (h : p_X10_takeOut E x l1 S (fun r S1 => PM 0 r S1) (fun ex S1 => (ex = "java/lang/IndexOutOfBoundsException" ∧ PM 1 0 S1) ∨ (ex = "java/lang/IllegalStateException" ∧ PM 2 0 S1))) : zMX E yL_takeOut cL_takeOut 4 (some .int) [(0, 9, 12, 24), (0, 9, 15, 15)] ({ frames := 9, cells := 2, slots := 12, locals := 154 } : Room) [.ref x, .int l1, .ref q] [(q, zcl E f)] S (fun v X S1 => ∃ k r f1, v = some (.int k) ∧ X = [(q, zcl E f1)] ∧ (k = 0 → f1 0 = r.toInt64) ∧ PM k r S1) := by
  refine zMX_of RL (by decide) rfl (Nat.le_of_ble_eq_true rfl) ?_
  refine z_sub [0, 1, 2] (lv' := [(0, .ref x), (1, .int l1), (2, .ref q)]) rfl ?_
  refine z_aload_n 2 dL_takeOut_0 rfl rfl ?_
  refine z_iconst (v := 0) dL_takeOut_1 rfl ?_
  refine z_aload_n 0 dL_takeOut_2 rfl rfl ?_
  refine z_iload_n 1 dL_takeOut_3 rfl rfl ?_
  refine z_callVI (ci := 10) (st := [.int 0, .ref q]) (w_X10_takeOut h) hx9.1 hx9.2 (Nat.le_of_ble_eq_true rfl) rfl zw_968 zw_965 zw_966 zw_967 zw_63 zy_X10_takeOut rfl rfl ⟨Nat.le_of_ble_eq_true rfl, Nat.le_of_ble_eq_true rfl⟩ ⟨Nat.le_of_ble_eq_true rfl, Nat.le_of_ble_eq_true rfl⟩ (Nat.le_of_ble_eq_true rfl) dL_takeOut_4 (fun ex S1 h => ?_) (fun r S1 h => ?_)
  · rcases h with ⟨rfl, h⟩ | ⟨rfl, h⟩
    · refine zx_catch [] ⟨0, 9, 12, 24⟩ [⟨0, 9, 15, 15⟩] rfl (by decide) (fun z hz => by simp at hz) (by decide) (by decide) zw_651 (fun q9 => ?_)
      refine z_astore_n (lv' := [(3, .ref q9), (0, .ref x), (1, .int l1), (2, .ref q)]) dL_takeOut_12 rfl (Nat.le_of_ble_eq_true rfl) rfl ?_
      refine z_iconst (v := 1) dL_takeOut_13 rfl ?_
      exact z_ireturn ⟨1, 0, f, rfl, rfl, (fun h0 => absurd h0 (by decide)), h⟩ rfl (Nat.le_of_ble_eq_true rfl) (Nat.le_of_ble_eq_true rfl) dL_takeOut_14
    · refine zx_catch [⟨0, 9, 12, 24⟩] ⟨0, 9, 15, 15⟩ [] rfl (by decide) (fun z hz => by
        simp only [List.mem_cons, List.not_mem_nil, or_false] at hz
        rcases hz with rfl
        · exact ⟨by decide, "java/lang/IndexOutOfBoundsException", by decide, by decide, zw_651⟩) (by decide) (by decide) zw_406 (fun q9 => ?_)
      refine z_astore_n (lv' := [(3, .ref q9), (0, .ref x), (1, .int l1), (2, .ref q)]) dL_takeOut_15 rfl (Nat.le_of_ble_eq_true rfl) rfl ?_
      refine z_iconst (v := 2) dL_takeOut_16 rfl ?_
      exact z_ireturn ⟨2, 0, f, rfl, rfl, (fun h0 => absurd h0 (by decide)), h⟩ rfl (Nat.le_of_ble_eq_true rfl) (Nat.le_of_ble_eq_true rfl) dL_takeOut_17
  · refine z_i2l dL_takeOut_7 rfl ?_
    refine z_lastX dL_takeOut_8 ?_
    refine z_goto 18 dL_takeOut_9 (by decide) ?_
    refine z_iconst (v := 0) dL_takeOut_18 rfl ?_
    exact z_ireturn ⟨0, r, _, rfl, rfl, (fun _ => by rw [vp_updL]; rfl), h⟩ rfl (Nat.le_of_ble_eq_true rfl) (Nat.le_of_ble_eq_true rfl) dL_takeOut_19
set_option maxRecDepth 20000 in
set_option maxHeartbeats 4000000 in
theorem w_L_bringIn {E : zE} {x q : Nat} {l1 : Int32} {f : Nat → Int64} {S : zS} {PM : Int32 → Int32 → zS → Prop} (hx9 : x ∈ gL S ∧ gK S x = 10) (h : p_X10_bringIn E x l1 S (fun r S1 => PM 0 r S1) (fun ex S1 => (ex = "java/lang/IndexOutOfBoundsException" ∧ PM 1 0 S1) ∨ (ex = "java/lang/IllegalStateException" ∧ PM 2 0 S1))) : zMX E yL_bringIn cL_bringIn 4 (some .int) [(0, 16, 19, 24), (0, 16, 22, 15)] ({ frames := 9, cells := 2, slots := 12, locals := 146 } : Room) [.ref x, .int l1, .ref q] [(q, zcl E f)] S (fun v X S1 => ∃ k r f1, v = some (.int k) ∧ X = [(q, zcl E f1)] ∧ (k = 0 → f1 0 = (if r = 0 then 0 else 1)) ∧ PM k r S1) := by
  refine zMX_of RL (by decide) rfl (Nat.le_of_ble_eq_true rfl) ?_
  refine z_sub [0, 1, 2] (lv' := [(0, .ref x), (1, .int l1), (2, .ref q)]) rfl ?_
  refine z_aload_n 2 dL_bringIn_0 rfl rfl ?_
  refine z_iconst (v := 0) dL_bringIn_1 rfl ?_
  refine z_aload_n 0 dL_bringIn_2 rfl rfl ?_
  refine z_iload_n 1 dL_bringIn_3 rfl rfl ?_
  refine z_callVI (ci := 10) (st := [.int 0, .ref q]) (w_X10_bringIn h) hx9.1 hx9.2 (Nat.le_of_ble_eq_true rfl) rfl zw_980 zw_977 zw_978 zw_979 zw_63 zy_X10_bringIn rfl rfl ⟨Nat.le_of_ble_eq_true rfl, Nat.le_of_ble_eq_true rfl⟩ ⟨Nat.le_of_ble_eq_true rfl, Nat.le_of_ble_eq_true rfl⟩ (Nat.le_of_ble_eq_true rfl) dL_bringIn_4 (fun ex S1 h => ?_) (fun r S1 h => ?_)
  · rcases h with ⟨rfl, h⟩ | ⟨rfl, h⟩
    · refine zx_catch [] ⟨0, 16, 19, 24⟩ [⟨0, 16, 22, 15⟩] rfl (by decide) (fun z hz => by simp at hz) (by decide) (by decide) zw_651 (fun q9 => ?_)
      refine z_astore_n (lv' := [(3, .ref q9), (0, .ref x), (1, .int l1), (2, .ref q)]) dL_bringIn_19 rfl (Nat.le_of_ble_eq_true rfl) rfl ?_
      refine z_iconst (v := 1) dL_bringIn_20 rfl ?_
      exact z_ireturn ⟨1, 0, f, rfl, rfl, (fun h0 => absurd h0 (by decide)), h⟩ rfl (Nat.le_of_ble_eq_true rfl) (Nat.le_of_ble_eq_true rfl) dL_bringIn_21
    · refine zx_catch [⟨0, 16, 19, 24⟩] ⟨0, 16, 22, 15⟩ [] rfl (by decide) (fun z hz => by
        simp only [List.mem_cons, List.not_mem_nil, or_false] at hz
        rcases hz with rfl
        · exact ⟨by decide, "java/lang/IndexOutOfBoundsException", by decide, by decide, zw_651⟩) (by decide) (by decide) zw_406 (fun q9 => ?_)
      refine z_astore_n (lv' := [(3, .ref q9), (0, .ref x), (1, .int l1), (2, .ref q)]) dL_bringIn_22 rfl (Nat.le_of_ble_eq_true rfl) rfl ?_
      refine z_iconst (v := 2) dL_bringIn_23 rfl ?_
      exact z_ireturn ⟨2, 0, f, rfl, rfl, (fun h0 => absurd h0 (by decide)), h⟩ rfl (Nat.le_of_ble_eq_true rfl) (Nat.le_of_ble_eq_true rfl) dL_bringIn_24
  · refine z_if_eq 14 dL_bringIn_7 (by decide) (fun c9 => ?_) (fun c9 => ?_)
    · refine z_lconst (v := 0) dL_bringIn_14 rfl ?_
      refine z_lastX dL_bringIn_15 ?_
      refine z_goto 25 dL_bringIn_16 (by decide) ?_
      refine z_iconst (v := 0) dL_bringIn_25 rfl ?_
      exact z_ireturn ⟨0, r, _, rfl, rfl, (fun _ => by rw [vp_updL]; simp [c9]), h⟩ rfl (Nat.le_of_ble_eq_true rfl) (Nat.le_of_ble_eq_true rfl) dL_bringIn_26
    · refine z_lconst (v := 1) dL_bringIn_10 rfl ?_
      refine z_goto 15 dL_bringIn_11 (by decide) ?_
      refine z_lastX dL_bringIn_15 ?_
      refine z_goto 25 dL_bringIn_16 (by decide) ?_
      refine z_iconst (v := 0) dL_bringIn_25 rfl ?_
      exact z_ireturn ⟨0, r, _, rfl, rfl, (fun _ => by rw [vp_updL]; simp [c9]), h⟩ rfl (Nat.le_of_ble_eq_true rfl) (Nat.le_of_ble_eq_true rfl) dL_bringIn_26
set_option maxRecDepth 20000 in
set_option maxHeartbeats 4000000 in
theorem w_L_mend {E : zE} {x q : Nat} {l1 l2 : Int32} {f : Nat → Int64} {S : zS} {PM : Int32 → Int32 → zS → Prop} (hx9 : x ∈ gL S ∧ gK S x = 10) (h : p_X10_mend E x l1 l2 S (fun r S1 => PM 0 r S1) (fun ex S1 => (ex = "java/lang/IndexOutOfBoundsException" ∧ PM 1 0 S1) ∨ (ex = "java/lang/IllegalArgumentException" ∧ PM 2 0 S1) ∨ (ex = "java/lang/IllegalStateException" ∧ PM 3 0 S1))) : zMX E yL_mend cL_mend 5 (some .int) [(0, 10, 13, 24), (0, 10, 17, 13), (0, 10, 21, 15)] ({ frames := 9, cells := 3, slots := 18, locals := 147 } : Room) [.ref x, .int l1, .int l2, .ref q] [(q, zcl E f)] S (fun v X S1 => ∃ k r f1, v = some (.int k) ∧ X = [(q, zcl E f1)] ∧ (k = 0 → f1 0 = r.toInt64) ∧ PM k r S1) := by
  refine zMX_of RL (by decide) rfl (Nat.le_of_ble_eq_true rfl) ?_
  refine z_sub [0, 1, 2, 3] (lv' := [(0, .ref x), (1, .int l1), (2, .int l2), (3, .ref q)]) rfl ?_
  refine z_aload_n 3 dL_mend_0 rfl rfl ?_
  refine z_iconst (v := 0) dL_mend_1 rfl ?_
  refine z_aload_n 0 dL_mend_2 rfl rfl ?_
  refine z_iload_n 1 dL_mend_3 rfl rfl ?_
  refine z_iload_n 2 dL_mend_4 rfl rfl ?_
  refine z_callVI (ci := 10) (st := [.int 0, .ref q]) (w_X10_mend h) hx9.1 hx9.2 (Nat.le_of_ble_eq_true rfl) rfl zw_989 zw_986 zw_987 zw_988 zw_63 zy_X10_mend rfl rfl ⟨Nat.le_of_ble_eq_true rfl, Nat.le_of_ble_eq_true rfl⟩ ⟨Nat.le_of_ble_eq_true rfl, Nat.le_of_ble_eq_true rfl⟩ (Nat.le_of_ble_eq_true rfl) dL_mend_5 (fun ex S1 h => ?_) (fun r S1 h => ?_)
  · rcases h with ⟨rfl, h⟩ | ⟨rfl, h⟩ | ⟨rfl, h⟩
    · refine zx_catch [] ⟨0, 10, 13, 24⟩ [⟨0, 10, 17, 13⟩, ⟨0, 10, 21, 15⟩] rfl (by decide) (fun z hz => by simp at hz) (by decide) (by decide) zw_651 (fun q9 => ?_)
      refine z_astore (lv' := [(4, .ref q9), (0, .ref x), (1, .int l1), (2, .int l2), (3, .ref q)]) dL_mend_13 (Nat.le_of_ble_eq_true rfl) rfl ?_
      refine z_iconst (v := 1) dL_mend_15 rfl ?_
      exact z_ireturn ⟨1, 0, f, rfl, rfl, (fun h0 => absurd h0 (by decide)), h⟩ rfl (Nat.le_of_ble_eq_true rfl) (Nat.le_of_ble_eq_true rfl) dL_mend_16
    · refine zx_catch [⟨0, 10, 13, 24⟩] ⟨0, 10, 17, 13⟩ [⟨0, 10, 21, 15⟩] rfl (by decide) (fun z hz => by
        simp only [List.mem_cons, List.not_mem_nil, or_false] at hz
        rcases hz with rfl
        · exact ⟨by decide, "java/lang/IndexOutOfBoundsException", by decide, by decide, zw_651⟩) (by decide) (by decide) zw_405 (fun q9 => ?_)
      refine z_astore (lv' := [(4, .ref q9), (0, .ref x), (1, .int l1), (2, .int l2), (3, .ref q)]) dL_mend_17 (Nat.le_of_ble_eq_true rfl) rfl ?_
      refine z_iconst (v := 2) dL_mend_19 rfl ?_
      exact z_ireturn ⟨2, 0, f, rfl, rfl, (fun h0 => absurd h0 (by decide)), h⟩ rfl (Nat.le_of_ble_eq_true rfl) (Nat.le_of_ble_eq_true rfl) dL_mend_20
    · refine zx_catch [⟨0, 10, 13, 24⟩, ⟨0, 10, 17, 13⟩] ⟨0, 10, 21, 15⟩ [] rfl (by decide) (fun z hz => by
        simp only [List.mem_cons, List.not_mem_nil, or_false] at hz
        rcases hz with rfl | rfl
        · exact ⟨by decide, "java/lang/IndexOutOfBoundsException", by decide, by decide, zw_651⟩
        · exact ⟨by decide, "java/lang/IllegalArgumentException", by decide, by decide, zw_405⟩) (by decide) (by decide) zw_406 (fun q9 => ?_)
      refine z_astore (lv' := [(4, .ref q9), (0, .ref x), (1, .int l1), (2, .int l2), (3, .ref q)]) dL_mend_21 (Nat.le_of_ble_eq_true rfl) rfl ?_
      refine z_iconst (v := 3) dL_mend_23 rfl ?_
      exact z_ireturn ⟨3, 0, f, rfl, rfl, (fun h0 => absurd h0 (by decide)), h⟩ rfl (Nat.le_of_ble_eq_true rfl) (Nat.le_of_ble_eq_true rfl) dL_mend_24
  · refine z_i2l dL_mend_8 rfl ?_
    refine z_lastX dL_mend_9 ?_
    refine z_goto 25 dL_mend_10 (by decide) ?_
    refine z_iconst (v := 0) dL_mend_25 rfl ?_
    exact z_ireturn ⟨0, r, _, rfl, rfl, (fun _ => by rw [vp_updL]; rfl), h⟩ rfl (Nat.le_of_ble_eq_true rfl) (Nat.le_of_ble_eq_true rfl) dL_mend_26
set_option maxRecDepth 20000 in
set_option maxHeartbeats 4000000 in
theorem w_L_wear {E : zE} {x q : Nat} {l1 l2 : Int32} {f : Nat → Int64} {S : zS} {PM : Int32 → Int32 → zS → Prop} (hx9 : x ∈ gL S ∧ gK S x = 10) (h : p_X10_wear E x l1 l2 S (fun r S1 => PM 0 r S1) (fun ex S1 => (ex = "java/lang/IndexOutOfBoundsException" ∧ PM 1 0 S1) ∨ (ex = "java/lang/IllegalArgumentException" ∧ PM 2 0 S1))) : zMX E yL_wear cL_wear 5 (some .int) [(0, 10, 13, 24), (0, 10, 17, 13)] ({ frames := 9, cells := 2, slots := 12, locals := 147 } : Room) [.ref x, .int l1, .int l2, .ref q] [(q, zcl E f)] S (fun v X S1 => ∃ k r f1, v = some (.int k) ∧ X = [(q, zcl E f1)] ∧ (k = 0 → f1 0 = r.toInt64) ∧ PM k r S1) := by
  refine zMX_of RL (by decide) rfl (Nat.le_of_ble_eq_true rfl) ?_
  refine z_sub [0, 1, 2, 3] (lv' := [(0, .ref x), (1, .int l1), (2, .int l2), (3, .ref q)]) rfl ?_
  refine z_aload_n 3 dL_wear_0 rfl rfl ?_
  refine z_iconst (v := 0) dL_wear_1 rfl ?_
  refine z_aload_n 0 dL_wear_2 rfl rfl ?_
  refine z_iload_n 1 dL_wear_3 rfl rfl ?_
  refine z_iload_n 2 dL_wear_4 rfl rfl ?_
  refine z_callVI (ci := 10) (st := [.int 0, .ref q]) (w_X10_wear h) hx9.1 hx9.2 (Nat.le_of_ble_eq_true rfl) rfl zw_1000 zw_997 zw_998 zw_999 zw_63 zy_X10_wear rfl rfl ⟨Nat.le_of_ble_eq_true rfl, Nat.le_of_ble_eq_true rfl⟩ ⟨Nat.le_of_ble_eq_true rfl, Nat.le_of_ble_eq_true rfl⟩ (Nat.le_of_ble_eq_true rfl) dL_wear_5 (fun ex S1 h => ?_) (fun r S1 h => ?_)
  · rcases h with ⟨rfl, h⟩ | ⟨rfl, h⟩
    · refine zx_catch [] ⟨0, 10, 13, 24⟩ [⟨0, 10, 17, 13⟩] rfl (by decide) (fun z hz => by simp at hz) (by decide) (by decide) zw_651 (fun q9 => ?_)
      refine z_astore (lv' := [(4, .ref q9), (0, .ref x), (1, .int l1), (2, .int l2), (3, .ref q)]) dL_wear_13 (Nat.le_of_ble_eq_true rfl) rfl ?_
      refine z_iconst (v := 1) dL_wear_15 rfl ?_
      exact z_ireturn ⟨1, 0, f, rfl, rfl, (fun h0 => absurd h0 (by decide)), h⟩ rfl (Nat.le_of_ble_eq_true rfl) (Nat.le_of_ble_eq_true rfl) dL_wear_16
    · refine zx_catch [⟨0, 10, 13, 24⟩] ⟨0, 10, 17, 13⟩ [] rfl (by decide) (fun z hz => by
        simp only [List.mem_cons, List.not_mem_nil, or_false] at hz
        rcases hz with rfl
        · exact ⟨by decide, "java/lang/IndexOutOfBoundsException", by decide, by decide, zw_651⟩) (by decide) (by decide) zw_405 (fun q9 => ?_)
      refine z_astore (lv' := [(4, .ref q9), (0, .ref x), (1, .int l1), (2, .int l2), (3, .ref q)]) dL_wear_17 (Nat.le_of_ble_eq_true rfl) rfl ?_
      refine z_iconst (v := 2) dL_wear_19 rfl ?_
      exact z_ireturn ⟨2, 0, f, rfl, rfl, (fun h0 => absurd h0 (by decide)), h⟩ rfl (Nat.le_of_ble_eq_true rfl) (Nat.le_of_ble_eq_true rfl) dL_wear_20
  · refine z_i2l dL_wear_8 rfl ?_
    refine z_lastX dL_wear_9 ?_
    refine z_goto 21 dL_wear_10 (by decide) ?_
    refine z_iconst (v := 0) dL_wear_21 rfl ?_
    exact z_ireturn ⟨0, r, _, rfl, rfl, (fun _ => by rw [vp_updL]; rfl), h⟩ rfl (Nat.le_of_ble_eq_true rfl) (Nat.le_of_ble_eq_true rfl) dL_wear_22
set_option maxRecDepth 20000 in
set_option maxHeartbeats 4000000 in
theorem w_L_isIn {E : zE} {x q : Nat} {l1 : Int32} {f : Nat → Int64} {S : zS} {PM : Int32 → Int32 → zS → Prop} (hx9 : x ∈ gL S ∧ gK S x = 10) (h : p_X10_isIn E x l1 S (fun r S1 => PM 0 r S1) (fun ex S1 => (ex = "java/lang/IndexOutOfBoundsException" ∧ PM 1 0 S1))) : zMX E yL_isIn cL_isIn 4 (some .int) [(0, 16, 19, 24)] ({ frames := 9, cells := 1, slots := 6, locals := 145 } : Room) [.ref x, .int l1, .ref q] [(q, zcl E f)] S (fun v X S1 => ∃ k r f1, v = some (.int k) ∧ X = [(q, zcl E f1)] ∧ (k = 0 → f1 0 = (if r = 0 then 0 else 1)) ∧ PM k r S1) := by
  refine zMX_of RL (by decide) rfl (Nat.le_of_ble_eq_true rfl) ?_
  refine z_sub [0, 1, 2] (lv' := [(0, .ref x), (1, .int l1), (2, .ref q)]) rfl ?_
  refine z_aload_n 2 dL_isIn_0 rfl rfl ?_
  refine z_iconst (v := 0) dL_isIn_1 rfl ?_
  refine z_aload_n 0 dL_isIn_2 rfl rfl ?_
  refine z_iload_n 1 dL_isIn_3 rfl rfl ?_
  refine z_callVI (ci := 10) (st := [.int 0, .ref q]) (w_X10_isIn h) hx9.1 hx9.2 (Nat.le_of_ble_eq_true rfl) rfl zw_1007 zw_1004 zw_1005 zw_1006 zw_63 zy_X10_isIn rfl rfl ⟨Nat.le_of_ble_eq_true rfl, Nat.le_of_ble_eq_true rfl⟩ ⟨Nat.le_of_ble_eq_true rfl, Nat.le_of_ble_eq_true rfl⟩ (Nat.le_of_ble_eq_true rfl) dL_isIn_4 (fun ex S1 h => ?_) (fun r S1 h => ?_)
  · obtain ⟨rfl, h⟩ := h
    refine zx_catch [] ⟨0, 16, 19, 24⟩ [] rfl (by decide) (fun z hz => by simp at hz) (by decide) (by decide) zw_651 (fun q9 => ?_)
    refine z_astore_n (lv' := [(3, .ref q9), (0, .ref x), (1, .int l1), (2, .ref q)]) dL_isIn_19 rfl (Nat.le_of_ble_eq_true rfl) rfl ?_
    refine z_iconst (v := 1) dL_isIn_20 rfl ?_
    exact z_ireturn ⟨1, 0, f, rfl, rfl, (fun h0 => absurd h0 (by decide)), h⟩ rfl (Nat.le_of_ble_eq_true rfl) (Nat.le_of_ble_eq_true rfl) dL_isIn_21
  · refine z_if_eq 14 dL_isIn_7 (by decide) (fun c9 => ?_) (fun c9 => ?_)
    · refine z_lconst (v := 0) dL_isIn_14 rfl ?_
      refine z_lastX dL_isIn_15 ?_
      refine z_goto 22 dL_isIn_16 (by decide) ?_
      refine z_iconst (v := 0) dL_isIn_22 rfl ?_
      exact z_ireturn ⟨0, r, _, rfl, rfl, (fun _ => by rw [vp_updL]; simp [c9]), h⟩ rfl (Nat.le_of_ble_eq_true rfl) (Nat.le_of_ble_eq_true rfl) dL_isIn_23
    · refine z_lconst (v := 1) dL_isIn_10 rfl ?_
      refine z_goto 15 dL_isIn_11 (by decide) ?_
      refine z_lastX dL_isIn_15 ?_
      refine z_goto 22 dL_isIn_16 (by decide) ?_
      refine z_iconst (v := 0) dL_isIn_22 rfl ?_
      exact z_ireturn ⟨0, r, _, rfl, rfl, (fun _ => by rw [vp_updL]; simp [c9]), h⟩ rfl (Nat.le_of_ble_eq_true rfl) (Nat.le_of_ble_eq_true rfl) dL_isIn_23
set_option maxRecDepth 20000 in
set_option maxHeartbeats 4000000 in
theorem w_L_setBand {E : zE} {x q : Nat} {l1 l2 : Int32} {f : Nat → Int64} {S : zS} {PM : Int32 → Int32 → zS → Prop} (hx9 : x ∈ gL S ∧ gK S x = 10) (h : p_X10_setBand E x l1 l2 S (fun r S1 => PM 0 r S1) (fun ex S1 => (ex = "java/lang/IndexOutOfBoundsException" ∧ PM 1 0 S1) ∨ (ex = "java/lang/IllegalArgumentException" ∧ PM 2 0 S1))) : zMX E yL_setBand cL_setBand 5 (some .int) [(0, 10, 13, 24), (0, 10, 17, 13)] ({ frames := 8, cells := 2, slots := 12, locals := 127 } : Room) [.ref x, .int l1, .int l2, .ref q] [(q, zcl E f)] S (fun v X S1 => ∃ k r f1, v = some (.int k) ∧ X = [(q, zcl E f1)] ∧ (k = 0 → f1 0 = r.toInt64) ∧ PM k r S1) := by
  refine zMX_of RL (by decide) rfl (Nat.le_of_ble_eq_true rfl) ?_
  refine z_sub [0, 1, 2, 3] (lv' := [(0, .ref x), (1, .int l1), (2, .int l2), (3, .ref q)]) rfl ?_
  refine z_aload_n 3 dL_setBand_0 rfl rfl ?_
  refine z_iconst (v := 0) dL_setBand_1 rfl ?_
  refine z_aload_n 0 dL_setBand_2 rfl rfl ?_
  refine z_iload_n 1 dL_setBand_3 rfl rfl ?_
  refine z_iload_n 2 dL_setBand_4 rfl rfl ?_
  refine z_callVI (ci := 10) (st := [.int 0, .ref q]) (w_X10_setBand h) hx9.1 hx9.2 (Nat.le_of_ble_eq_true rfl) rfl zw_1014 zw_1011 zw_1012 zw_1013 zw_63 zy_X10_setBand rfl rfl ⟨Nat.le_of_ble_eq_true rfl, Nat.le_of_ble_eq_true rfl⟩ ⟨Nat.le_of_ble_eq_true rfl, Nat.le_of_ble_eq_true rfl⟩ (Nat.le_of_ble_eq_true rfl) dL_setBand_5 (fun ex S1 h => ?_) (fun r S1 h => ?_)
  · rcases h with ⟨rfl, h⟩ | ⟨rfl, h⟩
    · refine zx_catch [] ⟨0, 10, 13, 24⟩ [⟨0, 10, 17, 13⟩] rfl (by decide) (fun z hz => by simp at hz) (by decide) (by decide) zw_651 (fun q9 => ?_)
      refine z_astore (lv' := [(4, .ref q9), (0, .ref x), (1, .int l1), (2, .int l2), (3, .ref q)]) dL_setBand_13 (Nat.le_of_ble_eq_true rfl) rfl ?_
      refine z_iconst (v := 1) dL_setBand_15 rfl ?_
      exact z_ireturn ⟨1, 0, f, rfl, rfl, (fun h0 => absurd h0 (by decide)), h⟩ rfl (Nat.le_of_ble_eq_true rfl) (Nat.le_of_ble_eq_true rfl) dL_setBand_16
    · refine zx_catch [⟨0, 10, 13, 24⟩] ⟨0, 10, 17, 13⟩ [] rfl (by decide) (fun z hz => by
        simp only [List.mem_cons, List.not_mem_nil, or_false] at hz
        rcases hz with rfl
        · exact ⟨by decide, "java/lang/IndexOutOfBoundsException", by decide, by decide, zw_651⟩) (by decide) (by decide) zw_405 (fun q9 => ?_)
      refine z_astore (lv' := [(4, .ref q9), (0, .ref x), (1, .int l1), (2, .int l2), (3, .ref q)]) dL_setBand_17 (Nat.le_of_ble_eq_true rfl) rfl ?_
      refine z_iconst (v := 2) dL_setBand_19 rfl ?_
      exact z_ireturn ⟨2, 0, f, rfl, rfl, (fun h0 => absurd h0 (by decide)), h⟩ rfl (Nat.le_of_ble_eq_true rfl) (Nat.le_of_ble_eq_true rfl) dL_setBand_20
  · refine z_i2l dL_setBand_8 rfl ?_
    refine z_lastX dL_setBand_9 ?_
    refine z_goto 21 dL_setBand_10 (by decide) ?_
    refine z_iconst (v := 0) dL_setBand_21 rfl ?_
    exact z_ireturn ⟨0, r, _, rfl, rfl, (fun _ => by rw [vp_updL]; rfl), h⟩ rfl (Nat.le_of_ble_eq_true rfl) (Nat.le_of_ble_eq_true rfl) dL_setBand_22
set_option maxRecDepth 20000 in
set_option maxHeartbeats 4000000 in
theorem w_L_plan {E : zE} {x q : Nat} {l1 l2 : Int32} {f : Nat → Int64} {S : zS} {PM : Int32 → Int32 → zS → Prop} (hx9 : x ∈ gL S ∧ gK S x = 10) (h : p_X10_plan E x l1 l2 S (fun r S1 => PM 0 r S1) (fun ex S1 => (ex = "java/lang/IndexOutOfBoundsException" ∧ PM 1 0 S1) ∨ (ex = "java/lang/IllegalArgumentException" ∧ PM 2 0 S1) ∨ (ex = "java/lang/IllegalStateException" ∧ PM 3 0 S1))) : zMX E yL_plan cL_plan 5 (some .int) [(0, 10, 13, 24), (0, 10, 17, 13), (0, 10, 21, 15)] ({ frames := 9, cells := 3, slots := 34, locals := 195 } : Room) [.ref x, .int l1, .int l2, .ref q] [(q, zcl E f)] S (fun v X S1 => ∃ k r f1, v = some (.int k) ∧ X = [(q, zcl E f1)] ∧ (k = 0 → f1 0 = r.toInt64) ∧ PM k r S1) := by
  refine zMX_of RL (by decide) rfl (Nat.le_of_ble_eq_true rfl) ?_
  refine z_sub [0, 1, 2, 3] (lv' := [(0, .ref x), (1, .int l1), (2, .int l2), (3, .ref q)]) rfl ?_
  refine z_aload_n 3 dL_plan_0 rfl rfl ?_
  refine z_iconst (v := 0) dL_plan_1 rfl ?_
  refine z_aload_n 0 dL_plan_2 rfl rfl ?_
  refine z_iload_n 1 dL_plan_3 rfl rfl ?_
  refine z_iload_n 2 dL_plan_4 rfl rfl ?_
  refine z_callVI (ci := 10) (st := [.int 0, .ref q]) (w_X10_plan h) hx9.1 hx9.2 (Nat.le_of_ble_eq_true rfl) rfl zw_1021 zw_1018 zw_1019 zw_1020 zw_63 zy_X10_plan rfl rfl ⟨Nat.le_of_ble_eq_true rfl, Nat.le_of_ble_eq_true rfl⟩ ⟨Nat.le_of_ble_eq_true rfl, Nat.le_of_ble_eq_true rfl⟩ (Nat.le_of_ble_eq_true rfl) dL_plan_5 (fun ex S1 h => ?_) (fun r S1 h => ?_)
  · rcases h with ⟨rfl, h⟩ | ⟨rfl, h⟩ | ⟨rfl, h⟩
    · refine zx_catch [] ⟨0, 10, 13, 24⟩ [⟨0, 10, 17, 13⟩, ⟨0, 10, 21, 15⟩] rfl (by decide) (fun z hz => by simp at hz) (by decide) (by decide) zw_651 (fun q9 => ?_)
      refine z_astore (lv' := [(4, .ref q9), (0, .ref x), (1, .int l1), (2, .int l2), (3, .ref q)]) dL_plan_13 (Nat.le_of_ble_eq_true rfl) rfl ?_
      refine z_iconst (v := 1) dL_plan_15 rfl ?_
      exact z_ireturn ⟨1, 0, f, rfl, rfl, (fun h0 => absurd h0 (by decide)), h⟩ rfl (Nat.le_of_ble_eq_true rfl) (Nat.le_of_ble_eq_true rfl) dL_plan_16
    · refine zx_catch [⟨0, 10, 13, 24⟩] ⟨0, 10, 17, 13⟩ [⟨0, 10, 21, 15⟩] rfl (by decide) (fun z hz => by
        simp only [List.mem_cons, List.not_mem_nil, or_false] at hz
        rcases hz with rfl
        · exact ⟨by decide, "java/lang/IndexOutOfBoundsException", by decide, by decide, zw_651⟩) (by decide) (by decide) zw_405 (fun q9 => ?_)
      refine z_astore (lv' := [(4, .ref q9), (0, .ref x), (1, .int l1), (2, .int l2), (3, .ref q)]) dL_plan_17 (Nat.le_of_ble_eq_true rfl) rfl ?_
      refine z_iconst (v := 2) dL_plan_19 rfl ?_
      exact z_ireturn ⟨2, 0, f, rfl, rfl, (fun h0 => absurd h0 (by decide)), h⟩ rfl (Nat.le_of_ble_eq_true rfl) (Nat.le_of_ble_eq_true rfl) dL_plan_20
    · refine zx_catch [⟨0, 10, 13, 24⟩, ⟨0, 10, 17, 13⟩] ⟨0, 10, 21, 15⟩ [] rfl (by decide) (fun z hz => by
        simp only [List.mem_cons, List.not_mem_nil, or_false] at hz
        rcases hz with rfl | rfl
        · exact ⟨by decide, "java/lang/IndexOutOfBoundsException", by decide, by decide, zw_651⟩
        · exact ⟨by decide, "java/lang/IllegalArgumentException", by decide, by decide, zw_405⟩) (by decide) (by decide) zw_406 (fun q9 => ?_)
      refine z_astore (lv' := [(4, .ref q9), (0, .ref x), (1, .int l1), (2, .int l2), (3, .ref q)]) dL_plan_21 (Nat.le_of_ble_eq_true rfl) rfl ?_
      refine z_iconst (v := 3) dL_plan_23 rfl ?_
      exact z_ireturn ⟨3, 0, f, rfl, rfl, (fun h0 => absurd h0 (by decide)), h⟩ rfl (Nat.le_of_ble_eq_true rfl) (Nat.le_of_ble_eq_true rfl) dL_plan_24
  · refine z_i2l dL_plan_8 rfl ?_
    refine z_lastX dL_plan_9 ?_
    refine z_goto 25 dL_plan_10 (by decide) ?_
    refine z_iconst (v := 0) dL_plan_25 rfl ?_
    exact z_ireturn ⟨0, r, _, rfl, rfl, (fun _ => by rw [vp_updL]; rfl), h⟩ rfl (Nat.le_of_ble_eq_true rfl) (Nat.le_of_ble_eq_true rfl) dL_plan_26
set_option maxRecDepth 20000 in
set_option maxHeartbeats 4000000 in
theorem w_L_planned {E : zE} {x q : Nat} {l1 : Int32} {f : Nat → Int64} {S : zS} {PM : Int32 → Int32 → zS → Prop} (hx9 : x ∈ gL S ∧ gK S x = 10) (h : p_X10_planned E x l1 S (fun r S1 => PM 0 r S1) (fun ex S1 => (ex = "java/lang/IllegalArgumentException" ∧ PM 1 0 S1))) : zMX E yL_planned cL_planned 4 (some .int) [(0, 9, 12, 13)] ({ frames := 9, cells := 1, slots := 6, locals := 146 } : Room) [.ref x, .int l1, .ref q] [(q, zcl E f)] S (fun v X S1 => ∃ k r f1, v = some (.int k) ∧ X = [(q, zcl E f1)] ∧ (k = 0 → f1 0 = r.toInt64) ∧ PM k r S1) := by
  refine zMX_of RL (by decide) rfl (Nat.le_of_ble_eq_true rfl) ?_
  refine z_sub [0, 1, 2] (lv' := [(0, .ref x), (1, .int l1), (2, .ref q)]) rfl ?_
  refine z_aload_n 2 dL_planned_0 rfl rfl ?_
  refine z_iconst (v := 0) dL_planned_1 rfl ?_
  refine z_aload_n 0 dL_planned_2 rfl rfl ?_
  refine z_iload_n 1 dL_planned_3 rfl rfl ?_
  refine z_callVI (ci := 10) (st := [.int 0, .ref q]) (w_X10_planned h) hx9.1 hx9.2 (Nat.le_of_ble_eq_true rfl) rfl zw_1042 zw_1039 zw_1040 zw_1041 zw_63 zy_X10_planned rfl rfl ⟨Nat.le_of_ble_eq_true rfl, Nat.le_of_ble_eq_true rfl⟩ ⟨Nat.le_of_ble_eq_true rfl, Nat.le_of_ble_eq_true rfl⟩ (Nat.le_of_ble_eq_true rfl) dL_planned_4 (fun ex S1 h => ?_) (fun r S1 h => ?_)
  · obtain ⟨rfl, h⟩ := h
    refine zx_catch [] ⟨0, 9, 12, 13⟩ [] rfl (by decide) (fun z hz => by simp at hz) (by decide) (by decide) zw_405 (fun q9 => ?_)
    refine z_astore_n (lv' := [(3, .ref q9), (0, .ref x), (1, .int l1), (2, .ref q)]) dL_planned_12 rfl (Nat.le_of_ble_eq_true rfl) rfl ?_
    refine z_iconst (v := 1) dL_planned_13 rfl ?_
    exact z_ireturn ⟨1, 0, f, rfl, rfl, (fun h0 => absurd h0 (by decide)), h⟩ rfl (Nat.le_of_ble_eq_true rfl) (Nat.le_of_ble_eq_true rfl) dL_planned_14
  · refine z_i2l dL_planned_7 rfl ?_
    refine z_lastX dL_planned_8 ?_
    refine z_goto 15 dL_planned_9 (by decide) ?_
    refine z_iconst (v := 0) dL_planned_15 rfl ?_
    exact z_ireturn ⟨0, r, _, rfl, rfl, (fun _ => by rw [vp_updL]; rfl), h⟩ rfl (Nat.le_of_ble_eq_true rfl) (Nat.le_of_ble_eq_true rfl) dL_planned_16
set_option maxRecDepth 20000 in
set_option maxHeartbeats 4000000 in
theorem w_L_plannedAt {E : zE} {x q : Nat} {l1 l2 : Int32} {f : Nat → Int64} {S : zS} {PM : Int32 → Int32 → zS → Prop} (hx9 : x ∈ gL S ∧ gK S x = 10) (h : p_X10_plannedAt E x l1 l2 S (fun r S1 => PM 0 r S1) (fun ex S1 => (ex = "java/lang/IllegalArgumentException" ∧ PM 1 0 S1) ∨ (ex = "java/lang/IndexOutOfBoundsException" ∧ PM 2 0 S1))) : zMX E yL_plannedAt cL_plannedAt 5 (some .int) [(0, 10, 13, 13), (0, 10, 17, 24)] ({ frames := 9, cells := 2, slots := 12, locals := 148 } : Room) [.ref x, .int l1, .int l2, .ref q] [(q, zcl E f)] S (fun v X S1 => ∃ k r f1, v = some (.int k) ∧ X = [(q, zcl E f1)] ∧ (k = 0 → f1 0 = r.toInt64) ∧ PM k r S1) := by
  refine zMX_of RL (by decide) rfl (Nat.le_of_ble_eq_true rfl) ?_
  refine z_sub [0, 1, 2, 3] (lv' := [(0, .ref x), (1, .int l1), (2, .int l2), (3, .ref q)]) rfl ?_
  refine z_aload_n 3 dL_plannedAt_0 rfl rfl ?_
  refine z_iconst (v := 0) dL_plannedAt_1 rfl ?_
  refine z_aload_n 0 dL_plannedAt_2 rfl rfl ?_
  refine z_iload_n 1 dL_plannedAt_3 rfl rfl ?_
  refine z_iload_n 2 dL_plannedAt_4 rfl rfl ?_
  refine z_callVI (ci := 10) (st := [.int 0, .ref q]) (w_X10_plannedAt h) hx9.1 hx9.2 (Nat.le_of_ble_eq_true rfl) rfl zw_1049 zw_1046 zw_1047 zw_1048 zw_63 zy_X10_plannedAt rfl rfl ⟨Nat.le_of_ble_eq_true rfl, Nat.le_of_ble_eq_true rfl⟩ ⟨Nat.le_of_ble_eq_true rfl, Nat.le_of_ble_eq_true rfl⟩ (Nat.le_of_ble_eq_true rfl) dL_plannedAt_5 (fun ex S1 h => ?_) (fun r S1 h => ?_)
  · rcases h with ⟨rfl, h⟩ | ⟨rfl, h⟩
    · refine zx_catch [] ⟨0, 10, 13, 13⟩ [⟨0, 10, 17, 24⟩] rfl (by decide) (fun z hz => by simp at hz) (by decide) (by decide) zw_405 (fun q9 => ?_)
      refine z_astore (lv' := [(4, .ref q9), (0, .ref x), (1, .int l1), (2, .int l2), (3, .ref q)]) dL_plannedAt_13 (Nat.le_of_ble_eq_true rfl) rfl ?_
      refine z_iconst (v := 1) dL_plannedAt_15 rfl ?_
      exact z_ireturn ⟨1, 0, f, rfl, rfl, (fun h0 => absurd h0 (by decide)), h⟩ rfl (Nat.le_of_ble_eq_true rfl) (Nat.le_of_ble_eq_true rfl) dL_plannedAt_16
    · refine zx_catch [⟨0, 10, 13, 13⟩] ⟨0, 10, 17, 24⟩ [] rfl (by decide) (fun z hz => by
        simp only [List.mem_cons, List.not_mem_nil, or_false] at hz
        rcases hz with rfl
        · exact ⟨by decide, "java/lang/IllegalArgumentException", by decide, by decide, zw_405⟩) (by decide) (by decide) zw_651 (fun q9 => ?_)
      refine z_astore (lv' := [(4, .ref q9), (0, .ref x), (1, .int l1), (2, .int l2), (3, .ref q)]) dL_plannedAt_17 (Nat.le_of_ble_eq_true rfl) rfl ?_
      refine z_iconst (v := 2) dL_plannedAt_19 rfl ?_
      exact z_ireturn ⟨2, 0, f, rfl, rfl, (fun h0 => absurd h0 (by decide)), h⟩ rfl (Nat.le_of_ble_eq_true rfl) (Nat.le_of_ble_eq_true rfl) dL_plannedAt_20
  · refine z_i2l dL_plannedAt_8 rfl ?_
    refine z_lastX dL_plannedAt_9 ?_
    refine z_goto 21 dL_plannedAt_10 (by decide) ?_
    refine z_iconst (v := 0) dL_plannedAt_21 rfl ?_
    exact z_ireturn ⟨0, r, _, rfl, rfl, (fun _ => by rw [vp_updL]; rfl), h⟩ rfl (Nat.le_of_ble_eq_true rfl) (Nat.le_of_ble_eq_true rfl) dL_plannedAt_22
set_option maxRecDepth 20000 in
set_option maxHeartbeats 4000000 in
theorem w_L_rota {E : zE} {x q : Nat} {l1 : Int32} {f : Nat → Int64} {S : zS} {PM : Int32 → Int32 → zS → Prop} (hx9 : x ∈ gL S ∧ gK S x = 10) (h : p_X10_rota E x l1 S (fun r S1 => PM 0 r S1) (fun ex S1 => (ex = "java/lang/IllegalArgumentException" ∧ PM 1 0 S1))) : zMX E yL_rota cL_rota 4 (some .int) [(0, 9, 12, 13)] ({ frames := 8, cells := 1, slots := 6, locals := 132 } : Room) [.ref x, .int l1, .ref q] [(q, zcl E f)] S (fun v X S1 => ∃ k r f1, v = some (.int k) ∧ X = [(q, zcl E f1)] ∧ (k = 0 → f1 0 = r.toInt64) ∧ PM k r S1) := by
  refine zMX_of RL (by decide) rfl (Nat.le_of_ble_eq_true rfl) ?_
  refine z_sub [0, 1, 2] (lv' := [(0, .ref x), (1, .int l1), (2, .ref q)]) rfl ?_
  refine z_aload_n 2 dL_rota_0 rfl rfl ?_
  refine z_iconst (v := 0) dL_rota_1 rfl ?_
  refine z_aload_n 0 dL_rota_2 rfl rfl ?_
  refine z_iload_n 1 dL_rota_3 rfl rfl ?_
  refine z_callVI (ci := 10) (st := [.int 0, .ref q]) (w_X10_rota h) hx9.1 hx9.2 (Nat.le_of_ble_eq_true rfl) rfl zw_1056 zw_1053 zw_1054 zw_1055 zw_63 zy_X10_rota rfl rfl ⟨Nat.le_of_ble_eq_true rfl, Nat.le_of_ble_eq_true rfl⟩ ⟨Nat.le_of_ble_eq_true rfl, Nat.le_of_ble_eq_true rfl⟩ (Nat.le_of_ble_eq_true rfl) dL_rota_4 (fun ex S1 h => ?_) (fun r S1 h => ?_)
  · obtain ⟨rfl, h⟩ := h
    refine zx_catch [] ⟨0, 9, 12, 13⟩ [] rfl (by decide) (fun z hz => by simp at hz) (by decide) (by decide) zw_405 (fun q9 => ?_)
    refine z_astore_n (lv' := [(3, .ref q9), (0, .ref x), (1, .int l1), (2, .ref q)]) dL_rota_12 rfl (Nat.le_of_ble_eq_true rfl) rfl ?_
    refine z_iconst (v := 1) dL_rota_13 rfl ?_
    exact z_ireturn ⟨1, 0, f, rfl, rfl, (fun h0 => absurd h0 (by decide)), h⟩ rfl (Nat.le_of_ble_eq_true rfl) (Nat.le_of_ble_eq_true rfl) dL_rota_14
  · refine z_i2l dL_rota_7 rfl ?_
    refine z_lastX dL_rota_8 ?_
    refine z_goto 15 dL_rota_9 (by decide) ?_
    refine z_iconst (v := 0) dL_rota_15 rfl ?_
    exact z_ireturn ⟨0, r, _, rfl, rfl, (fun _ => by rw [vp_updL]; rfl), h⟩ rfl (Nat.le_of_ble_eq_true rfl) (Nat.le_of_ble_eq_true rfl) dL_rota_16
set_option maxRecDepth 20000 in
set_option maxHeartbeats 4000000 in
theorem w_L_pass {E : zE} {x q : Nat} {_u : Unit} {f : Nat → Int64} {S : zS} {PM : Int32 → Int32 → zS → Prop} (hx9 : x ∈ gL S ∧ gK S x = 10) (h : p_X10_pass E x S (fun r S1 => PM 0 r S1) (fun ex S1 => (ex = "java/lang/IllegalStateException" ∧ PM 1 0 S1))) : zMX E yL_pass cL_pass 3 (some .int) [(0, 8, 11, 15)] ({ frames := 8, cells := 2, slots := 12, locals := 151 } : Room) [.ref x, .ref q] [(q, zcl E f)] S (fun v X S1 => ∃ k r f1, v = some (.int k) ∧ X = [(q, zcl E f1)] ∧ (k = 0 → f1 0 = r.toInt64) ∧ PM k r S1) := by
  refine zMX_of RL (by decide) rfl (Nat.le_of_ble_eq_true rfl) ?_
  refine z_sub [0, 1] (lv' := [(0, .ref x), (1, .ref q)]) rfl ?_
  refine z_aload_n 1 dL_pass_0 rfl rfl ?_
  refine z_iconst (v := 0) dL_pass_1 rfl ?_
  refine z_aload_n 0 dL_pass_2 rfl rfl ?_
  refine z_callVI (ci := 10) (st := [.int 0, .ref q]) (w_X10_pass h) hx9.1 hx9.2 (Nat.le_of_ble_eq_true rfl) rfl zw_1079 zw_1076 zw_1077 zw_1078 zw_63 zy_X10_pass rfl rfl ⟨Nat.le_of_ble_eq_true rfl, Nat.le_of_ble_eq_true rfl⟩ ⟨Nat.le_of_ble_eq_true rfl, Nat.le_of_ble_eq_true rfl⟩ (Nat.le_of_ble_eq_true rfl) dL_pass_3 (fun ex S1 h => ?_) (fun r S1 h => ?_)
  · obtain ⟨rfl, h⟩ := h
    refine zx_catch [] ⟨0, 8, 11, 15⟩ [] rfl (by decide) (fun z hz => by simp at hz) (by decide) (by decide) zw_406 (fun q9 => ?_)
    refine z_astore_n (lv' := [(2, .ref q9), (0, .ref x), (1, .ref q)]) dL_pass_11 rfl (Nat.le_of_ble_eq_true rfl) rfl ?_
    refine z_iconst (v := 1) dL_pass_12 rfl ?_
    exact z_ireturn ⟨1, 0, f, rfl, rfl, (fun h0 => absurd h0 (by decide)), h⟩ rfl (Nat.le_of_ble_eq_true rfl) (Nat.le_of_ble_eq_true rfl) dL_pass_13
  · refine z_i2l dL_pass_6 rfl ?_
    refine z_lastX dL_pass_7 ?_
    refine z_goto 14 dL_pass_8 (by decide) ?_
    refine z_iconst (v := 0) dL_pass_14 rfl ?_
    exact z_ireturn ⟨0, r, _, rfl, rfl, (fun _ => by rw [vp_updL]; rfl), h⟩ rfl (Nat.le_of_ble_eq_true rfl) (Nat.le_of_ble_eq_true rfl) dL_pass_15
set_option maxRecDepth 20000 in
set_option maxHeartbeats 4000000 in
theorem w_L_ring {E : zE} {x q : Nat} {l1 l2 l3 : Int32} {f : Nat → Int64} {S : zS} {PM : Int32 → Int32 → zS → Prop} (hx9 : x ∈ gL S ∧ gK S x = 10) (h : p_X10_ring E x l1 l2 l3 S (fun r S1 => PM 0 r S1) (fun ex S1 => (ex = "java/lang/IndexOutOfBoundsException" ∧ PM 1 0 S1) ∨ (ex = "java/lang/IllegalArgumentException" ∧ PM 2 0 S1) ∨ (ex = "java/lang/IllegalStateException" ∧ PM 3 0 S1))) : zMX E yL_ring cL_ring 6 (some .int) [(0, 12, 15, 24), (0, 12, 19, 13), (0, 12, 23, 15)] ({ frames := 9, cells := 5, slots := 30, locals := 199 } : Room) [.ref x, .int l1, .int l2, .int l3, .ref q] [(q, zcl E f)] S (fun v X S1 => ∃ k r f1, v = some (.int k) ∧ X = [(q, zcl E f1)] ∧ (k = 0 → f1 0 = r.toInt64) ∧ PM k r S1) := by
  refine zMX_of RL (by decide) rfl (Nat.le_of_ble_eq_true rfl) ?_
  refine z_sub [0, 1, 2, 3, 4] (lv' := [(0, .ref x), (1, .int l1), (2, .int l2), (3, .int l3), (4, .ref q)]) rfl ?_
  refine z_aload 4 dL_ring_0 rfl ?_
  refine z_iconst (v := 0) dL_ring_2 rfl ?_
  refine z_aload_n 0 dL_ring_3 rfl rfl ?_
  refine z_iload_n 1 dL_ring_4 rfl rfl ?_
  refine z_iload_n 2 dL_ring_5 rfl rfl ?_
  refine z_iload_n 3 dL_ring_6 rfl rfl ?_
  refine z_callVI (ci := 10) (st := [.int 0, .ref q]) (w_X10_ring h) hx9.1 hx9.2 (Nat.le_of_ble_eq_true rfl) rfl zw_1093 zw_1090 zw_1091 zw_1092 zw_63 zy_X10_ring rfl rfl ⟨Nat.le_of_ble_eq_true rfl, Nat.le_of_ble_eq_true rfl⟩ ⟨Nat.le_of_ble_eq_true rfl, Nat.le_of_ble_eq_true rfl⟩ (Nat.le_of_ble_eq_true rfl) dL_ring_7 (fun ex S1 h => ?_) (fun r S1 h => ?_)
  · rcases h with ⟨rfl, h⟩ | ⟨rfl, h⟩ | ⟨rfl, h⟩
    · refine zx_catch [] ⟨0, 12, 15, 24⟩ [⟨0, 12, 19, 13⟩, ⟨0, 12, 23, 15⟩] rfl (by decide) (fun z hz => by simp at hz) (by decide) (by decide) zw_651 (fun q9 => ?_)
      refine z_astore (lv' := [(5, .ref q9), (0, .ref x), (1, .int l1), (2, .int l2), (3, .int l3), (4, .ref q)]) dL_ring_15 (Nat.le_of_ble_eq_true rfl) rfl ?_
      refine z_iconst (v := 1) dL_ring_17 rfl ?_
      exact z_ireturn ⟨1, 0, f, rfl, rfl, (fun h0 => absurd h0 (by decide)), h⟩ rfl (Nat.le_of_ble_eq_true rfl) (Nat.le_of_ble_eq_true rfl) dL_ring_18
    · refine zx_catch [⟨0, 12, 15, 24⟩] ⟨0, 12, 19, 13⟩ [⟨0, 12, 23, 15⟩] rfl (by decide) (fun z hz => by
        simp only [List.mem_cons, List.not_mem_nil, or_false] at hz
        rcases hz with rfl
        · exact ⟨by decide, "java/lang/IndexOutOfBoundsException", by decide, by decide, zw_651⟩) (by decide) (by decide) zw_405 (fun q9 => ?_)
      refine z_astore (lv' := [(5, .ref q9), (0, .ref x), (1, .int l1), (2, .int l2), (3, .int l3), (4, .ref q)]) dL_ring_19 (Nat.le_of_ble_eq_true rfl) rfl ?_
      refine z_iconst (v := 2) dL_ring_21 rfl ?_
      exact z_ireturn ⟨2, 0, f, rfl, rfl, (fun h0 => absurd h0 (by decide)), h⟩ rfl (Nat.le_of_ble_eq_true rfl) (Nat.le_of_ble_eq_true rfl) dL_ring_22
    · refine zx_catch [⟨0, 12, 15, 24⟩, ⟨0, 12, 19, 13⟩] ⟨0, 12, 23, 15⟩ [] rfl (by decide) (fun z hz => by
        simp only [List.mem_cons, List.not_mem_nil, or_false] at hz
        rcases hz with rfl | rfl
        · exact ⟨by decide, "java/lang/IndexOutOfBoundsException", by decide, by decide, zw_651⟩
        · exact ⟨by decide, "java/lang/IllegalArgumentException", by decide, by decide, zw_405⟩) (by decide) (by decide) zw_406 (fun q9 => ?_)
      refine z_astore (lv' := [(5, .ref q9), (0, .ref x), (1, .int l1), (2, .int l2), (3, .int l3), (4, .ref q)]) dL_ring_23 (Nat.le_of_ble_eq_true rfl) rfl ?_
      refine z_iconst (v := 3) dL_ring_25 rfl ?_
      exact z_ireturn ⟨3, 0, f, rfl, rfl, (fun h0 => absurd h0 (by decide)), h⟩ rfl (Nat.le_of_ble_eq_true rfl) (Nat.le_of_ble_eq_true rfl) dL_ring_26
  · refine z_i2l dL_ring_10 rfl ?_
    refine z_lastX dL_ring_11 ?_
    refine z_goto 27 dL_ring_12 (by decide) ?_
    refine z_iconst (v := 0) dL_ring_27 rfl ?_
    exact z_ireturn ⟨0, r, _, rfl, rfl, (fun _ => by rw [vp_updL]; rfl), h⟩ rfl (Nat.le_of_ble_eq_true rfl) (Nat.le_of_ble_eq_true rfl) dL_ring_28
set_option maxRecDepth 20000 in
set_option maxHeartbeats 4000000 in
theorem w_L_stand {E : zE} {x q : Nat} {_u : Unit} {f : Nat → Int64} {S : zS} {PM : Int32 → Int32 → zS → Prop} (hx9 : x ∈ gL S ∧ gK S x = 10) (h : p_X10_stand E x S (fun r S1 => PM 0 r S1) (fun ex S1 => (ex = "java/lang/IllegalStateException" ∧ PM 1 0 S1))) : zMX E yL_stand cL_stand 3 (some .int) [(0, 8, 11, 15)] ({ frames := 7, cells := 1, slots := 6, locals := 173 } : Room) [.ref x, .ref q] [(q, zcl E f)] S (fun v X S1 => ∃ k r f1, v = some (.int k) ∧ X = [(q, zcl E f1)] ∧ (k = 0 → f1 0 = r.toInt64) ∧ PM k r S1) := by
  refine zMX_of RL (by decide) rfl (Nat.le_of_ble_eq_true rfl) ?_
  refine z_sub [0, 1] (lv' := [(0, .ref x), (1, .ref q)]) rfl ?_
  refine z_aload_n 1 dL_stand_0 rfl rfl ?_
  refine z_iconst (v := 0) dL_stand_1 rfl ?_
  refine z_aload_n 0 dL_stand_2 rfl rfl ?_
  refine z_callVI (ci := 10) (st := [.int 0, .ref q]) (w_X10_stand h) hx9.1 hx9.2 (Nat.le_of_ble_eq_true rfl) rfl zw_1204 zw_1201 zw_1202 zw_1203 zw_63 zy_X10_stand rfl rfl ⟨Nat.le_of_ble_eq_true rfl, Nat.le_of_ble_eq_true rfl⟩ ⟨Nat.le_of_ble_eq_true rfl, Nat.le_of_ble_eq_true rfl⟩ (Nat.le_of_ble_eq_true rfl) dL_stand_3 (fun ex S1 h => ?_) (fun r S1 h => ?_)
  · obtain ⟨rfl, h⟩ := h
    refine zx_catch [] ⟨0, 8, 11, 15⟩ [] rfl (by decide) (fun z hz => by simp at hz) (by decide) (by decide) zw_406 (fun q9 => ?_)
    refine z_astore_n (lv' := [(2, .ref q9), (0, .ref x), (1, .ref q)]) dL_stand_11 rfl (Nat.le_of_ble_eq_true rfl) rfl ?_
    refine z_iconst (v := 1) dL_stand_12 rfl ?_
    exact z_ireturn ⟨1, 0, f, rfl, rfl, (fun h0 => absurd h0 (by decide)), h⟩ rfl (Nat.le_of_ble_eq_true rfl) (Nat.le_of_ble_eq_true rfl) dL_stand_13
  · refine z_i2l dL_stand_6 rfl ?_
    refine z_lastX dL_stand_7 ?_
    refine z_goto 14 dL_stand_8 (by decide) ?_
    refine z_iconst (v := 0) dL_stand_14 rfl ?_
    exact z_ireturn ⟨0, r, _, rfl, rfl, (fun _ => by rw [vp_updL]; rfl), h⟩ rfl (Nat.le_of_ble_eq_true rfl) (Nat.le_of_ble_eq_true rfl) dL_stand_15
set_option maxRecDepth 20000 in
set_option maxHeartbeats 4000000 in
theorem w_L_pull {E : zE} {x q : Nat} {l1 l2 : Int32} {f : Nat → Int64} {S : zS} {PM : Int32 → Int32 → zS → Prop} (hx9 : x ∈ gL S ∧ gK S x = 10) (h : p_X10_pull E x l1 l2 S (fun r S1 => PM 0 r S1) (fun ex S1 => (ex = "java/lang/IndexOutOfBoundsException" ∧ PM 1 0 S1) ∨ (ex = "java/lang/IllegalArgumentException" ∧ PM 2 0 S1) ∨ (ex = "java/lang/IllegalStateException" ∧ PM 3 0 S1))) : zMX E yL_pull cL_pull 5 (some .int) [(0, 10, 13, 24), (0, 10, 17, 13), (0, 10, 21, 15)] ({ frames := 9, cells := 4, slots := 24, locals := 199 } : Room) [.ref x, .int l1, .int l2, .ref q] [(q, zcl E f)] S (fun v X S1 => ∃ k r f1, v = some (.int k) ∧ X = [(q, zcl E f1)] ∧ (k = 0 → f1 0 = r.toInt64) ∧ PM k r S1) := by
  refine zMX_of RL (by decide) rfl (Nat.le_of_ble_eq_true rfl) ?_
  refine z_sub [0, 1, 2, 3] (lv' := [(0, .ref x), (1, .int l1), (2, .int l2), (3, .ref q)]) rfl ?_
  refine z_aload_n 3 dL_pull_0 rfl rfl ?_
  refine z_iconst (v := 0) dL_pull_1 rfl ?_
  refine z_aload_n 0 dL_pull_2 rfl rfl ?_
  refine z_iload_n 1 dL_pull_3 rfl rfl ?_
  refine z_iload_n 2 dL_pull_4 rfl rfl ?_
  refine z_callVI (ci := 10) (st := [.int 0, .ref q]) (w_X10_pull h) hx9.1 hx9.2 (Nat.le_of_ble_eq_true rfl) rfl zw_1212 zw_1209 zw_1210 zw_1211 zw_63 zy_X10_pull rfl rfl ⟨Nat.le_of_ble_eq_true rfl, Nat.le_of_ble_eq_true rfl⟩ ⟨Nat.le_of_ble_eq_true rfl, Nat.le_of_ble_eq_true rfl⟩ (Nat.le_of_ble_eq_true rfl) dL_pull_5 (fun ex S1 h => ?_) (fun r S1 h => ?_)
  · rcases h with ⟨rfl, h⟩ | ⟨rfl, h⟩ | ⟨rfl, h⟩
    · refine zx_catch [] ⟨0, 10, 13, 24⟩ [⟨0, 10, 17, 13⟩, ⟨0, 10, 21, 15⟩] rfl (by decide) (fun z hz => by simp at hz) (by decide) (by decide) zw_651 (fun q9 => ?_)
      refine z_astore (lv' := [(4, .ref q9), (0, .ref x), (1, .int l1), (2, .int l2), (3, .ref q)]) dL_pull_13 (Nat.le_of_ble_eq_true rfl) rfl ?_
      refine z_iconst (v := 1) dL_pull_15 rfl ?_
      exact z_ireturn ⟨1, 0, f, rfl, rfl, (fun h0 => absurd h0 (by decide)), h⟩ rfl (Nat.le_of_ble_eq_true rfl) (Nat.le_of_ble_eq_true rfl) dL_pull_16
    · refine zx_catch [⟨0, 10, 13, 24⟩] ⟨0, 10, 17, 13⟩ [⟨0, 10, 21, 15⟩] rfl (by decide) (fun z hz => by
        simp only [List.mem_cons, List.not_mem_nil, or_false] at hz
        rcases hz with rfl
        · exact ⟨by decide, "java/lang/IndexOutOfBoundsException", by decide, by decide, zw_651⟩) (by decide) (by decide) zw_405 (fun q9 => ?_)
      refine z_astore (lv' := [(4, .ref q9), (0, .ref x), (1, .int l1), (2, .int l2), (3, .ref q)]) dL_pull_17 (Nat.le_of_ble_eq_true rfl) rfl ?_
      refine z_iconst (v := 2) dL_pull_19 rfl ?_
      exact z_ireturn ⟨2, 0, f, rfl, rfl, (fun h0 => absurd h0 (by decide)), h⟩ rfl (Nat.le_of_ble_eq_true rfl) (Nat.le_of_ble_eq_true rfl) dL_pull_20
    · refine zx_catch [⟨0, 10, 13, 24⟩, ⟨0, 10, 17, 13⟩] ⟨0, 10, 21, 15⟩ [] rfl (by decide) (fun z hz => by
        simp only [List.mem_cons, List.not_mem_nil, or_false] at hz
        rcases hz with rfl | rfl
        · exact ⟨by decide, "java/lang/IndexOutOfBoundsException", by decide, by decide, zw_651⟩
        · exact ⟨by decide, "java/lang/IllegalArgumentException", by decide, by decide, zw_405⟩) (by decide) (by decide) zw_406 (fun q9 => ?_)
      refine z_astore (lv' := [(4, .ref q9), (0, .ref x), (1, .int l1), (2, .int l2), (3, .ref q)]) dL_pull_21 (Nat.le_of_ble_eq_true rfl) rfl ?_
      refine z_iconst (v := 3) dL_pull_23 rfl ?_
      exact z_ireturn ⟨3, 0, f, rfl, rfl, (fun h0 => absurd h0 (by decide)), h⟩ rfl (Nat.le_of_ble_eq_true rfl) (Nat.le_of_ble_eq_true rfl) dL_pull_24
  · refine z_i2l dL_pull_8 rfl ?_
    refine z_lastX dL_pull_9 ?_
    refine z_goto 25 dL_pull_10 (by decide) ?_
    refine z_iconst (v := 0) dL_pull_25 rfl ?_
    exact z_ireturn ⟨0, r, _, rfl, rfl, (fun _ => by rw [vp_updL]; rfl), h⟩ rfl (Nat.le_of_ble_eq_true rfl) (Nat.le_of_ble_eq_true rfl) dL_pull_26
set_option maxRecDepth 20000 in
set_option maxHeartbeats 4000000 in
theorem w_L_due {E : zE} {x q : Nat} {l1 : Int32} {f : Nat → Int64} {S : zS} {PM : Int32 → Int32 → zS → Prop} (hx9 : x ∈ gL S ∧ gK S x = 10) (h : p_X10_due E x l1 S (fun r S1 => PM 0 r S1) (fun ex S1 => (ex = "java/lang/IndexOutOfBoundsException" ∧ PM 1 0 S1) ∨ (ex = "java/lang/IllegalStateException" ∧ PM 2 0 S1))) : zMX E yL_due cL_due 4 (some .int) [(0, 9, 12, 24), (0, 9, 15, 15)] ({ frames := 8, cells := 2, slots := 12, locals := 125 } : Room) [.ref x, .int l1, .ref q] [(q, zcl E f)] S (fun v X S1 => ∃ k r f1, v = some (.int k) ∧ X = [(q, zcl E f1)] ∧ (k = 0 → f1 0 = r.toInt64) ∧ PM k r S1) := by
  refine zMX_of RL (by decide) rfl (Nat.le_of_ble_eq_true rfl) ?_
  refine z_sub [0, 1, 2] (lv' := [(0, .ref x), (1, .int l1), (2, .ref q)]) rfl ?_
  refine z_aload_n 2 dL_due_0 rfl rfl ?_
  refine z_iconst (v := 0) dL_due_1 rfl ?_
  refine z_aload_n 0 dL_due_2 rfl rfl ?_
  refine z_iload_n 1 dL_due_3 rfl rfl ?_
  refine z_callVI (ci := 10) (st := [.int 0, .ref q]) (w_X10_due h) hx9.1 hx9.2 (Nat.le_of_ble_eq_true rfl) rfl zw_1263 zw_1260 zw_1261 zw_1262 zw_63 zy_X10_due rfl rfl ⟨Nat.le_of_ble_eq_true rfl, Nat.le_of_ble_eq_true rfl⟩ ⟨Nat.le_of_ble_eq_true rfl, Nat.le_of_ble_eq_true rfl⟩ (Nat.le_of_ble_eq_true rfl) dL_due_4 (fun ex S1 h => ?_) (fun r S1 h => ?_)
  · rcases h with ⟨rfl, h⟩ | ⟨rfl, h⟩
    · refine zx_catch [] ⟨0, 9, 12, 24⟩ [⟨0, 9, 15, 15⟩] rfl (by decide) (fun z hz => by simp at hz) (by decide) (by decide) zw_651 (fun q9 => ?_)
      refine z_astore_n (lv' := [(3, .ref q9), (0, .ref x), (1, .int l1), (2, .ref q)]) dL_due_12 rfl (Nat.le_of_ble_eq_true rfl) rfl ?_
      refine z_iconst (v := 1) dL_due_13 rfl ?_
      exact z_ireturn ⟨1, 0, f, rfl, rfl, (fun h0 => absurd h0 (by decide)), h⟩ rfl (Nat.le_of_ble_eq_true rfl) (Nat.le_of_ble_eq_true rfl) dL_due_14
    · refine zx_catch [⟨0, 9, 12, 24⟩] ⟨0, 9, 15, 15⟩ [] rfl (by decide) (fun z hz => by
        simp only [List.mem_cons, List.not_mem_nil, or_false] at hz
        rcases hz with rfl
        · exact ⟨by decide, "java/lang/IndexOutOfBoundsException", by decide, by decide, zw_651⟩) (by decide) (by decide) zw_406 (fun q9 => ?_)
      refine z_astore_n (lv' := [(3, .ref q9), (0, .ref x), (1, .int l1), (2, .ref q)]) dL_due_15 rfl (Nat.le_of_ble_eq_true rfl) rfl ?_
      refine z_iconst (v := 2) dL_due_16 rfl ?_
      exact z_ireturn ⟨2, 0, f, rfl, rfl, (fun h0 => absurd h0 (by decide)), h⟩ rfl (Nat.le_of_ble_eq_true rfl) (Nat.le_of_ble_eq_true rfl) dL_due_17
  · refine z_i2l dL_due_7 rfl ?_
    refine z_lastX dL_due_8 ?_
    refine z_goto 18 dL_due_9 (by decide) ?_
    refine z_iconst (v := 0) dL_due_18 rfl ?_
    exact z_ireturn ⟨0, r, _, rfl, rfl, (fun _ => by rw [vp_updL]; rfl), h⟩ rfl (Nat.le_of_ble_eq_true rfl) (Nat.le_of_ble_eq_true rfl) dL_due_19
set_option maxRecDepth 20000 in
set_option maxHeartbeats 4000000 in
theorem w_L_setPatience {E : zE} {x q : Nat} {l1 : Int32} {f : Nat → Int64} {S : zS} {PM : Int32 → Int32 → zS → Prop} (hx9 : x ∈ gL S ∧ gK S x = 10) (h : p_X10_setPatience E x l1 S (fun r S1 => PM 0 r S1) (fun ex S1 => (ex = "java/lang/IllegalArgumentException" ∧ PM 1 0 S1))) : zMX E yL_setPatience cL_setPatience 4 (some .int) [(0, 9, 12, 13)] ({ frames := 8, cells := 1, slots := 6, locals := 126 } : Room) [.ref x, .int l1, .ref q] [(q, zcl E f)] S (fun v X S1 => ∃ k r f1, v = some (.int k) ∧ X = [(q, zcl E f1)] ∧ (k = 0 → f1 0 = r.toInt64) ∧ PM k r S1) := by
  refine zMX_of RL (by decide) rfl (Nat.le_of_ble_eq_true rfl) ?_
  refine z_sub [0, 1, 2] (lv' := [(0, .ref x), (1, .int l1), (2, .ref q)]) rfl ?_
  refine z_aload_n 2 dL_setPatience_0 rfl rfl ?_
  refine z_iconst (v := 0) dL_setPatience_1 rfl ?_
  refine z_aload_n 0 dL_setPatience_2 rfl rfl ?_
  refine z_iload_n 1 dL_setPatience_3 rfl rfl ?_
  refine z_callVI (ci := 10) (st := [.int 0, .ref q]) (w_X10_setPatience h) hx9.1 hx9.2 (Nat.le_of_ble_eq_true rfl) rfl zw_1270 zw_1267 zw_1268 zw_1269 zw_63 zy_X10_setPatience rfl rfl ⟨Nat.le_of_ble_eq_true rfl, Nat.le_of_ble_eq_true rfl⟩ ⟨Nat.le_of_ble_eq_true rfl, Nat.le_of_ble_eq_true rfl⟩ (Nat.le_of_ble_eq_true rfl) dL_setPatience_4 (fun ex S1 h => ?_) (fun r S1 h => ?_)
  · obtain ⟨rfl, h⟩ := h
    refine zx_catch [] ⟨0, 9, 12, 13⟩ [] rfl (by decide) (fun z hz => by simp at hz) (by decide) (by decide) zw_405 (fun q9 => ?_)
    refine z_astore_n (lv' := [(3, .ref q9), (0, .ref x), (1, .int l1), (2, .ref q)]) dL_setPatience_12 rfl (Nat.le_of_ble_eq_true rfl) rfl ?_
    refine z_iconst (v := 1) dL_setPatience_13 rfl ?_
    exact z_ireturn ⟨1, 0, f, rfl, rfl, (fun h0 => absurd h0 (by decide)), h⟩ rfl (Nat.le_of_ble_eq_true rfl) (Nat.le_of_ble_eq_true rfl) dL_setPatience_14
  · refine z_i2l dL_setPatience_7 rfl ?_
    refine z_lastX dL_setPatience_8 ?_
    refine z_goto 15 dL_setPatience_9 (by decide) ?_
    refine z_iconst (v := 0) dL_setPatience_15 rfl ?_
    exact z_ireturn ⟨0, r, _, rfl, rfl, (fun _ => by rw [vp_updL]; rfl), h⟩ rfl (Nat.le_of_ble_eq_true rfl) (Nat.le_of_ble_eq_true rfl) dL_setPatience_16
set_option maxRecDepth 20000 in
set_option maxHeartbeats 4000000 in
theorem w_L_late {E : zE} {x q : Nat} {l1 : Int32} {f : Nat → Int64} {S : zS} {PM : Int32 → Int32 → zS → Prop} (hx9 : x ∈ gL S ∧ gK S x = 10) (h : p_X10_late E x l1 S (fun r S1 => PM 0 r S1) (fun ex S1 => (ex = "java/lang/IndexOutOfBoundsException" ∧ PM 1 0 S1))) : zMX E yL_late cL_late 4 (some .int) [(0, 9, 12, 24)] ({ frames := 9, cells := 1, slots := 6, locals := 145 } : Room) [.ref x, .int l1, .ref q] [(q, zcl E f)] S (fun v X S1 => ∃ k r f1, v = some (.int k) ∧ X = [(q, zcl E f1)] ∧ (k = 0 → f1 0 = r.toInt64) ∧ PM k r S1) := by
  refine zMX_of RL (by decide) rfl (Nat.le_of_ble_eq_true rfl) ?_
  refine z_sub [0, 1, 2] (lv' := [(0, .ref x), (1, .int l1), (2, .ref q)]) rfl ?_
  refine z_aload_n 2 dL_late_0 rfl rfl ?_
  refine z_iconst (v := 0) dL_late_1 rfl ?_
  refine z_aload_n 0 dL_late_2 rfl rfl ?_
  refine z_iload_n 1 dL_late_3 rfl rfl ?_
  refine z_callVI (ci := 10) (st := [.int 0, .ref q]) (w_X10_late h) hx9.1 hx9.2 (Nat.le_of_ble_eq_true rfl) rfl zw_1277 zw_1274 zw_1275 zw_1276 zw_63 zy_X10_late rfl rfl ⟨Nat.le_of_ble_eq_true rfl, Nat.le_of_ble_eq_true rfl⟩ ⟨Nat.le_of_ble_eq_true rfl, Nat.le_of_ble_eq_true rfl⟩ (Nat.le_of_ble_eq_true rfl) dL_late_4 (fun ex S1 h => ?_) (fun r S1 h => ?_)
  · obtain ⟨rfl, h⟩ := h
    refine zx_catch [] ⟨0, 9, 12, 24⟩ [] rfl (by decide) (fun z hz => by simp at hz) (by decide) (by decide) zw_651 (fun q9 => ?_)
    refine z_astore_n (lv' := [(3, .ref q9), (0, .ref x), (1, .int l1), (2, .ref q)]) dL_late_12 rfl (Nat.le_of_ble_eq_true rfl) rfl ?_
    refine z_iconst (v := 1) dL_late_13 rfl ?_
    exact z_ireturn ⟨1, 0, f, rfl, rfl, (fun h0 => absurd h0 (by decide)), h⟩ rfl (Nat.le_of_ble_eq_true rfl) (Nat.le_of_ble_eq_true rfl) dL_late_14
  · refine z_i2l dL_late_7 rfl ?_
    refine z_lastX dL_late_8 ?_
    refine z_goto 15 dL_late_9 (by decide) ?_
    refine z_iconst (v := 0) dL_late_15 rfl ?_
    exact z_ireturn ⟨0, r, _, rfl, rfl, (fun _ => by rw [vp_updL]; rfl), h⟩ rfl (Nat.le_of_ble_eq_true rfl) (Nat.le_of_ble_eq_true rfl) dL_late_16
set_option maxRecDepth 20000 in
set_option maxHeartbeats 4000000 in
theorem w_L_early {E : zE} {x q : Nat} {l1 : Int32} {f : Nat → Int64} {S : zS} {PM : Int32 → Int32 → zS → Prop} (hx9 : x ∈ gL S ∧ gK S x = 10) (h : p_X10_early E x l1 S (fun r S1 => PM 0 r S1) (fun ex S1 => (ex = "java/lang/IndexOutOfBoundsException" ∧ PM 1 0 S1))) : zMX E yL_early cL_early 4 (some .int) [(0, 9, 12, 24)] ({ frames := 9, cells := 1, slots := 6, locals := 145 } : Room) [.ref x, .int l1, .ref q] [(q, zcl E f)] S (fun v X S1 => ∃ k r f1, v = some (.int k) ∧ X = [(q, zcl E f1)] ∧ (k = 0 → f1 0 = r.toInt64) ∧ PM k r S1) := by
  refine zMX_of RL (by decide) rfl (Nat.le_of_ble_eq_true rfl) ?_
  refine z_sub [0, 1, 2] (lv' := [(0, .ref x), (1, .int l1), (2, .ref q)]) rfl ?_
  refine z_aload_n 2 dL_early_0 rfl rfl ?_
  refine z_iconst (v := 0) dL_early_1 rfl ?_
  refine z_aload_n 0 dL_early_2 rfl rfl ?_
  refine z_iload_n 1 dL_early_3 rfl rfl ?_
  refine z_callVI (ci := 10) (st := [.int 0, .ref q]) (w_X10_early h) hx9.1 hx9.2 (Nat.le_of_ble_eq_true rfl) rfl zw_1284 zw_1281 zw_1282 zw_1283 zw_63 zy_X10_early rfl rfl ⟨Nat.le_of_ble_eq_true rfl, Nat.le_of_ble_eq_true rfl⟩ ⟨Nat.le_of_ble_eq_true rfl, Nat.le_of_ble_eq_true rfl⟩ (Nat.le_of_ble_eq_true rfl) dL_early_4 (fun ex S1 h => ?_) (fun r S1 h => ?_)
  · obtain ⟨rfl, h⟩ := h
    refine zx_catch [] ⟨0, 9, 12, 24⟩ [] rfl (by decide) (fun z hz => by simp at hz) (by decide) (by decide) zw_651 (fun q9 => ?_)
    refine z_astore_n (lv' := [(3, .ref q9), (0, .ref x), (1, .int l1), (2, .ref q)]) dL_early_12 rfl (Nat.le_of_ble_eq_true rfl) rfl ?_
    refine z_iconst (v := 1) dL_early_13 rfl ?_
    exact z_ireturn ⟨1, 0, f, rfl, rfl, (fun h0 => absurd h0 (by decide)), h⟩ rfl (Nat.le_of_ble_eq_true rfl) (Nat.le_of_ble_eq_true rfl) dL_early_14
  · refine z_i2l dL_early_7 rfl ?_
    refine z_lastX dL_early_8 ?_
    refine z_goto 15 dL_early_9 (by decide) ?_
    refine z_iconst (v := 0) dL_early_15 rfl ?_
    exact z_ireturn ⟨0, r, _, rfl, rfl, (fun _ => by rw [vp_updL]; rfl), h⟩ rfl (Nat.le_of_ble_eq_true rfl) (Nat.le_of_ble_eq_true rfl) dL_early_16
set_option maxRecDepth 20000 in
set_option maxHeartbeats 4000000 in
theorem w_L_errors {E : zE} {x q : Nat} {l1 : Int32} {f : Nat → Int64} {S : zS} {PM : Int32 → Int32 → zS → Prop} (hx9 : x ∈ gL S ∧ gK S x = 10) (h : p_X10_errors E x l1 S (fun r S1 => PM 0 r S1) (fun ex S1 => (ex = "java/lang/IndexOutOfBoundsException" ∧ PM 1 0 S1))) : zMX E yL_errors cL_errors 4 (some .int) [(0, 9, 12, 24)] ({ frames := 9, cells := 1, slots := 6, locals := 145 } : Room) [.ref x, .int l1, .ref q] [(q, zcl E f)] S (fun v X S1 => ∃ k r f1, v = some (.int k) ∧ X = [(q, zcl E f1)] ∧ (k = 0 → f1 0 = r.toInt64) ∧ PM k r S1) := by
  refine zMX_of RL (by decide) rfl (Nat.le_of_ble_eq_true rfl) ?_
  refine z_sub [0, 1, 2] (lv' := [(0, .ref x), (1, .int l1), (2, .ref q)]) rfl ?_
  refine z_aload_n 2 dL_errors_0 rfl rfl ?_
  refine z_iconst (v := 0) dL_errors_1 rfl ?_
  refine z_aload_n 0 dL_errors_2 rfl rfl ?_
  refine z_iload_n 1 dL_errors_3 rfl rfl ?_
  refine z_callVI (ci := 10) (st := [.int 0, .ref q]) (w_X10_errors h) hx9.1 hx9.2 (Nat.le_of_ble_eq_true rfl) rfl zw_1291 zw_1288 zw_1289 zw_1290 zw_63 zy_X10_errors rfl rfl ⟨Nat.le_of_ble_eq_true rfl, Nat.le_of_ble_eq_true rfl⟩ ⟨Nat.le_of_ble_eq_true rfl, Nat.le_of_ble_eq_true rfl⟩ (Nat.le_of_ble_eq_true rfl) dL_errors_4 (fun ex S1 h => ?_) (fun r S1 h => ?_)
  · obtain ⟨rfl, h⟩ := h
    refine zx_catch [] ⟨0, 9, 12, 24⟩ [] rfl (by decide) (fun z hz => by simp at hz) (by decide) (by decide) zw_651 (fun q9 => ?_)
    refine z_astore_n (lv' := [(3, .ref q9), (0, .ref x), (1, .int l1), (2, .ref q)]) dL_errors_12 rfl (Nat.le_of_ble_eq_true rfl) rfl ?_
    refine z_iconst (v := 1) dL_errors_13 rfl ?_
    exact z_ireturn ⟨1, 0, f, rfl, rfl, (fun h0 => absurd h0 (by decide)), h⟩ rfl (Nat.le_of_ble_eq_true rfl) (Nat.le_of_ble_eq_true rfl) dL_errors_14
  · refine z_i2l dL_errors_7 rfl ?_
    refine z_lastX dL_errors_8 ?_
    refine z_goto 15 dL_errors_9 (by decide) ?_
    refine z_iconst (v := 0) dL_errors_15 rfl ?_
    exact z_ireturn ⟨0, r, _, rfl, rfl, (fun _ => by rw [vp_updL]; rfl), h⟩ rfl (Nat.le_of_ble_eq_true rfl) (Nat.le_of_ble_eq_true rfl) dL_errors_16
