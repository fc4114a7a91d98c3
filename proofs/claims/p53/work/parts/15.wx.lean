set_option maxRecDepth 20000 in
set_option maxHeartbeats 4000000 in
theorem w_X10_bellNumbered {E : zE} {a0 : Nat} {l1 : Int32} {S : zS} {Q : Option Nat → zS → Prop} {X : String → zS → Prop} (h : p_X10_bellNumbered E a0 l1 S Q X) : zM E yX10_bellNumbered cX10_bellNumbered 2 (some (.object "GrandsireLoft$Bell")) ({ frames := 7, cells := 1, slots := 6, locals := 103 } : Room) [.ref a0, .int l1] S (qR Q) X := by
  unfold p_X10_bellNumbered at h
  refine zM_of RX10 false (by decide) rfl (fun h => by cases h) (Nat.le_of_ble_eq_true rfl) ?_
  refine z_iload_n 1 dX10_bellNumbered_0 rfl rfl ?_
  refine z_bipush (v := 6) dX10_bellNumbered_1 rfl ?_
  refine z_callSV (st := []) (w_X10_requireIndex h) zw_587 zw_585 zw_586 zw_30 zy_X10_requireIndex rfl rfl ⟨Nat.le_of_ble_eq_true rfl, Nat.le_of_ble_eq_true rfl⟩ ⟨(Nat.le_of_ble_eq_true rfl), (Nat.le_of_ble_eq_true rfl)⟩ (Nat.le_of_ble_eq_true rfl) dX10_bellNumbered_3 (fun ex S1 hx => zx_out rfl ⟨rfl, hx⟩ (Nat.le_of_ble_eq_true rfl) (Nat.le_of_ble_eq_true rfl)) (fun S1 h => ?_)
  refine z_widen (k' := 1) (n' := 6) (Nat.le_refl _) (Nat.le_refl _) ?_
  refine z_aload_n 0 dX10_bellNumbered_6 rfl rfl ?_
  obtain ⟨hf3, h⟩ := h
  refine z_getQ (c := 10) (j := 7) (f := 1007) hf3.1 hf3.2 (Nat.le_of_ble_eq_true rfl) rfl zU_X10 (Nat.le_of_ble_eq_true rfl) (Nat.le_of_ble_eq_true rfl) ⟨_, zw_271, Or.inl rfl⟩ rfl rfl dX10_bellNumbered_7 ?_
  obtain ⟨b4, hb5, h⟩ := h
  rw [show va_rf (gR S1 1007 a0) = Value.ref b4 from by rw [hb5]; rfl]
  obtain ⟨hf6, h⟩ := h
  refine z_getQ (c := 1) (j := 0) (f := 100) hf6.1 hf6.2 (Nat.le_of_ble_eq_true rfl) rfl zU_X0 (Nat.le_of_ble_eq_true rfl) (Nat.le_of_ble_eq_true rfl) ⟨_, zw_216, Or.inl rfl⟩ rfl rfl dX10_bellNumbered_10 ?_
  refine z_iload_n 1 dX10_bellNumbered_13 rfl rfl ?_
  obtain ⟨b7, hb8, h⟩ := h
  rw [show va_rf (gR S1 100 b4) = Value.ref b7 from by rw [hb8]; rfl]
  obtain ⟨hf9, h⟩ := h
  obtain ⟨j10, hj11, h⟩ := h
  refine z_aald (j := j10) hf9.1 rfl hf9.2.1 hf9.2.2 hj11.1 hj11.2.1 hj11.2.2 dX10_bellNumbered_14 ?_
  exact z_areturn (v := va_rf (gQ S1 b7 j10)) ⟨rfl, _, rfl, h⟩ rfl (.inl ⟨_, rfl⟩) (va_rf_or _) (Nat.le_of_ble_eq_true rfl) (Nat.le_of_ble_eq_true rfl) dX10_bellNumbered_15
set_option maxRecDepth 20000 in
set_option maxHeartbeats 4000000 in
theorem w_X10_takeOut {E : zE} {a0 : Nat} {l1 : Int32} {S : zS} {Q : Int32 → zS → Prop} {X : String → zS → Prop} (h : p_X10_takeOut E a0 l1 S Q X) : zM E yX10_takeOut cX10_takeOut 3 (some .int) ({ frames := 8, cells := 2, slots := 12, locals := 132 } : Room) [.ref a0, .int l1] S (qI Q) X := by
  unfold p_X10_takeOut at h
  refine zM_of RX10 false (by decide) rfl (fun h => by cases h) (Nat.le_of_ble_eq_true rfl) ?_
  refine z_aload_n 0 dX10_takeOut_0 rfl rfl ?_
  refine z_iload_n 1 dX10_takeOut_1 rfl rfl ?_
  obtain ⟨hf25, h⟩ := h
  refine z_callVR (ci := 10) (st := []) (w_X10_bellNumbered h) hf25.1 hf25.2 (Nat.le_of_ble_eq_true rfl) rfl zw_855 zw_852 zw_854 zw_18 zw_30 zy_X10_bellNumbered rfl rfl ⟨Nat.le_of_ble_eq_true rfl, Nat.le_of_ble_eq_true rfl⟩ ⟨(Nat.le_of_ble_eq_true rfl), (Nat.le_of_ble_eq_true rfl)⟩ (Nat.le_of_ble_eq_true rfl) dX10_takeOut_2 (fun ex S1 hx => zx_out rfl ⟨rfl, hx⟩ (Nat.le_of_ble_eq_true rfl) (Nat.le_of_ble_eq_true rfl)) (fun r2 S1 h => ?_)
  refine z_widen (k' := 1) (n' := 6) (Nat.le_refl _) (Nat.le_refl _) ?_
  refine z_astore_nQ (lv' := [(2, va_rf r2), (0, .ref a0), (1, .int l1)]) dX10_takeOut_5 rfl (Nat.le_of_ble_eq_true rfl) rfl ?_
  refine z_aload_nQ 0 dX10_takeOut_6 rfl rfl ?_
  obtain ⟨b3, hb4, h⟩ := h
  rw [show va_rf r2 = Value.ref b3 from by rw [hb4]; rfl]
  obtain ⟨hf5, h⟩ := h
  refine z_getI (c := 2) (j := 0) (f := 200) hf5.1 hf5.2 (Nat.le_of_ble_eq_true rfl) rfl zU_X1 (Nat.le_of_ble_eq_true rfl) (Nat.le_of_ble_eq_true rfl) ⟨_, zw_183, Or.inl rfl⟩ rfl rfl dX10_takeOut_7 ?_
  refine z_if_eq 23 dX10_takeOut_10 (by decide) (fun c24 => ?_) (fun c24 => ?_)
  · have h := h.1 c24
    refine z_aload_n 1 dX10_takeOut_23 rfl rfl ?_
    obtain ⟨hf23, h⟩ := h
    refine z_callVV (ci := 10) (st := []) (w_X10_requireSilence h) hf23.1 hf23.2 (Nat.le_of_ble_eq_true rfl) rfl zw_630 zw_627 zw_629 zw_8 zw_30 zy_X10_requireSilence rfl rfl ⟨Nat.le_of_ble_eq_true rfl, Nat.le_of_ble_eq_true rfl⟩ ⟨(Nat.le_of_ble_eq_true rfl), (Nat.le_of_ble_eq_true rfl)⟩ (Nat.le_of_ble_eq_true rfl) dX10_takeOut_24 (fun ex S6 hx => zx_out rfl ⟨rfl, hx⟩ (Nat.le_of_ble_eq_true rfl) (Nat.le_of_ble_eq_true rfl)) (fun S6 h => ?_)
    refine z_widen (k' := 2) (n' := 12) (Nat.le_refl _) (Nat.le_refl _) ?_
    refine z_aload_n 0 dX10_takeOut_27 rfl rfl ?_
    refine z_iconst (v := 1) dX10_takeOut_28 rfl ?_
    obtain ⟨hf8, h⟩ := h
    obtain ⟨hz22, h⟩ := h
    have h := h _ rfl
    refine z_putV (c := 2) (j := 0) (ty0 := tyX1) (S' := sI S6 200 b3 1) hf8.1 hf8.2 (Nat.le_of_ble_eq_true rfl) rfl zU_X1 tyX1_ok nmX1 (Nat.le_of_ble_eq_true rfl) (Nat.le_of_ble_eq_true rfl) ⟨_, zw_183, Or.inl rfl⟩ (.inl rfl) (zbn hz22) (zbf hz22) rfl (zUpI (v := 1) hf8.2 (Nat.le_of_ble_eq_true rfl) (Nat.le_of_ble_eq_true rfl) rfl rfl) dX10_takeOut_29 ?_
    obtain ⟨S9, hS10⟩ : ∃ z, z = sI S6 200 b3 1 := ⟨_, rfl⟩
    rw [← hS10] at h ⊢
    have hf8 : b3 ∈ gL S9 ∧ gK S9 b3 = 2 := by rw [hS10]; exact hf8
    refine z_aload_n 1 dX10_takeOut_32 rfl rfl ?_
    obtain ⟨hf11, h⟩ := h
    refine z_getQ (c := 10) (j := 8) (f := 1008) hf11.1 hf11.2 (Nat.le_of_ble_eq_true rfl) rfl zU_X10 (Nat.le_of_ble_eq_true rfl) (Nat.le_of_ble_eq_true rfl) ⟨_, zw_272, Or.inl rfl⟩ rfl rfl dX10_takeOut_33 ?_
    refine z_aload_n 1 dX10_takeOut_36 rfl rfl ?_
    refine z_getQ (c := 10) (j := 7) (f := 1007) hf11.1 hf11.2 (Nat.le_of_ble_eq_true rfl) rfl zU_X10 (Nat.le_of_ble_eq_true rfl) (Nat.le_of_ble_eq_true rfl) ⟨_, zw_271, Or.inl rfl⟩ rfl rfl dX10_takeOut_37 ?_
    obtain ⟨b12, hb13, h⟩ := h
    rw [show va_rf (gR S9 1007 a0) = Value.ref b12 from by rw [hb13]; rfl]
    obtain ⟨hf21, h⟩ := h
    refine z_callVI (ci := 1) (st := [va_rf (gR S9 1008 a0)]) (w_X0_bellsOut h) hf21.1 hf21.2 (Nat.le_of_ble_eq_true rfl) rfl zw_670 zw_667 zw_668 zw_669 zw_37 zy_X0_bellsOut rfl rfl ⟨Nat.le_of_ble_eq_true rfl, Nat.le_of_ble_eq_true rfl⟩ ⟨(Nat.le_of_ble_eq_true rfl), (Nat.le_of_ble_eq_true rfl)⟩ (by generalize (gR S9 1008 a0) = z9; cases z9 <;> exact (Nat.le_of_ble_eq_true rfl)) dX10_takeOut_40 (fun _ _ hx => hx.elim) (fun r15 S14 h => ?_)
    refine z_widen (k' := 2) (n' := 12) (Nat.le_refl _) (Nat.le_refl _) ?_
    obtain ⟨b16, hb17, h⟩ := h
    rw [show va_rf (gR S9 1008 a0) = Value.ref b16 from by rw [hb17]; rfl]
    obtain ⟨hf20, h⟩ := h
    refine z_callVI (ci := 8) (st := []) (w_X7_dropUnfit h) hf20.1 hf20.2 (Nat.le_of_ble_eq_true rfl) rfl zw_678 zw_675 zw_676 zw_677 zw_39 zy_X7_dropUnfit rfl rfl ⟨Nat.le_of_ble_eq_true rfl, Nat.le_of_ble_eq_true rfl⟩ ⟨(Nat.le_of_ble_eq_true rfl), (Nat.le_of_ble_eq_true rfl)⟩ (Nat.le_of_ble_eq_true rfl) dX10_takeOut_43 (fun _ _ hx => hx.elim) (fun r19 S18 h => ?_)
    refine z_widen (k' := 2) (n' := 12) (Nat.le_refl _) (Nat.le_refl _) ?_
    exact z_ireturn ⟨rfl, _, rfl, h⟩ rfl (Nat.le_of_ble_eq_true rfl) (Nat.le_of_ble_eq_true rfl) dX10_takeOut_46
  · have h := h.2 c24
    exact z_throw (cls := "java/lang/IllegalStateException") (text := "the bell was taken out by hand already") zw_397 zw_51 zat_78 (by decide +kernel) rfl dX10_takeOut_13 dX10_takeOut_16 dX10_takeOut_17 dX10_takeOut_19 dX10_takeOut_22 rfl (Nat.le_of_ble_eq_true rfl) (Nat.le_of_ble_eq_true rfl) (Nat.le_of_ble_eq_true rfl) (Nat.le_of_ble_eq_true rfl) ⟨rfl, h⟩
set_option maxRecDepth 20000 in
set_option maxHeartbeats 4000000 in
theorem w_X10_bringIn {E : zE} {a0 : Nat} {l1 : Int32} {S : zS} {Q : Int32 → zS → Prop} {X : String → zS → Prop} (h : p_X10_bringIn E a0 l1 S Q X) : zM E yX10_bringIn cX10_bringIn 3 (some .boolean) ({ frames := 8, cells := 2, slots := 12, locals := 124 } : Room) [.ref a0, .int l1] S (qI Q) X := by
  unfold p_X10_bringIn at h
  refine zM_of RX10 false (by decide) rfl (fun h => by cases h) (Nat.le_of_ble_eq_true rfl) ?_
  refine z_aload_n 0 dX10_bringIn_0 rfl rfl ?_
  refine z_iload_n 1 dX10_bringIn_1 rfl rfl ?_
  obtain ⟨hf13, h⟩ := h
  refine z_callVR (ci := 10) (st := []) (w_X10_bellNumbered h) hf13.1 hf13.2 (Nat.le_of_ble_eq_true rfl) rfl zw_855 zw_852 zw_854 zw_18 zw_30 zy_X10_bellNumbered rfl rfl ⟨Nat.le_of_ble_eq_true rfl, Nat.le_of_ble_eq_true rfl⟩ ⟨(Nat.le_of_ble_eq_true rfl), (Nat.le_of_ble_eq_true rfl)⟩ (Nat.le_of_ble_eq_true rfl) dX10_bringIn_2 (fun ex S1 hx => zx_out rfl ⟨rfl, hx⟩ (Nat.le_of_ble_eq_true rfl) (Nat.le_of_ble_eq_true rfl)) (fun r2 S1 h => ?_)
  refine z_widen (k' := 1) (n' := 6) (Nat.le_refl _) (Nat.le_refl _) ?_
  refine z_astore_nQ (lv' := [(2, va_rf r2), (0, .ref a0), (1, .int l1)]) dX10_bringIn_5 rfl (Nat.le_of_ble_eq_true rfl) rfl ?_
  refine z_aload_nQ 0 dX10_bringIn_6 rfl rfl ?_
  obtain ⟨b3, hb4, h⟩ := h
  rw [show va_rf r2 = Value.ref b3 from by rw [hb4]; rfl]
  obtain ⟨hf5, h⟩ := h
  refine z_getI (c := 2) (j := 0) (f := 200) hf5.1 hf5.2 (Nat.le_of_ble_eq_true rfl) rfl zU_X1 (Nat.le_of_ble_eq_true rfl) (Nat.le_of_ble_eq_true rfl) ⟨_, zw_183, Or.inl rfl⟩ rfl rfl dX10_bringIn_7 ?_
  refine z_if_ne 23 dX10_bringIn_10 (by decide) (fun c12 => ?_) (fun c12 => ?_)
  · have h := h.1 c12
    refine z_aload_n 0 dX10_bringIn_23 rfl rfl ?_
    refine z_iconst (v := 0) dX10_bringIn_24 rfl ?_
    obtain ⟨hz11, h⟩ := h
    have h := h _ rfl
    refine z_putV (c := 2) (j := 0) (ty0 := tyX1) (S' := sI S1 200 b3 0) hf5.1 hf5.2 (Nat.le_of_ble_eq_true rfl) rfl zU_X1 tyX1_ok nmX1 (Nat.le_of_ble_eq_true rfl) (Nat.le_of_ble_eq_true rfl) ⟨_, zw_183, Or.inl rfl⟩ (.inl rfl) (zbn hz11) (zbf hz11) rfl (zUpI (v := 0) hf5.2 (Nat.le_of_ble_eq_true rfl) (Nat.le_of_ble_eq_true rfl) rfl rfl) dX10_bringIn_25 ?_
    obtain ⟨S6, hS7⟩ : ∃ z, z = sI S1 200 b3 0 := ⟨_, rfl⟩
    rw [← hS7] at h ⊢
    have hf5 : b3 ∈ gL S6 ∧ gK S6 b3 = 2 := by rw [hS7]; exact hf5
    refine z_aload_n 0 dX10_bringIn_28 rfl rfl ?_
    refine z_callVI (ci := 2) (st := []) (w_X1_isUsable h) hf5.1 hf5.2 (Nat.le_of_ble_eq_true rfl) rfl zw_674 zw_865 zw_672 zw_673 zw_38 zy_X1_isUsable rfl rfl ⟨Nat.le_of_ble_eq_true rfl, Nat.le_of_ble_eq_true rfl⟩ ⟨(Nat.le_of_ble_eq_true rfl), (Nat.le_of_ble_eq_true rfl)⟩ (Nat.le_of_ble_eq_true rfl) dX10_bringIn_29 (fun _ _ hx => hx.elim) (fun r9 S8 h => ?_)
    refine z_widen (k' := 1) (n' := 6) (Nat.le_refl _) (Nat.le_refl _) ?_
    obtain ⟨hz10, h⟩ := h
    exact z_zreturn ⟨rfl, _, rfl, h⟩ rfl (zbn hz10) (Nat.le_of_ble_eq_true rfl) (Nat.le_of_ble_eq_true rfl) dX10_bringIn_32
  · have h := h.2 c12
    exact z_throw (cls := "java/lang/IllegalStateException") (text := "the bell was not taken out by hand") zw_397 zw_51 zat_78 (by decide +kernel) rfl dX10_bringIn_13 dX10_bringIn_16 dX10_bringIn_17 dX10_bringIn_19 dX10_bringIn_22 rfl (Nat.le_of_ble_eq_true rfl) (Nat.le_of_ble_eq_true rfl) (Nat.le_of_ble_eq_true rfl) (Nat.le_of_ble_eq_true rfl) ⟨rfl, h⟩
set_option maxRecDepth 20000 in
set_option maxHeartbeats 4000000 in
theorem w_X10_mend {E : zE} {a0 : Nat} {l1 : Int32} {l2 : Int32} {S : zS} {Q : Int32 → zS → Prop} {X : String → zS → Prop} (h : p_X10_mend E a0 l1 l2 S Q X) : zM E yX10_mend cX10_mend 4 (some .int) ({ frames := 8, cells := 3, slots := 18, locals := 124 } : Room) [.ref a0, .int l1, .int l2] S (qI Q) X := by
  unfold p_X10_mend at h
  refine zM_of RX10 false (by decide) rfl (fun h => by cases h) (Nat.le_of_ble_eq_true rfl) ?_
  refine z_aload_n 0 dX10_mend_0 rfl rfl ?_
  refine z_iload_n 1 dX10_mend_1 rfl rfl ?_
  obtain ⟨hf13, h⟩ := h
  refine z_callVR (ci := 10) (st := []) (w_X10_bellNumbered h) hf13.1 hf13.2 (Nat.le_of_ble_eq_true rfl) rfl zw_855 zw_852 zw_854 zw_18 zw_30 zy_X10_bellNumbered rfl rfl ⟨Nat.le_of_ble_eq_true rfl, Nat.le_of_ble_eq_true rfl⟩ ⟨(Nat.le_of_ble_eq_true rfl), (Nat.le_of_ble_eq_true rfl)⟩ (Nat.le_of_ble_eq_true rfl) dX10_mend_2 (fun ex S1 hx => zx_out rfl ⟨rfl, hx⟩ (Nat.le_of_ble_eq_true rfl) (Nat.le_of_ble_eq_true rfl)) (fun r2 S1 h => ?_)
  refine z_widen (k' := 1) (n' := 6) (Nat.le_refl _) (Nat.le_refl _) ?_
  refine z_astore_nQ (lv' := [(3, va_rf r2), (0, .ref a0), (1, .int l1), (2, .int l2)]) dX10_mend_5 rfl (Nat.le_of_ble_eq_true rfl) rfl ?_
  refine z_iload_n 3 dX10_mend_6 rfl rfl ?_
  refine z_iconst (v := 0) dX10_mend_7 rfl ?_
  refine z_iconst (v := 1) dX10_mend_8 rfl ?_
  refine z_callSV (st := []) (w_X10_requireRange h) zw_328 zw_326 zw_327 zw_30 zy_X10_requireRange rfl rfl ⟨Nat.le_of_ble_eq_true rfl, Nat.le_of_ble_eq_true rfl⟩ ⟨(Nat.le_of_ble_eq_true rfl), (Nat.le_of_ble_eq_true rfl)⟩ (Nat.le_of_ble_eq_true rfl) dX10_mend_9 (fun ex S3 hx => zx_out rfl ⟨rfl, hx⟩ (Nat.le_of_ble_eq_true rfl) (Nat.le_of_ble_eq_true rfl)) (fun S3 h => ?_)
  refine z_widen (k' := 2) (n' := 12) (Nat.le_refl _) (Nat.le_refl _) ?_
  refine z_aload_n 1 dX10_mend_12 rfl rfl ?_
  obtain ⟨hf12, h⟩ := h
  refine z_callVV (ci := 10) (st := []) (w_X10_requireSilence h) hf12.1 hf12.2 (Nat.le_of_ble_eq_true rfl) rfl zw_630 zw_627 zw_629 zw_8 zw_30 zy_X10_requireSilence rfl rfl ⟨Nat.le_of_ble_eq_true rfl, Nat.le_of_ble_eq_true rfl⟩ ⟨(Nat.le_of_ble_eq_true rfl), (Nat.le_of_ble_eq_true rfl)⟩ (Nat.le_of_ble_eq_true rfl) dX10_mend_13 (fun ex S5 hx => zx_out rfl ⟨rfl, hx⟩ (Nat.le_of_ble_eq_true rfl) (Nat.le_of_ble_eq_true rfl)) (fun S5 h => ?_)
  refine z_widen (k' := 3) (n' := 18) (Nat.le_refl _) (Nat.le_refl _) ?_
  refine z_aload_nQ 0 dX10_mend_16 rfl rfl ?_
  refine z_iload_n 3 dX10_mend_17 rfl rfl ?_
  obtain ⟨b7, hb8, h⟩ := h
  rw [show va_rf r2 = Value.ref b7 from by rw [hb8]; rfl]
  obtain ⟨hf11, h⟩ := h
  refine z_callVI (ci := 2) (st := []) (w_X1_renew h) hf11.1 hf11.2 (Nat.le_of_ble_eq_true rfl) rfl zw_876 zw_873 zw_874 zw_875 zw_38 zy_X1_renew rfl rfl ⟨Nat.le_of_ble_eq_true rfl, Nat.le_of_ble_eq_true rfl⟩ ⟨(Nat.le_of_ble_eq_true rfl), (Nat.le_of_ble_eq_true rfl)⟩ (Nat.le_of_ble_eq_true rfl) dX10_mend_18 (fun _ _ hx => hx.elim) (fun r10 S9 h => ?_)
  refine z_widen (k' := 3) (n' := 18) (Nat.le_refl _) (Nat.le_refl _) ?_
  exact z_ireturn ⟨rfl, _, rfl, h⟩ rfl (Nat.le_of_ble_eq_true rfl) (Nat.le_of_ble_eq_true rfl) dX10_mend_21
set_option maxRecDepth 20000 in
set_option maxHeartbeats 4000000 in
theorem w_X10_wear {E : zE} {a0 : Nat} {l1 : Int32} {l2 : Int32} {S : zS} {Q : Int32 → zS → Prop} {X : String → zS → Prop} (h : p_X10_wear E a0 l1 l2 S Q X) : zM E yX10_wear cX10_wear 4 (some .int) ({ frames := 8, cells := 2, slots := 12, locals := 124 } : Room) [.ref a0, .int l1, .int l2] S (qI Q) X := by
  unfold p_X10_wear at h
  refine zM_of RX10 false (by decide) rfl (fun h => by cases h) (Nat.le_of_ble_eq_true rfl) ?_
  refine z_aload_n 0 dX10_wear_0 rfl rfl ?_
  refine z_iload_n 1 dX10_wear_1 rfl rfl ?_
  obtain ⟨hf13, h⟩ := h
  refine z_callVR (ci := 10) (st := []) (w_X10_bellNumbered h) hf13.1 hf13.2 (Nat.le_of_ble_eq_true rfl) rfl zw_855 zw_852 zw_854 zw_18 zw_30 zy_X10_bellNumbered rfl rfl ⟨Nat.le_of_ble_eq_true rfl, Nat.le_of_ble_eq_true rfl⟩ ⟨(Nat.le_of_ble_eq_true rfl), (Nat.le_of_ble_eq_true rfl)⟩ (Nat.le_of_ble_eq_true rfl) dX10_wear_2 (fun ex S1 hx => zx_out rfl ⟨rfl, hx⟩ (Nat.le_of_ble_eq_true rfl) (Nat.le_of_ble_eq_true rfl)) (fun r2 S1 h => ?_)
  refine z_widen (k' := 1) (n' := 6) (Nat.le_refl _) (Nat.le_refl _) ?_
  refine z_astore_nQ (lv' := [(3, va_rf r2), (0, .ref a0), (1, .int l1), (2, .int l2)]) dX10_wear_5 rfl (Nat.le_of_ble_eq_true rfl) rfl ?_
  refine z_iload_n 3 dX10_wear_6 rfl rfl ?_
  refine z_iconst (v := 0) dX10_wear_7 rfl ?_
  refine z_iconst (v := 1) dX10_wear_8 rfl ?_
  refine z_callSV (st := []) (w_X10_requireRange h) zw_328 zw_326 zw_327 zw_30 zy_X10_requireRange rfl rfl ⟨Nat.le_of_ble_eq_true rfl, Nat.le_of_ble_eq_true rfl⟩ ⟨(Nat.le_of_ble_eq_true rfl), (Nat.le_of_ble_eq_true rfl)⟩ (Nat.le_of_ble_eq_true rfl) dX10_wear_9 (fun ex S3 hx => zx_out rfl ⟨rfl, hx⟩ (Nat.le_of_ble_eq_true rfl) (Nat.le_of_ble_eq_true rfl)) (fun S3 h => ?_)
  refine z_widen (k' := 2) (n' := 12) (Nat.le_refl _) (Nat.le_refl _) ?_
  refine z_aload_nQ 0 dX10_wear_12 rfl rfl ?_
  obtain ⟨b5, hb6, h⟩ := h
  rw [show va_rf r2 = Value.ref b5 from by rw [hb6]; rfl]
  obtain ⟨hf7, h⟩ := h
  refine z_getQ (c := 2) (j := 5) (f := 205) hf7.1 hf7.2 (Nat.le_of_ble_eq_true rfl) rfl zU_X1 (Nat.le_of_ble_eq_true rfl) (Nat.le_of_ble_eq_true rfl) ⟨_, zw_194, Or.inl rfl⟩ rfl rfl dX10_wear_13 ?_
  refine z_iload_n 3 dX10_wear_16 rfl rfl ?_
  obtain ⟨b8, hb9, h⟩ := h
  rw [show va_rf (gR S3 205 b5) = Value.ref b8 from by rw [hb9]; rfl]
  obtain ⟨hf10, h⟩ := h
  obtain ⟨j11, hj12, h⟩ := h
  refine z_iald (j := j11) hf10.1 hf10.2 hj12.1 hj12.2.1 hj12.2.2 dX10_wear_17 ?_
  exact z_ireturn ⟨rfl, _, rfl, h⟩ rfl (Nat.le_of_ble_eq_true rfl) (Nat.le_of_ble_eq_true rfl) dX10_wear_18
set_option maxRecDepth 20000 in
set_option maxHeartbeats 4000000 in
theorem w_X10_isIn {E : zE} {a0 : Nat} {l1 : Int32} {S : zS} {Q : Int32 → zS → Prop} {X : String → zS → Prop} (h : p_X10_isIn E a0 l1 S Q X) : zM E yX10_isIn cX10_isIn 2 (some .boolean) ({ frames := 8, cells := 1, slots := 6, locals := 124 } : Room) [.ref a0, .int l1] S (qI Q) X := by
  unfold p_X10_isIn at h
  refine zM_of RX10 false (by decide) rfl (fun h => by cases h) (Nat.le_of_ble_eq_true rfl) ?_
  refine z_aload_n 0 dX10_isIn_0 rfl rfl ?_
  refine z_iload_n 1 dX10_isIn_1 rfl rfl ?_
  obtain ⟨hf9, h⟩ := h
  refine z_callVR (ci := 10) (st := []) (w_X10_bellNumbered h) hf9.1 hf9.2 (Nat.le_of_ble_eq_true rfl) rfl zw_855 zw_852 zw_854 zw_18 zw_30 zy_X10_bellNumbered rfl rfl ⟨Nat.le_of_ble_eq_true rfl, Nat.le_of_ble_eq_true rfl⟩ ⟨(Nat.le_of_ble_eq_true rfl), (Nat.le_of_ble_eq_true rfl)⟩ (Nat.le_of_ble_eq_true rfl) dX10_isIn_2 (fun ex S1 hx => zx_out rfl ⟨rfl, hx⟩ (Nat.le_of_ble_eq_true rfl) (Nat.le_of_ble_eq_true rfl)) (fun r2 S1 h => ?_)
  refine z_widen (k' := 1) (n' := 6) (Nat.le_refl _) (Nat.le_refl _) ?_
  obtain ⟨b3, hb4, h⟩ := h
  rw [show va_rf r2 = Value.ref b3 from by rw [hb4]; rfl]
  obtain ⟨hf8, h⟩ := h
  refine z_callVI (ci := 2) (st := []) (w_X1_isUsable h) hf8.1 hf8.2 (Nat.le_of_ble_eq_true rfl) rfl zw_674 zw_865 zw_672 zw_673 zw_38 zy_X1_isUsable rfl rfl ⟨Nat.le_of_ble_eq_true rfl, Nat.le_of_ble_eq_true rfl⟩ ⟨(Nat.le_of_ble_eq_true rfl), (Nat.le_of_ble_eq_true rfl)⟩ (Nat.le_of_ble_eq_true rfl) dX10_isIn_5 (fun _ _ hx => hx.elim) (fun r6 S5 h => ?_)
  refine z_widen (k' := 1) (n' := 6) (Nat.le_refl _) (Nat.le_refl _) ?_
  obtain ⟨hz7, h⟩ := h
  exact z_zreturn ⟨rfl, _, rfl, h⟩ rfl (zbn hz7) (Nat.le_of_ble_eq_true rfl) (Nat.le_of_ble_eq_true rfl) dX10_isIn_8
set_option maxRecDepth 20000 in
set_option maxHeartbeats 4000000 in
theorem w_X10_setBand {E : zE} {a0 : Nat} {l1 : Int32} {l2 : Int32} {S : zS} {Q : Int32 → zS → Prop} {X : String → zS → Prop} (h : p_X10_setBand E a0 l1 l2 S Q X) : zM E yX10_setBand cX10_setBand 4 (some .int) ({ frames := 7, cells := 2, slots := 12, locals := 104 } : Room) [.ref a0, .int l1, .int l2] S (qI Q) X := by
  unfold p_X10_setBand at h
  refine zM_of RX10 false (by decide) rfl (fun h => by cases h) (Nat.le_of_ble_eq_true rfl) ?_
  refine z_iload_n 1 dX10_setBand_0 rfl rfl ?_
  refine z_iconst (v := 4) dX10_setBand_1 rfl ?_
  refine z_callSV (st := []) (w_X10_requireIndex h) zw_587 zw_585 zw_586 zw_30 zy_X10_requireIndex rfl rfl ⟨Nat.le_of_ble_eq_true rfl, Nat.le_of_ble_eq_true rfl⟩ ⟨(Nat.le_of_ble_eq_true rfl), (Nat.le_of_ble_eq_true rfl)⟩ (Nat.le_of_ble_eq_true rfl) dX10_setBand_2 (fun ex S1 hx => zx_out rfl ⟨rfl, hx⟩ (Nat.le_of_ble_eq_true rfl) (Nat.le_of_ble_eq_true rfl)) (fun S1 h => ?_)
  refine z_widen (k' := 1) (n' := 6) (Nat.le_refl _) (Nat.le_refl _) ?_
  refine z_iload_n 2 dX10_setBand_5 rfl rfl ?_
  refine z_iconst (v := 4) dX10_setBand_6 rfl ?_
  refine z_bipush (v := 6) dX10_setBand_7 rfl ?_
  refine z_callSV (st := []) (w_X10_requireRange h) zw_328 zw_326 zw_327 zw_30 zy_X10_requireRange rfl rfl ⟨Nat.le_of_ble_eq_true rfl, Nat.le_of_ble_eq_true rfl⟩ ⟨(Nat.le_of_ble_eq_true rfl), (Nat.le_of_ble_eq_true rfl)⟩ (Nat.le_of_ble_eq_true rfl) dX10_setBand_9 (fun ex S3 hx => zx_out rfl ⟨rfl, hx⟩ (Nat.le_of_ble_eq_true rfl) (Nat.le_of_ble_eq_true rfl)) (fun S3 h => ?_)
  refine z_widen (k' := 2) (n' := 12) (Nat.le_refl _) (Nat.le_refl _) ?_
  refine z_aload_n 0 dX10_setBand_12 rfl rfl ?_
  obtain ⟨hf5, h⟩ := h
  refine z_getQ (c := 10) (j := 8) (f := 1008) hf5.1 hf5.2 (Nat.le_of_ble_eq_true rfl) rfl zU_X10 (Nat.le_of_ble_eq_true rfl) (Nat.le_of_ble_eq_true rfl) ⟨_, zw_272, Or.inl rfl⟩ rfl rfl dX10_setBand_13 ?_
  obtain ⟨b6, hb7, h⟩ := h
  rw [show va_rf (gR S3 1008 a0) = Value.ref b6 from by rw [hb7]; rfl]
  obtain ⟨hf8, h⟩ := h
  refine z_getQ (c := 8) (j := 0) (f := 800) hf8.1 hf8.2 (Nat.le_of_ble_eq_true rfl) rfl zU_X7 (Nat.le_of_ble_eq_true rfl) (Nat.le_of_ble_eq_true rfl) ⟨_, zw_242, Or.inl rfl⟩ rfl rfl dX10_setBand_16 ?_
  refine z_iload_n 1 dX10_setBand_19 rfl rfl ?_
  obtain ⟨b9, hb10, h⟩ := h
  rw [show va_rf (gR S3 800 b6) = Value.ref b9 from by rw [hb10]; rfl]
  obtain ⟨hf11, h⟩ := h
  obtain ⟨j12, hj13, h⟩ := h
  refine z_iald (j := j12) hf11.1 hf11.2 hj13.1 hj13.2.1 hj13.2.2 dX10_setBand_20 ?_
  refine z_istore_n (lv' := [(3, .int (gA S3 b9 j12)), (0, .ref a0), (1, .int l1), (2, .int l2)]) dX10_setBand_21 rfl (Nat.le_of_ble_eq_true rfl) rfl ?_
  refine z_aload_n 1 dX10_setBand_22 rfl rfl ?_
  refine z_getQ (c := 10) (j := 8) (f := 1008) hf5.1 hf5.2 (Nat.le_of_ble_eq_true rfl) rfl zU_X10 (Nat.le_of_ble_eq_true rfl) (Nat.le_of_ble_eq_true rfl) ⟨_, zw_272, Or.inl rfl⟩ rfl rfl dX10_setBand_23 ?_
  obtain ⟨b14, hb15, h⟩ := h
  rw [show va_rf (gR S3 1008 a0) = Value.ref b14 from by rw [hb15]; rfl]
  obtain ⟨hf16, h⟩ := h
  refine z_getQ (c := 8) (j := 0) (f := 800) hf16.1 hf16.2 (Nat.le_of_ble_eq_true rfl) rfl zU_X7 (Nat.le_of_ble_eq_true rfl) (Nat.le_of_ble_eq_true rfl) ⟨_, zw_242, Or.inl rfl⟩ rfl rfl dX10_setBand_26 ?_
  refine z_iload_n 2 dX10_setBand_29 rfl rfl ?_
  refine z_iload_n 3 dX10_setBand_30 rfl rfl ?_
  obtain ⟨b17, hb18, h⟩ := h
  rw [show va_rf (gR S3 800 b14) = Value.ref b17 from by rw [hb18]; rfl]
  obtain ⟨hf19, h⟩ := h
  obtain ⟨j20, hj21, h⟩ := h
  have h := h _ rfl
  refine z_iast (j := j20) hf19.1 hf19.2 hj21.1 hj21.2.1 hj21.2.2 dX10_setBand_31 ?_
  obtain ⟨S22, hS23⟩ : ∃ z, z = sA S3 b17 j20 l2 := ⟨_, rfl⟩
  rw [← hS23] at h ⊢
  have hf5 : a0 ∈ gL S22 ∧ gK S22 a0 = 10 := by rw [hS23]; exact hf5
  have hf16 : b14 ∈ gL S22 ∧ gK S22 b14 = 8 := by rw [hS23]; exact hf16
  have hf19 : b17 ∈ gL S22 ∧ gK S22 b17 = 12 := by rw [hS23]; exact hf19
  have hf8 : b6 ∈ gL S22 ∧ gK S22 b6 = 8 := by rw [hS23]; exact hf8
  have hf11 : b9 ∈ gL S22 ∧ gK S22 b9 = 12 := by rw [hS23]; exact hf11
  refine z_iload_n 0 dX10_setBand_32 rfl rfl ?_
  exact z_ireturn ⟨rfl, _, rfl, h⟩ rfl (Nat.le_of_ble_eq_true rfl) (Nat.le_of_ble_eq_true rfl) dX10_setBand_33
set_option maxRecDepth 20000 in
set_option maxHeartbeats 4000000 in
theorem w_X10_dayAt {E : zE} {a0 : Nat} {l1 : Int32} {S : zS} {Q : Option Nat → zS → Prop} {X : String → zS → Prop} (h : p_X10_dayAt E a0 l1 S Q X) : zM E yX10_dayAt cX10_dayAt 2 (some (.object "GrandsireLoft$Day")) ({ frames := 7, cells := 1, slots := 6, locals := 104 } : Room) [.ref a0, .int l1] S (qR Q) X := by
  unfold p_X10_dayAt at h
  refine zM_of RX10 false (by decide) rfl (fun h => by cases h) (Nat.le_of_ble_eq_true rfl) ?_
  refine z_iload_n 1 dX10_dayAt_0 rfl rfl ?_
  refine z_aload_n 0 dX10_dayAt_1 rfl rfl ?_
  obtain ⟨hf1, h⟩ := h
  refine z_getQ (c := 10) (j := 8) (f := 1008) hf1.1 hf1.2 (Nat.le_of_ble_eq_true rfl) rfl zU_X10 (Nat.le_of_ble_eq_true rfl) (Nat.le_of_ble_eq_true rfl) ⟨_, zw_272, Or.inl rfl⟩ rfl rfl dX10_dayAt_2 ?_
  obtain ⟨b2, hb3, h⟩ := h
  rw [show va_rf (gR S 1008 a0) = Value.ref b2 from by rw [hb3]; rfl]
  obtain ⟨hf4, h⟩ := h
  refine z_getI (c := 8) (j := 2) (f := 802) hf4.1 hf4.2 (Nat.le_of_ble_eq_true rfl) rfl zU_X7 (Nat.le_of_ble_eq_true rfl) (Nat.le_of_ble_eq_true rfl) ⟨_, zw_246, Or.inl rfl⟩ rfl rfl dX10_dayAt_5 ?_
  refine z_bipush (v := 60) dX10_dayAt_8 rfl ?_
  refine z_callSV (st := []) (w_X10_requireRange h) zw_328 zw_326 zw_327 zw_30 zy_X10_requireRange rfl rfl ⟨Nat.le_of_ble_eq_true rfl, Nat.le_of_ble_eq_true rfl⟩ ⟨(Nat.le_of_ble_eq_true rfl), (Nat.le_of_ble_eq_true rfl)⟩ (Nat.le_of_ble_eq_true rfl) dX10_dayAt_10 (fun ex S5 hx => zx_out rfl ⟨rfl, hx⟩ (Nat.le_of_ble_eq_true rfl) (Nat.le_of_ble_eq_true rfl)) (fun S5 h => ?_)
  refine z_widen (k' := 1) (n' := 6) (Nat.le_refl _) (Nat.le_refl _) ?_
  refine z_aload_n 0 dX10_dayAt_13 rfl rfl ?_
  obtain ⟨hf7, h⟩ := h
  refine z_getQ (c := 10) (j := 8) (f := 1008) hf7.1 hf7.2 (Nat.le_of_ble_eq_true rfl) rfl zU_X10 (Nat.le_of_ble_eq_true rfl) (Nat.le_of_ble_eq_true rfl) ⟨_, zw_272, Or.inl rfl⟩ rfl rfl dX10_dayAt_14 ?_
  obtain ⟨b8, hb9, h⟩ := h
  rw [show va_rf (gR S5 1008 a0) = Value.ref b8 from by rw [hb9]; rfl]
  obtain ⟨hf10, h⟩ := h
  refine z_getQ (c := 8) (j := 1) (f := 801) hf10.1 hf10.2 (Nat.le_of_ble_eq_true rfl) rfl zU_X7 (Nat.le_of_ble_eq_true rfl) (Nat.le_of_ble_eq_true rfl) ⟨_, zw_244, Or.inl rfl⟩ rfl rfl dX10_dayAt_17 ?_
  refine z_iload_n 1 dX10_dayAt_20 rfl rfl ?_
  obtain ⟨b11, hb12, h⟩ := h
  rw [show va_rf (gR S5 801 b8) = Value.ref b11 from by rw [hb12]; rfl]
  obtain ⟨hf13, h⟩ := h
  obtain ⟨j14, hj15, h⟩ := h
  refine z_aald (j := j14) hf13.1 rfl hf13.2.1 hf13.2.2 hj15.1 hj15.2.1 hj15.2.2 dX10_dayAt_21 ?_
  exact z_areturn (v := va_rf (gQ S5 b11 j14)) ⟨rfl, _, rfl, h⟩ rfl (.inl ⟨_, rfl⟩) (va_rf_or _) (Nat.le_of_ble_eq_true rfl) (Nat.le_of_ble_eq_true rfl) dX10_dayAt_22
set_option maxRecDepth 20000 in
set_option maxHeartbeats 4000000 in
theorem w_X10_plan {E : zE} {a0 : Nat} {l1 : Int32} {l2 : Int32} {S : zS} {Q : Int32 → zS → Prop} {X : String → zS → Prop} (h : p_X10_plan E a0 l1 l2 S Q X) : zM E yX10_plan cX10_plan 5 (some .int) ({ frames := 8, cells := 3, slots := 34, locals := 171 } : Room) [.ref a0, .int l1, .int l2] S (qI Q) X := by
  unfold p_X10_plan at h
  refine zM_of RX10 false (by decide) rfl (fun h => by cases h) (Nat.le_of_ble_eq_true rfl) ?_
  refine z_aload_n 0 dX10_plan_0 rfl rfl ?_
  refine z_iload_n 2 dX10_plan_1 rfl rfl ?_
  obtain ⟨hf36, h⟩ := h
  refine z_callVR (ci := 10) (st := []) (w_X10_touchAt h) hf36.1 hf36.2 (Nat.le_of_ble_eq_true rfl) rfl zw_894 zw_891 zw_893 zw_19 zw_30 zy_X10_touchAt rfl rfl ⟨Nat.le_of_ble_eq_true rfl, Nat.le_of_ble_eq_true rfl⟩ ⟨(Nat.le_of_ble_eq_true rfl), (Nat.le_of_ble_eq_true rfl)⟩ (Nat.le_of_ble_eq_true rfl) dX10_plan_2 (fun ex S1 hx => zx_out rfl ⟨rfl, hx⟩ (Nat.le_of_ble_eq_true rfl) (Nat.le_of_ble_eq_true rfl)) (fun r2 S1 h => ?_)
  refine z_widen (k' := 1) (n' := 6) (Nat.le_refl _) (Nat.le_refl _) ?_
  refine z_astore_nQ (lv' := [(3, va_rf r2), (0, .ref a0), (1, .int l1), (2, .int l2)]) dX10_plan_5 rfl (Nat.le_of_ble_eq_true rfl) rfl ?_
  refine z_aload_n 1 dX10_plan_6 rfl rfl ?_
  refine z_iload_n 2 dX10_plan_7 rfl rfl ?_
  obtain ⟨hf35, h⟩ := h
  refine z_callVR (ci := 10) (st := []) (w_X10_dayAt h) hf35.1 hf35.2 (Nat.le_of_ble_eq_true rfl) rfl zw_898 zw_895 zw_897 zw_20 zw_30 zy_X10_dayAt rfl rfl ⟨Nat.le_of_ble_eq_true rfl, Nat.le_of_ble_eq_true rfl⟩ ⟨(Nat.le_of_ble_eq_true rfl), (Nat.le_of_ble_eq_true rfl)⟩ (Nat.le_of_ble_eq_true rfl) dX10_plan_8 (fun ex S3 hx => zx_out rfl ⟨rfl, hx⟩ (Nat.le_of_ble_eq_true rfl) (Nat.le_of_ble_eq_true rfl)) (fun r4 S3 h => ?_)
  refine z_widen (k' := 2) (n' := 12) (Nat.le_refl _) (Nat.le_refl _) ?_
  refine z_astoreQ (lv' := [(4, va_rf r4), (3, va_rf r2), (0, .ref a0), (1, .int l1), (2, .int l2)]) dX10_plan_11 (Nat.le_of_ble_eq_true rfl) (by generalize r2 = z9; cases z9 <;> rfl) ?_
  refine z_aloadQ 0 dX10_plan_13 rfl ?_
  refine z_aload_nQ 1 dX10_plan_15 rfl rfl ?_
  obtain ⟨b5, hb6, h⟩ := h
  rw [show va_rf r4 = Value.ref b5 from by rw [hb6]; rfl]
  obtain ⟨b7, hb8, h⟩ := h
  rw [show va_rf r2 = Value.ref b7 from by rw [hb8]; rfl]
  obtain ⟨hf34, h⟩ := h
  refine z_callVI (ci := 4) (st := []) (w_X3_takesTouch h) hf34.1 hf34.2 (Nat.le_of_ble_eq_true rfl) rfl zw_902 zw_899 zw_900 zw_901 zw_40 zy_X3_takesTouch rfl rfl ⟨Nat.le_of_ble_eq_true rfl, Nat.le_of_ble_eq_true rfl⟩ ⟨(Nat.le_of_ble_eq_true rfl), (Nat.le_of_ble_eq_true rfl)⟩ (Nat.le_of_ble_eq_true rfl) dX10_plan_16 (fun _ _ hx => hx.elim) (fun r10 S9 h => ?_)
  refine z_widen (k' := 2) (n' := 12) (Nat.le_refl _) (Nat.le_refl _) ?_
  refine z_if_eq 36 dX10_plan_19 (by decide) (fun c33 => ?_) (fun c33 => ?_)
  · have h := h.1 c33
    exact z_throwW (cls := "java/lang/IllegalStateException") (text := "the touch can't be planned for this day") zw_397 zw_51 zat_78 (by decide +kernel) rfl dX10_plan_36 dX10_plan_39 dX10_plan_40 dX10_plan_43 dX10_plan_46 rfl (Nat.le_of_ble_eq_true rfl) (Nat.le_of_ble_eq_true rfl) (Nat.le_of_ble_eq_true rfl) (Nat.le_of_ble_eq_true rfl) ⟨rfl, h⟩
  · have h := h.2 c33
    refine z_aload_n 1 dX10_plan_22 rfl rfl ?_
    refine z_aload_n 2 dX10_plan_23 rfl rfl ?_
    obtain ⟨hf11, h⟩ := h
    refine z_getQ (c := 10) (j := 7) (f := 1007) hf11.1 hf11.2 (Nat.le_of_ble_eq_true rfl) rfl zU_X10 (Nat.le_of_ble_eq_true rfl) (Nat.le_of_ble_eq_true rfl) ⟨_, zw_271, Or.inl rfl⟩ rfl rfl dX10_plan_24 ?_
    obtain ⟨b12, hb13, h⟩ := h
    rw [show va_rf (gR S9 1007 a0) = Value.ref b12 from by rw [hb13]; rfl]
    obtain ⟨hf32, h⟩ := h
    refine z_callVI (ci := 1) (st := [.ref b7]) (w_X0_bellsOut h) hf32.1 hf32.2 (Nat.le_of_ble_eq_true rfl) rfl zw_670 zw_667 zw_668 zw_669 zw_37 zy_X0_bellsOut rfl rfl ⟨Nat.le_of_ble_eq_true rfl, Nat.le_of_ble_eq_true rfl⟩ ⟨(Nat.le_of_ble_eq_true rfl), (Nat.le_of_ble_eq_true rfl)⟩ (Nat.le_of_ble_eq_true rfl) dX10_plan_27 (fun _ _ hx => hx.elim) (fun r15 S14 h => ?_)
    refine z_widen (k' := 2) (n' := 12) (Nat.le_refl _) (Nat.le_refl _) ?_
    obtain ⟨hf31, h⟩ := h
    refine z_callVI (ci := 9) (st := []) (w_X9_isFit h) hf31.1 hf31.2 (Nat.le_of_ble_eq_true rfl) rfl zw_689 zw_907 zw_687 zw_688 zw_36 zy_X9_isFit rfl rfl ⟨Nat.le_of_ble_eq_true rfl, Nat.le_of_ble_eq_true rfl⟩ ⟨(Nat.le_of_ble_eq_true rfl), (Nat.le_of_ble_eq_true rfl)⟩ (Nat.le_of_ble_eq_true rfl) dX10_plan_30 (fun _ _ hx => hx.elim) (fun r17 S16 h => ?_)
    refine z_widen (k' := 2) (n' := 12) (Nat.le_refl _) (Nat.le_refl _) ?_
    refine z_if_ne 47 dX10_plan_33 (by decide) (fun c30 => ?_) (fun c30 => ?_)
    · have h := h.1 c30
      refine z_aload 0 dX10_plan_47 rfl ?_
      obtain ⟨hf18, h⟩ := h
      refine z_getQ (c := 4) (j := 0) (f := 400) hf18.1 hf18.2 (Nat.le_of_ble_eq_true rfl) rfl zU_X3 (Nat.le_of_ble_eq_true rfl) (Nat.le_of_ble_eq_true rfl) ⟨_, zw_237, Or.inl rfl⟩ rfl rfl dX10_plan_49 ?_
      refine z_aload_n 1 dX10_plan_52 rfl rfl ?_
      obtain ⟨b19, hb20, h⟩ := h
      rw [show va_rf (gR S16 400 b5) = Value.ref b19 from by rw [hb20]; rfl]
      obtain ⟨hf29, h⟩ := h
      refine z_callVI (ci := 0) (st := []) (w_Jx4a65c_add_9ea2d h) hf29.1 hf29.2 (Nat.le_of_ble_eq_true rfl) rfl zw_508 zw_505 zw_506 zw_507 zw_33 zy_Jx4a65c_add_9ea2d rfl rfl ⟨Nat.le_of_ble_eq_true rfl, Nat.le_of_ble_eq_true rfl⟩ ⟨(Nat.le_of_ble_eq_true rfl), (Nat.le_of_ble_eq_true rfl)⟩ (Nat.le_of_ble_eq_true rfl) dX10_plan_53 (fun _ _ hx => hx.elim) (fun r22 S21 h => ?_)
      refine z_widen (k' := 3) (n' := 34) (Nat.le_refl _) (Nat.le_refl _) ?_
      refine z_pop dX10_plan_56 rfl ?_
      refine z_aload 0 dX10_plan_57 rfl ?_
      obtain ⟨hf23, h⟩ := h
      refine z_getQ (c := 4) (j := 0) (f := 400) hf23.1 hf23.2 (Nat.le_of_ble_eq_true rfl) rfl zU_X3 (Nat.le_of_ble_eq_true rfl) (Nat.le_of_ble_eq_true rfl) ⟨_, zw_237, Or.inl rfl⟩ rfl rfl dX10_plan_59 ?_
      obtain ⟨b24, hb25, h⟩ := h
      rw [show va_rf (gR S21 400 b5) = Value.ref b24 from by rw [hb25]; rfl]
      obtain ⟨hf28, h⟩ := h
      refine z_callVI (ci := 0) (st := []) (w_Jx4a65c_size_8abf5 h) hf28.1 hf28.2 (Nat.le_of_ble_eq_true rfl) rfl zw_423 zw_420 zw_421 zw_422 zw_33 zy_Jx4a65c_size_8abf5 rfl rfl ⟨Nat.le_of_ble_eq_true rfl, Nat.le_of_ble_eq_true rfl⟩ ⟨(Nat.le_of_ble_eq_true rfl), (Nat.le_of_ble_eq_true rfl)⟩ (Nat.le_of_ble_eq_true rfl) dX10_plan_62 (fun _ _ hx => hx.elim) (fun r27 S26 h => ?_)
      refine z_widen (k' := 3) (n' := 34) (Nat.le_refl _) (Nat.le_refl _) ?_
      exact z_ireturn ⟨rfl, _, rfl, h⟩ rfl (Nat.le_of_ble_eq_true rfl) (Nat.le_of_ble_eq_true rfl) dX10_plan_65
    · have h := h.2 c30
      exact z_throwW (cls := "java/lang/IllegalStateException") (text := "the touch can't be planned for this day") zw_397 zw_51 zat_78 (by decide +kernel) rfl dX10_plan_36 dX10_plan_39 dX10_plan_40 dX10_plan_43 dX10_plan_46 rfl (Nat.le_of_ble_eq_true rfl) (Nat.le_of_ble_eq_true rfl) (Nat.le_of_ble_eq_true rfl) (Nat.le_of_ble_eq_true rfl) ⟨rfl, h⟩
set_option maxRecDepth 20000 in
set_option maxHeartbeats 4000000 in
theorem w_X10_planned {E : zE} {a0 : Nat} {l1 : Int32} {S : zS} {Q : Int32 → zS → Prop} {X : String → zS → Prop} (h : p_X10_planned E a0 l1 S Q X) : zM E yX10_planned cX10_planned 2 (some .int) ({ frames := 8, cells := 1, slots := 6, locals := 125 } : Room) [.ref a0, .int l1] S (qI Q) X := by
  unfold p_X10_planned at h
  refine zM_of RX10 false (by decide) rfl (fun h => by cases h) (Nat.le_of_ble_eq_true rfl) ?_
  refine z_aload_n 0 dX10_planned_0 rfl rfl ?_
  refine z_iload_n 1 dX10_planned_1 rfl rfl ?_
  obtain ⟨hf11, h⟩ := h
  refine z_callVR (ci := 10) (st := []) (w_X10_dayAt h) hf11.1 hf11.2 (Nat.le_of_ble_eq_true rfl) rfl zw_898 zw_895 zw_897 zw_20 zw_30 zy_X10_dayAt rfl rfl ⟨Nat.le_of_ble_eq_true rfl, Nat.le_of_ble_eq_true rfl⟩ ⟨(Nat.le_of_ble_eq_true rfl), (Nat.le_of_ble_eq_true rfl)⟩ (Nat.le_of_ble_eq_true rfl) dX10_planned_2 (fun ex S1 hx => zx_out rfl ⟨rfl, hx⟩ (Nat.le_of_ble_eq_true rfl) (Nat.le_of_ble_eq_true rfl)) (fun r2 S1 h => ?_)
  refine z_widen (k' := 1) (n' := 6) (Nat.le_refl _) (Nat.le_refl _) ?_
  obtain ⟨b3, hb4, h⟩ := h
  rw [show va_rf r2 = Value.ref b3 from by rw [hb4]; rfl]
  obtain ⟨hf5, h⟩ := h
  refine z_getQ (c := 4) (j := 0) (f := 400) hf5.1 hf5.2 (Nat.le_of_ble_eq_true rfl) rfl zU_X3 (Nat.le_of_ble_eq_true rfl) (Nat.le_of_ble_eq_true rfl) ⟨_, zw_237, Or.inl rfl⟩ rfl rfl dX10_planned_5 ?_
  obtain ⟨b6, hb7, h⟩ := h
  rw [show va_rf (gR S1 400 b3) = Value.ref b6 from by rw [hb7]; rfl]
  obtain ⟨hf10, h⟩ := h
  refine z_callVI (ci := 0) (st := []) (w_Jx4a65c_size_8abf5 h) hf10.1 hf10.2 (Nat.le_of_ble_eq_true rfl) rfl zw_423 zw_420 zw_421 zw_422 zw_33 zy_Jx4a65c_size_8abf5 rfl rfl ⟨Nat.le_of_ble_eq_true rfl, Nat.le_of_ble_eq_true rfl⟩ ⟨(Nat.le_of_ble_eq_true rfl), (Nat.le_of_ble_eq_true rfl)⟩ (Nat.le_of_ble_eq_true rfl) dX10_planned_8 (fun _ _ hx => hx.elim) (fun r9 S8 h => ?_)
  refine z_widen (k' := 1) (n' := 6) (Nat.le_refl _) (Nat.le_refl _) ?_
  exact z_ireturn ⟨rfl, _, rfl, h⟩ rfl (Nat.le_of_ble_eq_true rfl) (Nat.le_of_ble_eq_true rfl) dX10_planned_11
set_option maxRecDepth 20000 in
set_option maxHeartbeats 4000000 in
theorem w_X10_plannedAt {E : zE} {a0 : Nat} {l1 : Int32} {l2 : Int32} {S : zS} {Q : Int32 → zS → Prop} {X : String → zS → Prop} (h : p_X10_plannedAt E a0 l1 l2 S Q X) : zM E yX10_plannedAt cX10_plannedAt 4 (some .int) ({ frames := 8, cells := 2, slots := 12, locals := 125 } : Room) [.ref a0, .int l1, .int l2] S (qI Q) X := by
  unfold p_X10_plannedAt at h
  refine zM_of RX10 false (by decide) rfl (fun h => by cases h) (Nat.le_of_ble_eq_true rfl) ?_
  refine z_aload_n 0 dX10_plannedAt_0 rfl rfl ?_
  refine z_iload_n 1 dX10_plannedAt_1 rfl rfl ?_
  obtain ⟨hf22, h⟩ := h
  refine z_callVR (ci := 10) (st := []) (w_X10_dayAt h) hf22.1 hf22.2 (Nat.le_of_ble_eq_true rfl) rfl zw_898 zw_895 zw_897 zw_20 zw_30 zy_X10_dayAt rfl rfl ⟨Nat.le_of_ble_eq_true rfl, Nat.le_of_ble_eq_true rfl⟩ ⟨(Nat.le_of_ble_eq_true rfl), (Nat.le_of_ble_eq_true rfl)⟩ (Nat.le_of_ble_eq_true rfl) dX10_plannedAt_2 (fun ex S1 hx => zx_out rfl ⟨rfl, hx⟩ (Nat.le_of_ble_eq_true rfl) (Nat.le_of_ble_eq_true rfl)) (fun r2 S1 h => ?_)
  refine z_widen (k' := 1) (n' := 6) (Nat.le_refl _) (Nat.le_refl _) ?_
  refine z_astore_nQ (lv' := [(3, va_rf r2), (0, .ref a0), (1, .int l1), (2, .int l2)]) dX10_plannedAt_5 rfl (Nat.le_of_ble_eq_true rfl) rfl ?_
  refine z_iload_n 3 dX10_plannedAt_6 rfl rfl ?_
  refine z_aload_nQ 0 dX10_plannedAt_7 rfl rfl ?_
  obtain ⟨b3, hb4, h⟩ := h
  rw [show va_rf r2 = Value.ref b3 from by rw [hb4]; rfl]
  obtain ⟨hf5, h⟩ := h
  refine z_getQ (c := 4) (j := 0) (f := 400) hf5.1 hf5.2 (Nat.le_of_ble_eq_true rfl) rfl zU_X3 (Nat.le_of_ble_eq_true rfl) (Nat.le_of_ble_eq_true rfl) ⟨_, zw_237, Or.inl rfl⟩ rfl rfl dX10_plannedAt_8 ?_
  obtain ⟨b6, hb7, h⟩ := h
  rw [show va_rf (gR S1 400 b3) = Value.ref b6 from by rw [hb7]; rfl]
  obtain ⟨hf21, h⟩ := h
  refine z_callVI (ci := 0) (st := [.int l2]) (w_Jx4a65c_size_8abf5 h) hf21.1 hf21.2 (Nat.le_of_ble_eq_true rfl) rfl zw_423 zw_420 zw_421 zw_422 zw_33 zy_Jx4a65c_size_8abf5 rfl rfl ⟨Nat.le_of_ble_eq_true rfl, Nat.le_of_ble_eq_true rfl⟩ ⟨(Nat.le_of_ble_eq_true rfl), (Nat.le_of_ble_eq_true rfl)⟩ (Nat.le_of_ble_eq_true rfl) dX10_plannedAt_11 (fun _ _ hx => hx.elim) (fun r9 S8 h => ?_)
  refine z_widen (k' := 1) (n' := 6) (Nat.le_refl _) (Nat.le_refl _) ?_
  refine z_callSV (st := []) (w_X10_requireIndex h) zw_587 zw_585 zw_586 zw_30 zy_X10_requireIndex rfl rfl ⟨Nat.le_of_ble_eq_true rfl, Nat.le_of_ble_eq_true rfl⟩ ⟨(Nat.le_of_ble_eq_true rfl), (Nat.le_of_ble_eq_true rfl)⟩ (Nat.le_of_ble_eq_true rfl) dX10_plannedAt_14 (fun ex S10 hx => zx_out rfl ⟨rfl, hx⟩ (Nat.le_of_ble_eq_true rfl) (Nat.le_of_ble_eq_true rfl)) (fun S10 h => ?_)
  refine z_widen (k' := 2) (n' := 12) (Nat.le_refl _) (Nat.le_refl _) ?_
  refine z_aload_n 0 dX10_plannedAt_17 rfl rfl ?_
  obtain ⟨hf12, h⟩ := h
  refine z_getQ (c := 4) (j := 0) (f := 400) hf12.1 hf12.2 (Nat.le_of_ble_eq_true rfl) rfl zU_X3 (Nat.le_of_ble_eq_true rfl) (Nat.le_of_ble_eq_true rfl) ⟨_, zw_237, Or.inl rfl⟩ rfl rfl dX10_plannedAt_18 ?_
  refine z_iload_n 3 dX10_plannedAt_21 rfl rfl ?_
  obtain ⟨b13, hb14, h⟩ := h
  rw [show va_rf (gR S10 400 b3) = Value.ref b13 from by rw [hb14]; rfl]
  obtain ⟨hf20, h⟩ := h
  refine z_callVR (ci := 0) (st := []) (w_Jx4a65c_get_915e3 h) hf20.1 hf20.2 (Nat.le_of_ble_eq_true rfl) rfl zw_607 zw_604 zw_605 zw_606 zw_33 zy_Jx4a65c_get_915e3 rfl rfl ⟨Nat.le_of_ble_eq_true rfl, Nat.le_of_ble_eq_true rfl⟩ ⟨(Nat.le_of_ble_eq_true rfl), (Nat.le_of_ble_eq_true rfl)⟩ (Nat.le_of_ble_eq_true rfl) dX10_plannedAt_22 (fun _ _ hx => hx.elim) (fun r16 S15 h => ?_)
  refine z_widen (k' := 2) (n' := 12) (Nat.le_refl _) (Nat.le_refl _) ?_
  obtain ⟨b17, hb18, h⟩ := h
  rw [show va_rf r16 = Value.ref b17 from by rw [hb18]; rfl]
  obtain ⟨hf19, h⟩ := h
  refine z_cast (c := 9) hf19.1 hf19.2 (Nat.le_of_ble_eq_true rfl) rfl zw_167 dX10_plannedAt_25 ?_
  refine z_getI (c := 9) (j := 0) (f := 900) hf19.1 hf19.2 (Nat.le_of_ble_eq_true rfl) rfl zU_X9 (Nat.le_of_ble_eq_true rfl) (Nat.le_of_ble_eq_true rfl) ⟨_, zw_117, Or.inl rfl⟩ rfl rfl dX10_plannedAt_28 ?_
  exact z_ireturn ⟨rfl, _, rfl, h⟩ rfl (Nat.le_of_ble_eq_true rfl) (Nat.le_of_ble_eq_true rfl) dX10_plannedAt_31
set_option maxRecDepth 20000 in
set_option maxHeartbeats 4000000 in
theorem w_X10_rota {E : zE} {a0 : Nat} {l1 : Int32} {S : zS} {Q : Int32 → zS → Prop} {X : String → zS → Prop} (h : p_X10_rota E a0 l1 S Q X) : zM E yX10_rota cX10_rota 2 (some .int) ({ frames := 7, cells := 1, slots := 6, locals := 111 } : Room) [.ref a0, .int l1] S (qI Q) X := by
  unfold p_X10_rota at h
  refine zM_of RX10 false (by decide) rfl (fun h => by cases h) (Nat.le_of_ble_eq_true rfl) ?_
  refine z_iload_n 1 dX10_rota_0 rfl rfl ?_
  refine z_aload_n 0 dX10_rota_1 rfl rfl ?_
  obtain ⟨hf1, h⟩ := h
  refine z_getQ (c := 10) (j := 8) (f := 1008) hf1.1 hf1.2 (Nat.le_of_ble_eq_true rfl) rfl zU_X10 (Nat.le_of_ble_eq_true rfl) (Nat.le_of_ble_eq_true rfl) ⟨_, zw_272, Or.inl rfl⟩ rfl rfl dX10_rota_2 ?_
  obtain ⟨b2, hb3, h⟩ := h
  rw [show va_rf (gR S 1008 a0) = Value.ref b2 from by rw [hb3]; rfl]
  obtain ⟨hf4, h⟩ := h
  refine z_getI (c := 8) (j := 2) (f := 802) hf4.1 hf4.2 (Nat.le_of_ble_eq_true rfl) rfl zU_X7 (Nat.le_of_ble_eq_true rfl) (Nat.le_of_ble_eq_true rfl) ⟨_, zw_246, Or.inl rfl⟩ rfl rfl dX10_rota_5 ?_
  refine z_bipush (v := 60) dX10_rota_8 rfl ?_
  refine z_callSV (st := []) (w_X10_requireRange h) zw_328 zw_326 zw_327 zw_30 zy_X10_requireRange rfl rfl ⟨Nat.le_of_ble_eq_true rfl, Nat.le_of_ble_eq_true rfl⟩ ⟨(Nat.le_of_ble_eq_true rfl), (Nat.le_of_ble_eq_true rfl)⟩ (Nat.le_of_ble_eq_true rfl) dX10_rota_10 (fun ex S5 hx => zx_out rfl ⟨rfl, hx⟩ (Nat.le_of_ble_eq_true rfl) (Nat.le_of_ble_eq_true rfl)) (fun S5 h => ?_)
  refine z_widen (k' := 1) (n' := 6) (Nat.le_refl _) (Nat.le_refl _) ?_
  refine z_aload_n 0 dX10_rota_13 rfl rfl ?_
  obtain ⟨hf7, h⟩ := h
  refine z_getQ (c := 10) (j := 8) (f := 1008) hf7.1 hf7.2 (Nat.le_of_ble_eq_true rfl) rfl zU_X10 (Nat.le_of_ble_eq_true rfl) (Nat.le_of_ble_eq_true rfl) ⟨_, zw_272, Or.inl rfl⟩ rfl rfl dX10_rota_14 ?_
  refine z_iload_n 1 dX10_rota_17 rfl rfl ?_
  obtain ⟨b8, hb9, h⟩ := h
  rw [show va_rf (gR S5 1008 a0) = Value.ref b8 from by rw [hb9]; rfl]
  obtain ⟨hf12, h⟩ := h
  refine z_callVI (ci := 8) (st := []) (w_X7_bandFor h) hf12.1 hf12.2 (Nat.le_of_ble_eq_true rfl) rfl zw_927 zw_1320 zw_925 zw_926 zw_39 zy_X7_bandFor rfl rfl ⟨Nat.le_of_ble_eq_true rfl, Nat.le_of_ble_eq_true rfl⟩ ⟨(Nat.le_of_ble_eq_true rfl), (Nat.le_of_ble_eq_true rfl)⟩ (Nat.le_of_ble_eq_true rfl) dX10_rota_18 (fun _ _ hx => hx.elim) (fun r11 S10 h => ?_)
  refine z_widen (k' := 1) (n' := 6) (Nat.le_refl _) (Nat.le_refl _) ?_
  exact z_ireturn ⟨rfl, _, rfl, h⟩ rfl (Nat.le_of_ble_eq_true rfl) (Nat.le_of_ble_eq_true rfl) dX10_rota_21
set_option maxRecDepth 20000 in
set_option maxHeartbeats 4000000 in
theorem w_X10_pass {E : zE} {a0 : Nat} {S : zS} {Q : Int32 → zS → Prop} {X : String → zS → Prop} (h : p_X10_pass E a0 S Q X) : zM E yX10_pass cX10_pass 1 (some .int) ({ frames := 7, cells := 2, slots := 12, locals := 131 } : Room) [.ref a0] S (qI Q) X := by
  unfold p_X10_pass at h
  refine zM_of RX10 false (by decide) rfl (fun h => by cases h) (Nat.le_of_ble_eq_true rfl) ?_
  refine z_aload_n 0 dX10_pass_0 rfl rfl ?_
  obtain ⟨hf17, h⟩ := h
  refine z_callVV (ci := 10) (st := []) (w_X10_requireSilence h) hf17.1 hf17.2 (Nat.le_of_ble_eq_true rfl) rfl zw_630 zw_627 zw_629 zw_8 zw_30 zy_X10_requireSilence rfl rfl ⟨Nat.le_of_ble_eq_true rfl, Nat.le_of_ble_eq_true rfl⟩ ⟨(Nat.le_of_ble_eq_true rfl), (Nat.le_of_ble_eq_true rfl)⟩ (Nat.le_of_ble_eq_true rfl) dX10_pass_1 (fun ex S1 hx => zx_out rfl ⟨rfl, hx⟩ (Nat.le_of_ble_eq_true rfl) (Nat.le_of_ble_eq_true rfl)) (fun S1 h => ?_)
  refine z_widen (k' := 1) (n' := 6) (Nat.le_refl _) (Nat.le_refl _) ?_
  refine z_aload_n 0 dX10_pass_4 rfl rfl ?_
  obtain ⟨hf3, h⟩ := h
  refine z_getQ (c := 10) (j := 8) (f := 1008) hf3.1 hf3.2 (Nat.le_of_ble_eq_true rfl) rfl zU_X10 (Nat.le_of_ble_eq_true rfl) (Nat.le_of_ble_eq_true rfl) ⟨_, zw_272, Or.inl rfl⟩ rfl rfl dX10_pass_5 ?_
  obtain ⟨b4, hb5, h⟩ := h
  rw [show va_rf (gR S1 1008 a0) = Value.ref b4 from by rw [hb5]; rfl]
  obtain ⟨hf6, h⟩ := h
  refine z_getI (c := 8) (j := 2) (f := 802) hf6.1 hf6.2 (Nat.le_of_ble_eq_true rfl) rfl zU_X7 (Nat.le_of_ble_eq_true rfl) (Nat.le_of_ble_eq_true rfl) ⟨_, zw_246, Or.inl rfl⟩ rfl rfl dX10_pass_8 ?_
  refine z_bipush (v := 60) dX10_pass_11 rfl ?_
  refine z_icmp_lt 27 dX10_pass_13 (by decide) (fun c16 => ?_) (fun c16 => ?_)
  · have h := h.1 c16
    refine z_aload_n 0 dX10_pass_27 rfl rfl ?_
    refine z_getQ (c := 10) (j := 8) (f := 1008) hf3.1 hf3.2 (Nat.le_of_ble_eq_true rfl) rfl zU_X10 (Nat.le_of_ble_eq_true rfl) (Nat.le_of_ble_eq_true rfl) ⟨_, zw_272, Or.inl rfl⟩ rfl rfl dX10_pass_28 ?_
    obtain ⟨b7, hb8, h⟩ := h
    rw [show va_rf (gR S1 1008 a0) = Value.ref b7 from by rw [hb8]; rfl]
    obtain ⟨hf15, h⟩ := h
    refine z_callVV (ci := 8) (st := []) (w_X7_endDay h) hf15.1 hf15.2 (Nat.le_of_ble_eq_true rfl) rfl zw_923 zw_920 zw_921 zw_922 zw_39 zy_X7_endDay rfl rfl ⟨Nat.le_of_ble_eq_true rfl, Nat.le_of_ble_eq_true rfl⟩ ⟨(Nat.le_of_ble_eq_true rfl), (Nat.le_of_ble_eq_true rfl)⟩ (Nat.le_of_ble_eq_true rfl) dX10_pass_31 (fun _ _ hx => hx.elim) (fun S9 h => ?_)
    refine z_widen (k' := 1) (n' := 6) (Nat.le_refl _) (Nat.le_refl _) ?_
    refine z_aload_n 0 dX10_pass_34 rfl rfl ?_
    obtain ⟨hf11, h⟩ := h
    refine z_getQ (c := 10) (j := 8) (f := 1008) hf11.1 hf11.2 (Nat.le_of_ble_eq_true rfl) rfl zU_X10 (Nat.le_of_ble_eq_true rfl) (Nat.le_of_ble_eq_true rfl) ⟨_, zw_272, Or.inl rfl⟩ rfl rfl dX10_pass_35 ?_
    obtain ⟨b12, hb13, h⟩ := h
    rw [show va_rf (gR S9 1008 a0) = Value.ref b12 from by rw [hb13]; rfl]
    obtain ⟨hf14, h⟩ := h
    refine z_getI (c := 8) (j := 2) (f := 802) hf14.1 hf14.2 (Nat.le_of_ble_eq_true rfl) rfl zU_X7 (Nat.le_of_ble_eq_true rfl) (Nat.le_of_ble_eq_true rfl) ⟨_, zw_246, Or.inl rfl⟩ rfl rfl dX10_pass_38 ?_
    exact z_ireturn ⟨rfl, _, rfl, h⟩ rfl (Nat.le_of_ble_eq_true rfl) (Nat.le_of_ble_eq_true rfl) dX10_pass_41
  · have h := h.2 c16
    exact z_throwW (cls := "java/lang/IllegalStateException") (text := "today is the last day") zw_397 zw_51 zat_78 (by decide +kernel) rfl dX10_pass_16 dX10_pass_19 dX10_pass_20 dX10_pass_23 dX10_pass_26 rfl (Nat.le_of_ble_eq_true rfl) (Nat.le_of_ble_eq_true rfl) (Nat.le_of_ble_eq_true rfl) (Nat.le_of_ble_eq_true rfl) ⟨rfl, h⟩
set_option maxRecDepth 20000 in
set_option maxHeartbeats 4000000 in
theorem w_X10_today {E : zE} {a0 : Nat} {S : zS} {Q : Int32 → zS → Prop} {X : String → zS → Prop} (h : p_X10_today E a0 S Q X) : zM E yX10_today cX10_today 1 (some .int) ({ frames := 0, cells := 0, slots := 0, locals := 0 } : Room) [.ref a0] S (qI Q) X := by
  unfold p_X10_today at h
  refine zM_of RX10 false (by decide) rfl (fun h => by cases h) (Nat.le_of_ble_eq_true rfl) ?_
  refine z_aload_n 0 dX10_today_0 rfl rfl ?_
  obtain ⟨hf1, h⟩ := h
  refine z_getQ (c := 10) (j := 8) (f := 1008) hf1.1 hf1.2 (Nat.le_of_ble_eq_true rfl) rfl zU_X10 (Nat.le_of_ble_eq_true rfl) (Nat.le_of_ble_eq_true rfl) ⟨_, zw_272, Or.inl rfl⟩ rfl rfl dX10_today_1 ?_
  obtain ⟨b2, hb3, h⟩ := h
  rw [show va_rf (gR S 1008 a0) = Value.ref b2 from by rw [hb3]; rfl]
  obtain ⟨hf4, h⟩ := h
  refine z_getI (c := 8) (j := 2) (f := 802) hf4.1 hf4.2 (Nat.le_of_ble_eq_true rfl) rfl zU_X7 (Nat.le_of_ble_eq_true rfl) (Nat.le_of_ble_eq_true rfl) ⟨_, zw_246, Or.inl rfl⟩ rfl rfl dX10_today_4 ?_
  exact z_ireturn ⟨rfl, _, rfl, h⟩ rfl (Nat.le_of_ble_eq_true rfl) (Nat.le_of_ble_eq_true rfl) dX10_today_7
set_option maxRecDepth 20000 in
set_option maxHeartbeats 4000000 in
theorem w_X10_dropped {E : zE} {a0 : Nat} {S : zS} {Q : Int32 → zS → Prop} {X : String → zS → Prop} (h : p_X10_dropped E a0 S Q X) : zM E yX10_dropped cX10_dropped 1 (some .int) ({ frames := 0, cells := 0, slots := 0, locals := 0 } : Room) [.ref a0] S (qI Q) X := by
  unfold p_X10_dropped at h
  refine zM_of RX10 false (by decide) rfl (fun h => by cases h) (Nat.le_of_ble_eq_true rfl) ?_
  refine z_aload_n 0 dX10_dropped_0 rfl rfl ?_
  obtain ⟨hf1, h⟩ := h
  refine z_getQ (c := 10) (j := 8) (f := 1008) hf1.1 hf1.2 (Nat.le_of_ble_eq_true rfl) rfl zU_X10 (Nat.le_of_ble_eq_true rfl) (Nat.le_of_ble_eq_true rfl) ⟨_, zw_272, Or.inl rfl⟩ rfl rfl dX10_dropped_1 ?_
  obtain ⟨b2, hb3, h⟩ := h
  rw [show va_rf (gR S 1008 a0) = Value.ref b2 from by rw [hb3]; rfl]
  obtain ⟨hf4, h⟩ := h
  refine z_getI (c := 8) (j := 3) (f := 803) hf4.1 hf4.2 (Nat.le_of_ble_eq_true rfl) rfl zU_X7 (Nat.le_of_ble_eq_true rfl) (Nat.le_of_ble_eq_true rfl) ⟨_, zw_248, Or.inl rfl⟩ rfl rfl dX10_dropped_4 ?_
  exact z_ireturn ⟨rfl, _, rfl, h⟩ rfl (Nat.le_of_ble_eq_true rfl) (Nat.le_of_ble_eq_true rfl) dX10_dropped_7
set_option maxRecDepth 20000 in
set_option maxHeartbeats 4000000 in
theorem w_X10_endRinging {E : zE} {a0 : Nat} {S : zS} {Q : zS → Prop} {X : String → zS → Prop} (h : p_X10_endRinging E a0 S Q X) : zM E yX10_endRinging cX10_endRinging 1 none ({ frames := 5, cells := 0, slots := 0, locals := 132 } : Room) [.ref a0] S (qV Q) X := by
  unfold p_X10_endRinging at h
  refine zM_of RX10 false (by decide) rfl (fun h => by cases h) (Nat.le_of_ble_eq_true rfl) ?_
  refine z_aload_n 0 dX10_endRinging_0 rfl rfl ?_
  refine z_null dX10_endRinging_1 ?_
  obtain ⟨hf1, h⟩ := h
  have h := h _ rfl
  refine z_putV (c := 10) (j := 9) (ty0 := tyX10) (S' := sR S 1009 a0 none) hf1.1 hf1.2 (Nat.le_of_ble_eq_true rfl) rfl zU_X10 tyX10_ok nmX10 (Nat.le_of_ble_eq_true rfl) (Nat.le_of_ble_eq_true rfl) ⟨_, zw_273, Or.inl rfl⟩ (.inl rfl) (zrefn (ty := tyX10 9) (o := none) (by decide)) (zreff (ty := tyX10 9) (o := none) (by decide)) rfl (zUpR (v := none) hf1.2 (Nat.le_of_ble_eq_true rfl) (Nat.le_of_ble_eq_true rfl) rfl rfl) dX10_endRinging_2 ?_
  obtain ⟨S2, hS3⟩ : ∃ z, z = sR S 1009 a0 none := ⟨_, rfl⟩
  rw [← hS3] at h ⊢
  have hf1 : a0 ∈ gL S2 ∧ gK S2 a0 = 10 := by rw [hS3]; exact hf1
  refine z_aload_n 0 dX10_endRinging_5 rfl rfl ?_
  refine z_getQ (c := 10) (j := 7) (f := 1007) hf1.1 hf1.2 (Nat.le_of_ble_eq_true rfl) rfl zU_X10 (Nat.le_of_ble_eq_true rfl) (Nat.le_of_ble_eq_true rfl) ⟨_, zw_271, Or.inl rfl⟩ rfl rfl dX10_endRinging_6 ?_
  obtain ⟨b4, hb5, h⟩ := h
  rw [show va_rf (gR S2 1007 a0) = Value.ref b4 from by rw [hb5]; rfl]
  obtain ⟨hf19, h⟩ := h
  refine z_callVI (ci := 1) (st := []) (w_X0_noteWornOut h) hf19.1 hf19.2 (Nat.le_of_ble_eq_true rfl) rfl zw_1036 zw_1033 zw_1034 zw_1035 zw_37 zy_X0_noteWornOut rfl rfl ⟨Nat.le_of_ble_eq_true rfl, Nat.le_of_ble_eq_true rfl⟩ ⟨(Nat.le_of_ble_eq_true rfl), (Nat.le_of_ble_eq_true rfl)⟩ (Nat.le_of_ble_eq_true rfl) dX10_endRinging_9 (fun _ _ hx => hx.elim) (fun r7 S6 h => ?_)
  refine z_widen (k' := 0) (n' := 0) (Nat.le_refl _) (Nat.le_refl _) ?_
  refine z_pop dX10_endRinging_12 rfl ?_
  refine z_aload_n 0 dX10_endRinging_13 rfl rfl ?_
  obtain ⟨hf8, h⟩ := h
  refine z_getQ (c := 10) (j := 8) (f := 1008) hf8.1 hf8.2 (Nat.le_of_ble_eq_true rfl) rfl zU_X10 (Nat.le_of_ble_eq_true rfl) (Nat.le_of_ble_eq_true rfl) ⟨_, zw_272, Or.inl rfl⟩ rfl rfl dX10_endRinging_14 ?_
  refine z_aload_n 0 dX10_endRinging_17 rfl rfl ?_
  refine z_getQ (c := 10) (j := 7) (f := 1007) hf8.1 hf8.2 (Nat.le_of_ble_eq_true rfl) rfl zU_X10 (Nat.le_of_ble_eq_true rfl) (Nat.le_of_ble_eq_true rfl) ⟨_, zw_271, Or.inl rfl⟩ rfl rfl dX10_endRinging_18 ?_
  obtain ⟨b9, hb10, h⟩ := h
  rw [show va_rf (gR S6 1007 a0) = Value.ref b9 from by rw [hb10]; rfl]
  obtain ⟨hf18, h⟩ := h
  refine z_callVI (ci := 1) (st := [va_rf (gR S6 1008 a0)]) (w_X0_bellsOut h) hf18.1 hf18.2 (Nat.le_of_ble_eq_true rfl) rfl zw_670 zw_667 zw_668 zw_669 zw_37 zy_X0_bellsOut rfl rfl ⟨Nat.le_of_ble_eq_true rfl, Nat.le_of_ble_eq_true rfl⟩ ⟨(Nat.le_of_ble_eq_true rfl), (Nat.le_of_ble_eq_true rfl)⟩ (by generalize (gR S6 1008 a0) = z9; cases z9 <;> exact (Nat.le_of_ble_eq_true rfl)) dX10_endRinging_21 (fun _ _ hx => hx.elim) (fun r12 S11 h => ?_)
  refine z_widen (k' := 0) (n' := 0) (Nat.le_refl _) (Nat.le_refl _) ?_
  obtain ⟨b13, hb14, h⟩ := h
  rw [show va_rf (gR S6 1008 a0) = Value.ref b13 from by rw [hb14]; rfl]
  obtain ⟨hf17, h⟩ := h
  refine z_callVI (ci := 8) (st := []) (w_X7_dropUnfit h) hf17.1 hf17.2 (Nat.le_of_ble_eq_true rfl) rfl zw_678 zw_675 zw_676 zw_677 zw_39 zy_X7_dropUnfit rfl rfl ⟨Nat.le_of_ble_eq_true rfl, Nat.le_of_ble_eq_true rfl⟩ ⟨(Nat.le_of_ble_eq_true rfl), (Nat.le_of_ble_eq_true rfl)⟩ (Nat.le_of_ble_eq_true rfl) dX10_endRinging_24 (fun _ _ hx => hx.elim) (fun r16 S15 h => ?_)
  refine z_widen (k' := 0) (n' := 0) (Nat.le_refl _) (Nat.le_refl _) ?_
  refine z_pop dX10_endRinging_27 rfl ?_
  exact z_return ⟨rfl, rfl, h⟩ rfl (Nat.le_of_ble_eq_true rfl) (Nat.le_of_ble_eq_true rfl) dX10_endRinging_28
set_option maxRecDepth 20000 in
set_option maxHeartbeats 4000000 in
theorem w_X10_countAsRung {E : zE} {a0 : Nat} {a1 : Nat} {S : zS} {Q : zS → Prop} {X : String → zS → Prop} (h : p_X10_countAsRung E a0 a1 S Q X) : zM E yX10_countAsRung cX10_countAsRung 2 none ({ frames := 5, cells := 0, slots := 0, locals := 129 } : Room) [.ref a0, .ref a1] S (qV Q) X := by
  unfold p_X10_countAsRung at h
  refine zM_of RX10 false (by decide) rfl (fun h => by cases h) (Nat.le_of_ble_eq_true rfl) ?_
  refine z_aload_n 0 dX10_countAsRung_0 rfl rfl ?_
  obtain ⟨hf1, h⟩ := h
  refine z_getQ (c := 10) (j := 8) (f := 1008) hf1.1 hf1.2 (Nat.le_of_ble_eq_true rfl) rfl zU_X10 (Nat.le_of_ble_eq_true rfl) (Nat.le_of_ble_eq_true rfl) ⟨_, zw_272, Or.inl rfl⟩ rfl rfl dX10_countAsRung_1 ?_
  refine z_aload_n 1 dX10_countAsRung_4 rfl rfl ?_
  obtain ⟨b2, hb3, h⟩ := h
  rw [show va_rf (gR S 1008 a0) = Value.ref b2 from by rw [hb3]; rfl]
  obtain ⟨hf12, h⟩ := h
  refine z_callVV (ci := 8) (st := []) (w_X7_takeFromToday h) hf12.1 hf12.2 (Nat.le_of_ble_eq_true rfl) rfl zw_1053 zw_1050 zw_1051 zw_1052 zw_39 zy_X7_takeFromToday rfl rfl ⟨Nat.le_of_ble_eq_true rfl, Nat.le_of_ble_eq_true rfl⟩ ⟨(Nat.le_of_ble_eq_true rfl), (Nat.le_of_ble_eq_true rfl)⟩ (Nat.le_of_ble_eq_true rfl) dX10_countAsRung_5 (fun _ _ hx => hx.elim) (fun S4 h => ?_)
  refine z_widen (k' := 0) (n' := 0) (Nat.le_refl _) (Nat.le_refl _) ?_
  refine z_aload_n 0 dX10_countAsRung_8 rfl rfl ?_
  refine z_aload_n 1 dX10_countAsRung_9 rfl rfl ?_
  obtain ⟨hf6, h⟩ := h
  refine z_getI (c := 9) (j := 0) (f := 900) hf6.1 hf6.2 (Nat.le_of_ble_eq_true rfl) rfl zU_X9 (Nat.le_of_ble_eq_true rfl) (Nat.le_of_ble_eq_true rfl) ⟨_, zw_117, Or.inl rfl⟩ rfl rfl dX10_countAsRung_10 ?_
  obtain ⟨hf7, h⟩ := h
  have h := h _ rfl
  refine z_putV (c := 10) (j := 13) (ty0 := tyX10) (S' := sI S4 1013 a0 (gI S4 900 a1)) hf7.1 hf7.2 (Nat.le_of_ble_eq_true rfl) rfl zU_X10 tyX10_ok nmX10 (Nat.le_of_ble_eq_true rfl) (Nat.le_of_ble_eq_true rfl) ⟨_, zw_277, Or.inl rfl⟩ (.inl rfl) rfl rfl rfl (zUpI (v := (gI S4 900 a1)) hf7.2 (Nat.le_of_ble_eq_true rfl) (Nat.le_of_ble_eq_true rfl) rfl rfl) dX10_countAsRung_13 ?_
  obtain ⟨S8, hS9⟩ : ∃ z, z = sI S4 1013 a0 (gI S4 900 a1) := ⟨_, rfl⟩
  rw [← hS9] at h ⊢
  have hf7 : a0 ∈ gL S8 ∧ gK S8 a0 = 10 := by rw [hS9]; exact hf7
  have hf6 : a1 ∈ gL S8 ∧ gK S8 a1 = 9 := by rw [hS9]; exact hf6
  refine z_aload_n 0 dX10_countAsRung_16 rfl rfl ?_
  refine z_dup dX10_countAsRung_17 rfl ?_
  refine z_getI (c := 10) (j := 12) (f := 1012) hf7.1 hf7.2 (Nat.le_of_ble_eq_true rfl) rfl zU_X10 (Nat.le_of_ble_eq_true rfl) (Nat.le_of_ble_eq_true rfl) ⟨_, zw_276, Or.inl rfl⟩ rfl rfl dX10_countAsRung_18 ?_
  refine z_iconst (v := 1) dX10_countAsRung_21 rfl ?_
  refine z_iadd dX10_countAsRung_22 ?_
  have h := h _ rfl
  refine z_putV (c := 10) (j := 12) (ty0 := tyX10) (S' := sI S8 1012 a0 ((gI S8 1012 a0) + 1)) hf7.1 hf7.2 (Nat.le_of_ble_eq_true rfl) rfl zU_X10 tyX10_ok nmX10 (Nat.le_of_ble_eq_true rfl) (Nat.le_of_ble_eq_true rfl) ⟨_, zw_276, Or.inl rfl⟩ (.inl rfl) rfl rfl rfl (zUpI (v := ((gI S8 1012 a0) + 1)) hf7.2 (Nat.le_of_ble_eq_true rfl) (Nat.le_of_ble_eq_true rfl) rfl rfl) dX10_countAsRung_23 ?_
  obtain ⟨S10, hS11⟩ : ∃ z, z = sI S8 1012 a0 ((gI S8 1012 a0) + 1) := ⟨_, rfl⟩
  rw [← hS11] at h ⊢
  have hf7 : a0 ∈ gL S10 ∧ gK S10 a0 = 10 := by rw [hS11]; exact hf7
  have hf6 : a1 ∈ gL S10 ∧ gK S10 a1 = 9 := by rw [hS11]; exact hf6
  exact z_return ⟨rfl, rfl, h⟩ rfl (Nat.le_of_ble_eq_true rfl) (Nat.le_of_ble_eq_true rfl) dX10_countAsRung_26
set_option maxRecDepth 20000 in
set_option maxHeartbeats 4000000 in
theorem w_X10_doReadyRows_J43 {E : zE} {B2 : Nat → Int32 → zS → Prop} {Q : zS → Prop} {X : String → zS → Prop} (hB2 : ∀ (a0 : Nat) (l1 : Int32) (S : zS), B2 a0 l1 S → zJ E (RX10, cX10_doReadyRows, 3, none, false, [], zTr) ({ frames := 6, cells := 0, slots := 0, locals := 152 } : Room) (zq (qV Q)) (zx X) 2 [(0, .ref a0), (1, .int l1)] [] [] S 0 0) (a0 : Nat) (l1 : Int32) (a2 : Nat) (S : zS) (h : p_X10_doReadyRows_J43 E B2 Q X a0 l1 a2 S) : zJ E (RX10, cX10_doReadyRows, 3, none, false, [], zTr) ({ frames := 6, cells := 0, slots := 0, locals := 152 } : Room) (zq (qV Q)) (zx X) 43 [(0, .ref a0), (1, .int l1), (2, .ref a2)] [] [] S 0 0 := by
  unfold p_X10_doReadyRows_J43 at h
  refine z_aload_n 0 dX10_doReadyRows_43 rfl rfl ?_
  obtain ⟨hf8, h⟩ := h
  refine z_getQ (c := 10) (j := 7) (f := 1007) hf8.1 hf8.2 (Nat.le_of_ble_eq_true rfl) rfl zU_X10 (Nat.le_of_ble_eq_true rfl) (Nat.le_of_ble_eq_true rfl) ⟨_, zw_271, Or.inl rfl⟩ rfl rfl dX10_doReadyRows_44 ?_
  obtain ⟨b9, hb10, h⟩ := h
  rw [show va_rf (gR S 1007 a0) = Value.ref b9 from by rw [hb10]; rfl]
  obtain ⟨hf30, h⟩ := h
  refine z_callVI (ci := 1) (st := []) (w_X0_noteWornOut h) hf30.1 hf30.2 (Nat.le_of_ble_eq_true rfl) rfl zw_1036 zw_1033 zw_1034 zw_1035 zw_37 zy_X0_noteWornOut rfl rfl ⟨Nat.le_of_ble_eq_true rfl, Nat.le_of_ble_eq_true rfl⟩ ⟨(Nat.le_of_ble_eq_true rfl), (Nat.le_of_ble_eq_true rfl)⟩ (Nat.le_of_ble_eq_true rfl) dX10_doReadyRows_47 (fun _ _ hx => hx.elim) (fun r12 S11 h => ?_)
  refine z_widen (k' := 0) (n' := 0) (Nat.le_refl _) (Nat.le_refl _) ?_
  refine z_if_eq 60 dX10_doReadyRows_50 (by decide) (fun c29 => ?_) (fun c29 => ?_)
  · have h := h.1 c29
    refine z_aload_n 2 dX10_doReadyRows_60 rfl rfl ?_
    obtain ⟨hf25, h⟩ := h
    refine z_callVI (ci := 7) (st := []) (w_X6_areAllRowsDone h) hf25.1 hf25.2 (Nat.le_of_ble_eq_true rfl) rfl zw_1007 zw_1045 zw_1005 zw_1006 zw_56 zy_X6_areAllRowsDone rfl rfl ⟨Nat.le_of_ble_eq_true rfl, Nat.le_of_ble_eq_true rfl⟩ ⟨(Nat.le_of_ble_eq_true rfl), (Nat.le_of_ble_eq_true rfl)⟩ (Nat.le_of_ble_eq_true rfl) dX10_doReadyRows_61 (fun _ _ hx => hx.elim) (fun r14 S13 h => ?_)
    refine z_widen (k' := 0) (n' := 0) (Nat.le_refl _) (Nat.le_refl _) ?_
    refine z_if_eq 79 dX10_doReadyRows_64 (by decide) (fun c24 => ?_) (fun c24 => ?_)
    · have h := h.1 c24
      refine z_iinc (v := (l1 + 1)) (lv' := [(1, .int (l1 + 1)), (0, .ref a0), (2, .ref a2)]) 1 dX10_doReadyRows_79 rfl rfl (Nat.le_of_ble_eq_true rfl) rfl ?_
      refine z_goto 2 dX10_doReadyRows_82 (by decide) ?_
      refine z_sub [1, 0] rfl ?_
      exact hB2 a0 (l1 + 1) S13 h
    · have h := h.2 c24
      refine z_aload_n 0 dX10_doReadyRows_67 rfl rfl ?_
      obtain ⟨hf23, h⟩ := h
      refine z_callVV (ci := 10) (st := []) (w_X10_endRinging h) hf23.1 hf23.2 (Nat.le_of_ble_eq_true rfl) rfl zw_1044 zw_1041 zw_1043 zw_26 zw_30 zy_X10_endRinging rfl rfl ⟨Nat.le_of_ble_eq_true rfl, Nat.le_of_ble_eq_true rfl⟩ ⟨(Nat.le_of_ble_eq_true rfl), (Nat.le_of_ble_eq_true rfl)⟩ (Nat.le_of_ble_eq_true rfl) dX10_doReadyRows_68 (fun _ _ hx => hx.elim) (fun S15 h => ?_)
      refine z_widen (k' := 0) (n' := 0) (Nat.le_refl _) (Nat.le_refl _) ?_
      refine z_aload_n 0 dX10_doReadyRows_71 rfl rfl ?_
      refine z_aload_n 2 dX10_doReadyRows_72 rfl rfl ?_
      obtain ⟨hf17, h⟩ := h
      refine z_getQ (c := 7) (j := 0) (f := 700) hf17.1 hf17.2 (Nat.le_of_ble_eq_true rfl) rfl zU_X6 (Nat.le_of_ble_eq_true rfl) (Nat.le_of_ble_eq_true rfl) ⟨_, zw_975, Or.inl rfl⟩ rfl rfl dX10_doReadyRows_73 ?_
      obtain ⟨b18, hb19, h⟩ := h
      rw [show va_rf (gR S15 700 a2) = Value.ref b18 from by rw [hb19]; rfl]
      obtain ⟨hf22, h⟩ := h
      refine z_callVV (ci := 10) (st := []) (w_X10_countAsRung h) hf22.1 hf22.2 (Nat.le_of_ble_eq_true rfl) rfl zw_1049 zw_1046 zw_1048 zw_27 zw_30 zy_X10_countAsRung rfl rfl ⟨Nat.le_of_ble_eq_true rfl, Nat.le_of_ble_eq_true rfl⟩ ⟨(Nat.le_of_ble_eq_true rfl), (Nat.le_of_ble_eq_true rfl)⟩ (Nat.le_of_ble_eq_true rfl) dX10_doReadyRows_76 (fun _ _ hx => hx.elim) (fun S20 h => ?_)
      refine z_widen (k' := 0) (n' := 0) (Nat.le_refl _) (Nat.le_refl _) ?_
      refine z_iinc (v := (l1 + 1)) (lv' := [(1, .int (l1 + 1)), (0, .ref a0), (2, .ref a2)]) 1 dX10_doReadyRows_79 rfl rfl (Nat.le_of_ble_eq_true rfl) rfl ?_
      refine z_goto 2 dX10_doReadyRows_82 (by decide) ?_
      refine z_sub [1, 0] rfl ?_
      exact hB2 a0 (l1 + 1) S20 h
  · have h := h.2 c29
    refine z_aload_n 0 dX10_doReadyRows_53 rfl rfl ?_
    obtain ⟨hf28, h⟩ := h
    refine z_callVV (ci := 10) (st := []) (w_X10_endRinging h) hf28.1 hf28.2 (Nat.le_of_ble_eq_true rfl) rfl zw_1044 zw_1041 zw_1043 zw_26 zw_30 zy_X10_endRinging rfl rfl ⟨Nat.le_of_ble_eq_true rfl, Nat.le_of_ble_eq_true rfl⟩ ⟨(Nat.le_of_ble_eq_true rfl), (Nat.le_of_ble_eq_true rfl)⟩ (Nat.le_of_ble_eq_true rfl) dX10_doReadyRows_54 (fun _ _ hx => hx.elim) (fun S26 h => ?_)
    refine z_widen (k' := 0) (n' := 0) (Nat.le_refl _) (Nat.le_refl _) ?_
    refine z_goto 79 dX10_doReadyRows_57 (by decide) ?_
    refine z_iinc (v := (l1 + 1)) (lv' := [(1, .int (l1 + 1)), (0, .ref a0), (2, .ref a2)]) 1 dX10_doReadyRows_79 rfl rfl (Nat.le_of_ble_eq_true rfl) rfl ?_
    refine z_goto 2 dX10_doReadyRows_82 (by decide) ?_
    refine z_sub [1, 0] rfl ?_
    exact hB2 a0 (l1 + 1) S26 h
set_option maxRecDepth 20000 in
set_option maxHeartbeats 4000000 in
theorem w_X10_doReadyRows_L2 {E : zE} {K25 : zS → Prop} {K85 : zS → Prop} {Q : zS → Prop} {X : String → zS → Prop} (hK25 : ∀  (S : zS), K25  S → zJ E (RX10, cX10_doReadyRows, 3, none, false, [], zTr) ({ frames := 6, cells := 0, slots := 0, locals := 152 } : Room) (zq (qV Q)) (zx X) 25 [] [] [] S 0 0) (hK85 : ∀  (S : zS), K85  S → zJ E (RX10, cX10_doReadyRows, 3, none, false, [], zTr) ({ frames := 6, cells := 0, slots := 0, locals := 152 } : Room) (zq (qV Q)) (zx X) 85 [] [] [] S 0 0) : ∀ (m2 : Nat) (a0 : Nat) (l1 : Int32) (S : zS), p_X10_doReadyRows_L2 E K25 K85 Q X m2 a0 l1 S → zJ E (RX10, cX10_doReadyRows, 3, none, false, [], zTr) ({ frames := 6, cells := 0, slots := 0, locals := 152 } : Room) (zq (qV Q)) (zx X) 2 [(0, .ref a0), (1, .int l1)] [] [] S 0 0 := by
  intro m2
  induction m2 with
  | zero => intro a0 l1 S h; exact (show False from h).elim
  | succ m2 ih =>
    intro a0 l1 S h
    unfold p_X10_doReadyRows_L2 at h
    refine z_iload_n 1 dX10_doReadyRows_2 rfl rfl ?_
    refine z_sipush (v := 240) dX10_doReadyRows_3 rfl ?_
    refine z_icmp_ge 85 dX10_doReadyRows_6 (by decide) (fun c38 => ?_) (fun c38 => ?_)
    · have h := h.1 c38
      refine z_sub [] rfl ?_
      exact hK85 S h
    · have h := h.2 c38
      refine z_aload_n 0 dX10_doReadyRows_9 rfl rfl ?_
      obtain ⟨hf1, h⟩ := h
      refine z_getQ (c := 10) (j := 9) (f := 1009) hf1.1 hf1.2 (Nat.le_of_ble_eq_true rfl) rfl zU_X10 (Nat.le_of_ble_eq_true rfl) (Nat.le_of_ble_eq_true rfl) ⟨_, zw_273, Or.inl rfl⟩ rfl rfl dX10_doReadyRows_10 ?_
      refine z_astore_nQ (lv' := [(2, va_rf (gR S 1009 a0)), (0, .ref a0), (1, .int l1)]) dX10_doReadyRows_13 rfl (Nat.le_of_ble_eq_true rfl) rfl ?_
      refine z_aload_nQ 0 dX10_doReadyRows_14 rfl rfl ?_
      rcases zor (gR S 1009 a0) with hb3 | ⟨b2, hb3⟩
      · have h := h.1 hb3
        rw [show va_rf (gR S 1009 a0) = Value.null from by rw [hb3]; rfl]
        refine z_ifnullN 25 dX10_doReadyRows_15 (by decide) ?_
        refine z_sub [] rfl ?_
        exact hK25 S h
      · have h := h.2 b2 hb3
        rw [show va_rf (gR S 1009 a0) = Value.ref b2 from by rw [hb3]; rfl]
        refine z_ifnull dX10_doReadyRows_15 ?_
        refine z_aload_n 0 dX10_doReadyRows_18 rfl rfl ?_
        obtain ⟨hf37, h⟩ := h
        refine z_callVI (ci := 7) (st := []) (w_X6_isNextRowReady h) hf37.1 hf37.2 (Nat.le_of_ble_eq_true rfl) rfl zw_1003 zw_1000 zw_1001 zw_1002 zw_56 zy_X6_isNextRowReady rfl rfl ⟨Nat.le_of_ble_eq_true rfl, Nat.le_of_ble_eq_true rfl⟩ ⟨(Nat.le_of_ble_eq_true rfl), (Nat.le_of_ble_eq_true rfl)⟩ (Nat.le_of_ble_eq_true rfl) dX10_doReadyRows_19 (fun _ _ hx => hx.elim) (fun r5 S4 h => ?_)
        refine z_widen (k' := 0) (n' := 0) (Nat.le_refl _) (Nat.le_refl _) ?_
        refine z_if_ne 26 dX10_doReadyRows_22 (by decide) (fun c36 => ?_) (fun c36 => ?_)
        · have h := h.1 c36
          refine z_aload_n 0 dX10_doReadyRows_26 rfl rfl ?_
          obtain ⟨hf35, h⟩ := h
          refine z_callVI (ci := 7) (st := []) (w_X6_doNextRow h) hf35.1 hf35.2 (Nat.le_of_ble_eq_true rfl) rfl zw_1015 zw_1012 zw_1013 zw_1014 zw_56 zy_X6_doNextRow rfl rfl ⟨Nat.le_of_ble_eq_true rfl, Nat.le_of_ble_eq_true rfl⟩ ⟨(Nat.le_of_ble_eq_true rfl), (Nat.le_of_ble_eq_true rfl)⟩ (Nat.le_of_ble_eq_true rfl) dX10_doReadyRows_27 (fun _ _ hx => hx.elim) (fun r7 S6 h => ?_)
          refine z_widen (k' := 0) (n' := 0) (Nat.le_refl _) (Nat.le_refl _) ?_
          refine z_if_eq 43 dX10_doReadyRows_30 (by decide) (fun c34 => ?_) (fun c34 => ?_)
          · have h := h.1 c34
            refine z_sub [1, 2, 0] rfl ?_
            refine w_X10_doReadyRows_J43 (fun a0 l1 S h => ?_) a0 l1 b2 S6 h
            exact ih a0 l1 S h
          · have h := h.2 c34
            refine z_aload_n 1 dX10_doReadyRows_33 rfl rfl ?_
            refine z_dup dX10_doReadyRows_34 rfl ?_
            obtain ⟨hf31, h⟩ := h
            refine z_getI (c := 10) (j := 11) (f := 1011) hf31.1 hf31.2 (Nat.le_of_ble_eq_true rfl) rfl zU_X10 (Nat.le_of_ble_eq_true rfl) (Nat.le_of_ble_eq_true rfl) ⟨_, zw_275, Or.inl rfl⟩ rfl rfl dX10_doReadyRows_35 ?_
            refine z_iconst (v := 1) dX10_doReadyRows_38 rfl ?_
            refine z_iadd dX10_doReadyRows_39 ?_
            have h := h _ rfl
            refine z_putV (c := 10) (j := 11) (ty0 := tyX10) (S' := sI S6 1011 a0 ((gI S6 1011 a0) + 1)) hf31.1 hf31.2 (Nat.le_of_ble_eq_true rfl) rfl zU_X10 tyX10_ok nmX10 (Nat.le_of_ble_eq_true rfl) (Nat.le_of_ble_eq_true rfl) ⟨_, zw_275, Or.inl rfl⟩ (.inl rfl) rfl rfl rfl (zUpI (v := ((gI S6 1011 a0) + 1)) hf31.2 (Nat.le_of_ble_eq_true rfl) (Nat.le_of_ble_eq_true rfl) rfl rfl) dX10_doReadyRows_40 ?_
            obtain ⟨S32, hS33⟩ : ∃ z, z = sI S6 1011 a0 ((gI S6 1011 a0) + 1) := ⟨_, rfl⟩
            rw [← hS33] at h ⊢
            have hf31 : a0 ∈ gL S32 ∧ gK S32 a0 = 10 := by rw [hS33]; exact hf31
            refine z_sub [1, 2, 0] rfl ?_
            refine w_X10_doReadyRows_J43 (fun a0 l1 S h => ?_) a0 l1 b2 S32 h
            exact ih a0 l1 S h
        · have h := h.2 c36
          refine z_sub [] rfl ?_
          exact hK25 S4 h
set_option maxRecDepth 20000 in
set_option maxHeartbeats 4000000 in
theorem w_X10_doReadyRows {E : zE} {a0 : Nat} {S : zS} {Q : zS → Prop} {X : String → zS → Prop} (h : p_X10_doReadyRows E a0 S Q X) : zM E yX10_doReadyRows cX10_doReadyRows 3 none ({ frames := 6, cells := 0, slots := 0, locals := 152 } : Room) [.ref a0] S (qV Q) X := by
  unfold p_X10_doReadyRows at h
  refine zM_of RX10 false (by decide) rfl (fun h => by cases h) (Nat.le_of_ble_eq_true rfl) ?_
  refine z_iconst (v := 0) dX10_doReadyRows_0 rfl ?_
  refine z_istore_n (lv' := [(1, .int 0), (0, .ref a0)]) dX10_doReadyRows_1 rfl (Nat.le_of_ble_eq_true rfl) rfl ?_
  obtain ⟨m2, h⟩ := h
  refine z_sub [1, 0] rfl ?_
  refine w_X10_doReadyRows_L2 (fun S h => ?_) (fun S h => ?_) m2 a0 0 S h
  · exact z_return ⟨rfl, rfl, h⟩ rfl (Nat.le_of_ble_eq_true rfl) (Nat.le_of_ble_eq_true rfl) dX10_doReadyRows_25
  · exact z_return ⟨rfl, rfl, h⟩ rfl (Nat.le_of_ble_eq_true rfl) (Nat.le_of_ble_eq_true rfl) dX10_doReadyRows_85
set_option maxRecDepth 20000 in
set_option maxHeartbeats 4000000 in
theorem w_X10_ring {E : zE} {a0 : Nat} {l1 : Int32} {l2 : Int32} {l3 : Int32} {S : zS} {Q : Int32 → zS → Prop} {X : String → zS → Prop} (h : p_X10_ring E a0 l1 l2 l3 S Q X) : zM E yX10_ring cX10_ring 6 (some .int) ({ frames := 8, cells := 5, slots := 30, locals := 174 } : Room) [.ref a0, .int l1, .int l2, .int l3] S (qI Q) X := by
  unfold p_X10_ring at h
  refine zM_of RX10 false (by decide) rfl (fun h => by cases h) (Nat.le_of_ble_eq_true rfl) ?_
  refine z_aload_n 0 dX10_ring_0 rfl rfl ?_
  refine z_iload_n 1 dX10_ring_1 rfl rfl ?_
  obtain ⟨hf51, h⟩ := h
  refine z_callVR (ci := 10) (st := []) (w_X10_touchAt h) hf51.1 hf51.2 (Nat.le_of_ble_eq_true rfl) rfl zw_894 zw_891 zw_893 zw_19 zw_30 zy_X10_touchAt rfl rfl ⟨Nat.le_of_ble_eq_true rfl, Nat.le_of_ble_eq_true rfl⟩ ⟨(Nat.le_of_ble_eq_true rfl), (Nat.le_of_ble_eq_true rfl)⟩ (Nat.le_of_ble_eq_true rfl) dX10_ring_2 (fun ex S1 hx => zx_out rfl ⟨rfl, hx⟩ (Nat.le_of_ble_eq_true rfl) (Nat.le_of_ble_eq_true rfl)) (fun r2 S1 h => ?_)
  refine z_widen (k' := 1) (n' := 6) (Nat.le_refl _) (Nat.le_refl _) ?_
  refine z_astoreQ (lv' := [(4, va_rf r2), (0, .ref a0), (1, .int l1), (2, .int l2), (3, .int l3)]) dX10_ring_5 (Nat.le_of_ble_eq_true rfl) rfl ?_
  refine z_iload_n 3 dX10_ring_7 rfl rfl ?_
  refine z_iconst (v := 0) dX10_ring_8 rfl ?_
  refine z_iconst (v := 1) dX10_ring_9 rfl ?_
  refine z_aloadQ 0 dX10_ring_10 rfl ?_
  obtain ⟨b3, hb4, h⟩ := h
  rw [show va_rf r2 = Value.ref b3 from by rw [hb4]; rfl]
  obtain ⟨hf5, h⟩ := h
  refine z_getI (c := 9) (j := 1) (f := 901) hf5.1 hf5.2 (Nat.le_of_ble_eq_true rfl) rfl zU_X9 (Nat.le_of_ble_eq_true rfl) (Nat.le_of_ble_eq_true rfl) ⟨_, zw_122, Or.inl rfl⟩ rfl rfl dX10_ring_12 ?_
  refine z_ishl dX10_ring_15 ?_
  refine z_iconst (v := 1) dX10_ring_16 rfl ?_
  refine z_isub dX10_ring_17 ?_
  refine z_callSV (st := []) (w_X10_requireRange h) zw_328 zw_326 zw_327 zw_30 zy_X10_requireRange rfl rfl ⟨Nat.le_of_ble_eq_true rfl, Nat.le_of_ble_eq_true rfl⟩ ⟨(Nat.le_of_ble_eq_true rfl), (Nat.le_of_ble_eq_true rfl)⟩ (Nat.le_of_ble_eq_true rfl) dX10_ring_18 (fun ex S6 hx => zx_out rfl ⟨rfl, hx⟩ (Nat.le_of_ble_eq_true rfl) (Nat.le_of_ble_eq_true rfl)) (fun S6 h => ?_)
  refine z_widen (k' := 2) (n' := 12) (Nat.le_refl _) (Nat.le_refl _) ?_
  refine z_iload_n 4 dX10_ring_21 rfl rfl ?_
  refine z_bipush (v := 100) dX10_ring_22 rfl ?_
  refine z_sipush (v := 1000) dX10_ring_24 rfl ?_
  refine z_callSV (st := []) (w_X10_requireRange h) zw_328 zw_326 zw_327 zw_30 zy_X10_requireRange rfl rfl ⟨Nat.le_of_ble_eq_true rfl, Nat.le_of_ble_eq_true rfl⟩ ⟨(Nat.le_of_ble_eq_true rfl), (Nat.le_of_ble_eq_true rfl)⟩ (Nat.le_of_ble_eq_true rfl) dX10_ring_27 (fun ex S8 hx => zx_out rfl ⟨rfl, hx⟩ (Nat.le_of_ble_eq_true rfl) (Nat.le_of_ble_eq_true rfl)) (fun S8 h => ?_)
  refine z_widen (k' := 3) (n' := 18) (Nat.le_refl _) (Nat.le_refl _) ?_
  refine z_aload_n 1 dX10_ring_30 rfl rfl ?_
  obtain ⟨hf50, h⟩ := h
  refine z_callVV (ci := 10) (st := []) (w_X10_requireSilence h) hf50.1 hf50.2 (Nat.le_of_ble_eq_true rfl) rfl zw_630 zw_627 zw_629 zw_8 zw_30 zy_X10_requireSilence rfl rfl ⟨Nat.le_of_ble_eq_true rfl, Nat.le_of_ble_eq_true rfl⟩ ⟨(Nat.le_of_ble_eq_true rfl), (Nat.le_of_ble_eq_true rfl)⟩ (Nat.le_of_ble_eq_true rfl) dX10_ring_31 (fun ex S10 hx => zx_out rfl ⟨rfl, hx⟩ (Nat.le_of_ble_eq_true rfl) (Nat.le_of_ble_eq_true rfl)) (fun S10 h => ?_)
  refine z_widen (k' := 4) (n' := 24) (Nat.le_refl _) (Nat.le_refl _) ?_
  refine z_iload_n 2 dX10_ring_34 rfl rfl ?_
  refine z_aload_n 1 dX10_ring_35 rfl rfl ?_
  obtain ⟨hf12, h⟩ := h
  refine z_getI (c := 10) (j := 13) (f := 1013) hf12.1 hf12.2 (Nat.le_of_ble_eq_true rfl) rfl zU_X10 (Nat.le_of_ble_eq_true rfl) (Nat.le_of_ble_eq_true rfl) ⟨_, zw_277, Or.inl rfl⟩ rfl rfl dX10_ring_36 ?_
  refine z_icmp_eq 54 dX10_ring_39 (by decide) (fun c49 => ?_) (fun c49 => ?_)
  · have h := h.1 c49
    exact z_throwW (cls := "java/lang/IllegalStateException") (text := "the touch can't be rung today") zw_397 zw_51 zat_78 (by decide +kernel) rfl dX10_ring_54 dX10_ring_57 dX10_ring_58 dX10_ring_61 dX10_ring_64 rfl (Nat.le_of_ble_eq_true rfl) (Nat.le_of_ble_eq_true rfl) (Nat.le_of_ble_eq_true rfl) (Nat.le_of_ble_eq_true rfl) ⟨rfl, h⟩
  · have h := h.2 c49
    refine z_aload_n 1 dX10_ring_42 rfl rfl ?_
    refine z_getQ (c := 10) (j := 8) (f := 1008) hf12.1 hf12.2 (Nat.le_of_ble_eq_true rfl) rfl zU_X10 (Nat.le_of_ble_eq_true rfl) (Nat.le_of_ble_eq_true rfl) ⟨_, zw_272, Or.inl rfl⟩ rfl rfl dX10_ring_43 ?_
    refine z_aload 0 dX10_ring_46 rfl ?_
    obtain ⟨b13, hb14, h⟩ := h
    rw [show va_rf (gR S10 1008 a0) = Value.ref b13 from by rw [hb14]; rfl]
    obtain ⟨hf48, h⟩ := h
    refine z_callVI (ci := 8) (st := []) (w_X7_canRingToday h) hf48.1 hf48.2 (Nat.le_of_ble_eq_true rfl) rfl zw_957 zw_954 zw_955 zw_956 zw_39 zy_X7_canRingToday rfl rfl ⟨Nat.le_of_ble_eq_true rfl, Nat.le_of_ble_eq_true rfl⟩ ⟨(Nat.le_of_ble_eq_true rfl), (Nat.le_of_ble_eq_true rfl)⟩ (Nat.le_of_ble_eq_true rfl) dX10_ring_48 (fun _ _ hx => hx.elim) (fun r16 S15 h => ?_)
    refine z_widen (k' := 4) (n' := 24) (Nat.le_refl _) (Nat.le_refl _) ?_
    refine z_if_ne 65 dX10_ring_51 (by decide) (fun c47 => ?_) (fun c47 => ?_)
    · have h := h.1 c47
      refine z_aload_n 1 dX10_ring_65 rfl rfl ?_
      obtain ⟨hf17, h⟩ := h
      refine z_getQ (c := 10) (j := 8) (f := 1008) hf17.1 hf17.2 (Nat.le_of_ble_eq_true rfl) rfl zU_X10 (Nat.le_of_ble_eq_true rfl) (Nat.le_of_ble_eq_true rfl) ⟨_, zw_272, Or.inl rfl⟩ rfl rfl dX10_ring_66 ?_
      obtain ⟨b18, hb19, h⟩ := h
      rw [show va_rf (gR S15 1008 a0) = Value.ref b18 from by rw [hb19]; rfl]
      obtain ⟨hf46, h⟩ := h
      refine z_callVV (ci := 8) (st := []) (w_X7_keepBandOfToday h) hf46.1 hf46.2 (Nat.le_of_ble_eq_true rfl) rfl zw_963 zw_960 zw_961 zw_962 zw_39 zy_X7_keepBandOfToday rfl rfl ⟨Nat.le_of_ble_eq_true rfl, Nat.le_of_ble_eq_true rfl⟩ ⟨(Nat.le_of_ble_eq_true rfl), (Nat.le_of_ble_eq_true rfl)⟩ (Nat.le_of_ble_eq_true rfl) dX10_ring_69 (fun _ _ hx => hx.elim) (fun S20 h => ?_)
      refine z_widen (k' := 4) (n' := 24) (Nat.le_refl _) (Nat.le_refl _) ?_
      refine z_aload_n 1 dX10_ring_72 rfl rfl ?_
      obtain ⟨hf22, h⟩ := h
      refine z_getQ (c := 10) (j := 7) (f := 1007) hf22.1 hf22.2 (Nat.le_of_ble_eq_true rfl) rfl zU_X10 (Nat.le_of_ble_eq_true rfl) (Nat.le_of_ble_eq_true rfl) ⟨_, zw_271, Or.inl rfl⟩ rfl rfl dX10_ring_73 ?_
      obtain ⟨b23, hb24, h⟩ := h
      rw [show va_rf (gR S20 1007 a0) = Value.ref b23 from by rw [hb24]; rfl]
      obtain ⟨hf45, h⟩ := h
      refine z_callVV (ci := 1) (st := []) (w_X0_forgetPulls h) hf45.1 hf45.2 (Nat.le_of_ble_eq_true rfl) rfl zw_967 zw_964 zw_965 zw_966 zw_37 zy_X0_forgetPulls rfl rfl ⟨Nat.le_of_ble_eq_true rfl, Nat.le_of_ble_eq_true rfl⟩ ⟨(Nat.le_of_ble_eq_true rfl), (Nat.le_of_ble_eq_true rfl)⟩ (Nat.le_of_ble_eq_true rfl) dX10_ring_76 (fun _ _ hx => hx.elim) (fun S25 h => ?_)
      refine z_widen (k' := 4) (n' := 24) (Nat.le_refl _) (Nat.le_refl _) ?_
      refine z_new (c := 7) (ty0 := tyX6) (Nat.le_of_ble_eq_true rfl) rfl zU_X6 tyX6_ok z0_X6 zw_968 zw_969 zw_56 (Nat.le_of_ble_eq_true rfl) (Nat.le_of_ble_eq_true rfl) dX10_ring_79 (fun q27 hq28 => ?_)
      have h := h q27 hq28 _ rfl
      obtain ⟨S29, hS30⟩ : ∃ z, z = nO S25 q27 7 := ⟨_, rfl⟩
      rw [← hS30] at h ⊢
      refine z_widen (k' := 5) (n' := 30) (Nat.le_refl _) (Nat.le_refl _) ?_
      refine z_dup dX10_ring_82 rfl ?_
      refine z_aload 0 dX10_ring_83 rfl ?_
      refine z_aload_n 1 dX10_ring_85 rfl rfl ?_
      obtain ⟨hf31, h⟩ := h
      refine z_getQ (c := 10) (j := 7) (f := 1007) hf31.1 hf31.2 (Nat.le_of_ble_eq_true rfl) rfl zU_X10 (Nat.le_of_ble_eq_true rfl) (Nat.le_of_ble_eq_true rfl) ⟨_, zw_271, Or.inl rfl⟩ rfl rfl dX10_ring_86 ?_
      obtain ⟨b32, hb33, h⟩ := h
      rw [show va_rf (gR S29 1007 a0) = Value.ref b32 from by rw [hb33]; rfl]
      obtain ⟨hf34, h⟩ := h
      refine z_getQ (c := 1) (j := 0) (f := 100) hf34.1 hf34.2 (Nat.le_of_ble_eq_true rfl) rfl zU_X0 (Nat.le_of_ble_eq_true rfl) (Nat.le_of_ble_eq_true rfl) ⟨_, zw_216, Or.inl rfl⟩ rfl rfl dX10_ring_89 ?_
      refine z_iload_n 3 dX10_ring_92 rfl rfl ?_
      refine z_iload_n 4 dX10_ring_93 rfl rfl ?_
      obtain ⟨b35, hb36, h⟩ := h
      rw [show va_rf (gR S29 100 b32) = Value.ref b35 from by rw [hb36]; rfl]
      refine z_callIV (st := [.ref q27]) (w_X6_init h) zw_972 zw_970 zw_971 zw_56 rfl zy_X6_init rfl rfl ⟨Nat.le_of_ble_eq_true rfl, Nat.le_of_ble_eq_true rfl⟩ ⟨(Nat.le_of_ble_eq_true rfl), (Nat.le_of_ble_eq_true rfl)⟩ (Nat.le_of_ble_eq_true rfl) dX10_ring_94 (fun _ _ hx => hx.elim) (fun S37 h => ?_)
      refine z_widen (k' := 5) (n' := 30) (Nat.le_refl _) (Nat.le_refl _) ?_
      refine z_astore (lv' := [(5, .ref q27), (4, .ref b3), (0, .ref a0), (1, .int l1), (2, .int l2), (3, .int l3)]) dX10_ring_97 (Nat.le_of_ble_eq_true rfl) rfl ?_
      refine z_aload_n 2 dX10_ring_99 rfl rfl ?_
      refine z_aload 0 dX10_ring_100 rfl ?_
      obtain ⟨hf39, h⟩ := h
      have h := h _ rfl
      refine z_putV (c := 10) (j := 9) (ty0 := tyX10) (S' := sR S37 1009 a0 (some q27)) hf39.1 hf39.2 (Nat.le_of_ble_eq_true rfl) rfl zU_X10 tyX10_ok nmX10 (Nat.le_of_ble_eq_true rfl) (Nat.le_of_ble_eq_true rfl) ⟨_, zw_273, Or.inl rfl⟩ (.inl rfl) (zrefn (ty := tyX10 9) (o := (some q27)) (by decide)) (zreff (ty := tyX10 9) (o := (some q27)) (by decide)) rfl (zUpR (v := (some q27)) hf39.2 (Nat.le_of_ble_eq_true rfl) (Nat.le_of_ble_eq_true rfl) rfl rfl) dX10_ring_102 ?_
      obtain ⟨S40, hS41⟩ : ∃ z, z = sR S37 1009 a0 (some q27) := ⟨_, rfl⟩
      rw [← hS41] at h ⊢
      have hf39 : a0 ∈ gL S40 ∧ gK S40 a0 = 10 := by rw [hS41]; exact hf39
      refine z_aload_n 2 dX10_ring_105 rfl rfl ?_
      refine z_callVV (ci := 10) (st := []) (w_X10_doReadyRows h) hf39.1 hf39.2 (Nat.le_of_ble_eq_true rfl) rfl zw_999 zw_996 zw_998 zw_22 zw_30 zy_X10_doReadyRows rfl rfl ⟨Nat.le_of_ble_eq_true rfl, Nat.le_of_ble_eq_true rfl⟩ ⟨(Nat.le_of_ble_eq_true rfl), (Nat.le_of_ble_eq_true rfl)⟩ (Nat.le_of_ble_eq_true rfl) dX10_ring_106 (fun _ _ hx => hx.elim) (fun S42 h => ?_)
      refine z_widen (k' := 5) (n' := 30) (Nat.le_refl _) (Nat.le_refl _) ?_
      refine z_aload 0 dX10_ring_109 rfl ?_
      obtain ⟨hf44, h⟩ := h
      refine z_getI (c := 7) (j := 1) (f := 701) hf44.1 hf44.2 (Nat.le_of_ble_eq_true rfl) rfl zU_X6 (Nat.le_of_ble_eq_true rfl) (Nat.le_of_ble_eq_true rfl) ⟨_, zw_977, Or.inl rfl⟩ rfl rfl dX10_ring_111 ?_
      exact z_ireturn ⟨rfl, _, rfl, h⟩ rfl (Nat.le_of_ble_eq_true rfl) (Nat.le_of_ble_eq_true rfl) dX10_ring_114
    · have h := h.2 c47
      exact z_throwW (cls := "java/lang/IllegalStateException") (text := "the touch can't be rung today") zw_397 zw_51 zat_78 (by decide +kernel) rfl dX10_ring_54 dX10_ring_57 dX10_ring_58 dX10_ring_61 dX10_ring_64 rfl (Nat.le_of_ble_eq_true rfl) (Nat.le_of_ble_eq_true rfl) (Nat.le_of_ble_eq_true rfl) (Nat.le_of_ble_eq_true rfl) ⟨rfl, h⟩
set_option maxRecDepth 20000 in
set_option maxHeartbeats 4000000 in
theorem w_X10_stand {E : zE} {a0 : Nat} {S : zS} {Q : Int32 → zS → Prop} {X : String → zS → Prop} (h : p_X10_stand E a0 S Q X) : zM E yX10_stand cX10_stand 2 (some .int) ({ frames := 6, cells := 1, slots := 6, locals := 152 } : Room) [.ref a0] S (qI Q) X := by
  unfold p_X10_stand at h
  refine zM_of RX10 false (by decide) rfl (fun h => by cases h) (Nat.le_of_ble_eq_true rfl) ?_
  refine z_aload_n 0 dX10_stand_0 rfl rfl ?_
  obtain ⟨hf1, h⟩ := h
  refine z_getQ (c := 10) (j := 9) (f := 1009) hf1.1 hf1.2 (Nat.le_of_ble_eq_true rfl) rfl zU_X10 (Nat.le_of_ble_eq_true rfl) (Nat.le_of_ble_eq_true rfl) ⟨_, zw_273, Or.inl rfl⟩ rfl rfl dX10_stand_1 ?_
  refine z_astore_nQ (lv' := [(1, va_rf (gR S 1009 a0)), (0, .ref a0)]) dX10_stand_4 rfl (Nat.le_of_ble_eq_true rfl) rfl ?_
  refine z_aload_nQ 0 dX10_stand_5 rfl rfl ?_
  rcases zor (gR S 1009 a0) with hb3 | ⟨b2, hb3⟩
  · have h := h.1 hb3
    rw [show va_rf (gR S 1009 a0) = Value.null from by rw [hb3]; rfl]
    refine z_ifnonnullN dX10_stand_6 ?_
    exact z_throwW (cls := "java/lang/IllegalStateException") (text := "no ringing is on") zw_397 zw_51 zat_78 (by decide +kernel) rfl dX10_stand_9 dX10_stand_12 dX10_stand_13 dX10_stand_16 dX10_stand_19 rfl (Nat.le_of_ble_eq_true rfl) (Nat.le_of_ble_eq_true rfl) (Nat.le_of_ble_eq_true rfl) (Nat.le_of_ble_eq_true rfl) ⟨rfl, h⟩
  · have h := h.2 b2 hb3
    rw [show va_rf (gR S 1009 a0) = Value.ref b2 from by rw [hb3]; rfl]
    refine z_ifnonnull 20 dX10_stand_6 (by decide) ?_
    refine z_aload_n 1 dX10_stand_20 rfl rfl ?_
    refine z_callVV (ci := 10) (st := []) (w_X10_endRinging h) hf1.1 hf1.2 (Nat.le_of_ble_eq_true rfl) rfl zw_1044 zw_1041 zw_1043 zw_26 zw_30 zy_X10_endRinging rfl rfl ⟨Nat.le_of_ble_eq_true rfl, Nat.le_of_ble_eq_true rfl⟩ ⟨(Nat.le_of_ble_eq_true rfl), (Nat.le_of_ble_eq_true rfl)⟩ (Nat.le_of_ble_eq_true rfl) dX10_stand_21 (fun _ _ hx => hx.elim) (fun S4 h => ?_)
    refine z_widen (k' := 0) (n' := 0) (Nat.le_refl _) (Nat.le_refl _) ?_
    refine z_aload_n 0 dX10_stand_24 rfl rfl ?_
    obtain ⟨hf6, h⟩ := h
    refine z_getI (c := 7) (j := 1) (f := 701) hf6.1 hf6.2 (Nat.le_of_ble_eq_true rfl) rfl zU_X6 (Nat.le_of_ble_eq_true rfl) (Nat.le_of_ble_eq_true rfl) ⟨_, zw_977, Or.inl rfl⟩ rfl rfl dX10_stand_25 ?_
    exact z_ireturn ⟨rfl, _, rfl, h⟩ rfl (Nat.le_of_ble_eq_true rfl) (Nat.le_of_ble_eq_true rfl) dX10_stand_28
set_option maxRecDepth 20000 in
set_option maxHeartbeats 4000000 in
theorem w_X10_isRinging {E : zE} {a0 : Nat} {S : zS} {Q : Int32 → zS → Prop} {X : String → zS → Prop} (h : p_X10_isRinging E a0 S Q X) : zM E yX10_isRinging cX10_isRinging 1 (some .boolean) ({ frames := 0, cells := 0, slots := 0, locals := 0 } : Room) [.ref a0] S (qI Q) X := by
  unfold p_X10_isRinging at h
  refine zM_of RX10 false (by decide) rfl (fun h => by cases h) (Nat.le_of_ble_eq_true rfl) ?_
  refine z_aload_n 0 dX10_isRinging_0 rfl rfl ?_
  obtain ⟨hf1, h⟩ := h
  refine z_getQ (c := 10) (j := 9) (f := 1009) hf1.1 hf1.2 (Nat.le_of_ble_eq_true rfl) rfl zU_X10 (Nat.le_of_ble_eq_true rfl) (Nat.le_of_ble_eq_true rfl) ⟨_, zw_273, Or.inl rfl⟩ rfl rfl dX10_isRinging_1 ?_
  rcases zor (gR S 1009 a0) with hb3 | ⟨b2, hb3⟩
  · have h := h.1 hb3
    rw [show va_rf (gR S 1009 a0) = Value.null from by rw [hb3]; rfl]
    refine z_ifnullN 11 dX10_isRinging_4 (by decide) ?_
    refine z_iconst (v := 0) dX10_isRinging_11 rfl ?_
    obtain ⟨hz4, h⟩ := h
    exact z_zreturn ⟨rfl, _, rfl, h⟩ rfl (zbn hz4) (Nat.le_of_ble_eq_true rfl) (Nat.le_of_ble_eq_true rfl) dX10_isRinging_12
  · have h := h.2 b2 hb3
    rw [show va_rf (gR S 1009 a0) = Value.ref b2 from by rw [hb3]; rfl]
    refine z_ifnull dX10_isRinging_4 ?_
    refine z_iconst (v := 1) dX10_isRinging_7 rfl ?_
    refine z_goto 12 dX10_isRinging_8 (by decide) ?_
    obtain ⟨hz5, h⟩ := h
    exact z_zreturn ⟨rfl, _, rfl, h⟩ rfl (zbn hz5) (Nat.le_of_ble_eq_true rfl) (Nat.le_of_ble_eq_true rfl) dX10_isRinging_12
set_option maxRecDepth 20000 in
set_option maxHeartbeats 4000000 in
theorem w_X10_ringingThatAwaits {E : zE} {a0 : Nat} {l1 : Int32} {S : zS} {Q : Option Nat → zS → Prop} {X : String → zS → Prop} (h : p_X10_ringingThatAwaits E a0 l1 S Q X) : zM E yX10_ringingThatAwaits cX10_ringingThatAwaits 3 (some (.object "GrandsireLoft$Ringing")) ({ frames := 6, cells := 1, slots := 6, locals := 82 } : Room) [.ref a0, .int l1] S (qR Q) X := by
  unfold p_X10_ringingThatAwaits at h
  refine zM_of RX10 false (by decide) rfl (fun h => by cases h) (Nat.le_of_ble_eq_true rfl) ?_
  refine z_aload_n 0 dX10_ringingThatAwaits_0 rfl rfl ?_
  obtain ⟨hf1, h⟩ := h
  refine z_getQ (c := 10) (j := 9) (f := 1009) hf1.1 hf1.2 (Nat.le_of_ble_eq_true rfl) rfl zU_X10 (Nat.le_of_ble_eq_true rfl) (Nat.le_of_ble_eq_true rfl) ⟨_, zw_273, Or.inl rfl⟩ rfl rfl dX10_ringingThatAwaits_1 ?_
  refine z_astore_nQ (lv' := [(2, va_rf (gR S 1009 a0)), (0, .ref a0), (1, .int l1)]) dX10_ringingThatAwaits_4 rfl (Nat.le_of_ble_eq_true rfl) rfl ?_
  refine z_aload_nQ 0 dX10_ringingThatAwaits_5 rfl rfl ?_
  rcases zor (gR S 1009 a0) with hb3 | ⟨b2, hb3⟩
  · have h := h.1 hb3
    rw [show va_rf (gR S 1009 a0) = Value.null from by rw [hb3]; rfl]
    refine z_ifnullN 17 dX10_ringingThatAwaits_6 (by decide) ?_
    exact z_throwW (cls := "java/lang/IllegalStateException") (text := "no pull of this bell is due") zw_397 zw_51 zat_78 (by decide +kernel) rfl dX10_ringingThatAwaits_17 dX10_ringingThatAwaits_20 dX10_ringingThatAwaits_21 dX10_ringingThatAwaits_24 dX10_ringingThatAwaits_27 rfl (Nat.le_of_ble_eq_true rfl) (Nat.le_of_ble_eq_true rfl) (Nat.le_of_ble_eq_true rfl) (Nat.le_of_ble_eq_true rfl) ⟨rfl, h⟩
  · have h := h.2 b2 hb3
    rw [show va_rf (gR S 1009 a0) = Value.ref b2 from by rw [hb3]; rfl]
    refine z_ifnull dX10_ringingThatAwaits_6 ?_
    refine z_aload_n 0 dX10_ringingThatAwaits_9 rfl rfl ?_
    refine z_iload_n 2 dX10_ringingThatAwaits_10 rfl rfl ?_
    obtain ⟨hf7, h⟩ := h
    refine z_callVI (ci := 7) (st := []) (w_X6_awaitsPull h) hf7.1 hf7.2 (Nat.le_of_ble_eq_true rfl) rfl zw_1104 zw_1101 zw_1102 zw_1103 zw_56 zy_X6_awaitsPull rfl rfl ⟨Nat.le_of_ble_eq_true rfl, Nat.le_of_ble_eq_true rfl⟩ ⟨(Nat.le_of_ble_eq_true rfl), (Nat.le_of_ble_eq_true rfl)⟩ (Nat.le_of_ble_eq_true rfl) dX10_ringingThatAwaits_11 (fun _ _ hx => hx.elim) (fun r5 S4 h => ?_)
    refine z_widen (k' := 0) (n' := 0) (Nat.le_refl _) (Nat.le_refl _) ?_
    refine z_if_ne 28 dX10_ringingThatAwaits_14 (by decide) (fun c6 => ?_) (fun c6 => ?_)
    · have h := h.1 c6
      refine z_aload_n 0 dX10_ringingThatAwaits_28 rfl rfl ?_
      exact z_areturn (v := va_rf (some b2)) ⟨rfl, _, rfl, h⟩ rfl (.inl ⟨_, rfl⟩) (va_rf_or _) (Nat.le_of_ble_eq_true rfl) (Nat.le_of_ble_eq_true rfl) dX10_ringingThatAwaits_29
    · have h := h.2 c6
      exact z_throwW (cls := "java/lang/IllegalStateException") (text := "no pull of this bell is due") zw_397 zw_51 zat_78 (by decide +kernel) rfl dX10_ringingThatAwaits_17 dX10_ringingThatAwaits_20 dX10_ringingThatAwaits_21 dX10_ringingThatAwaits_24 dX10_ringingThatAwaits_27 rfl (Nat.le_of_ble_eq_true rfl) (Nat.le_of_ble_eq_true rfl) (Nat.le_of_ble_eq_true rfl) (Nat.le_of_ble_eq_true rfl) ⟨rfl, h⟩
set_option maxRecDepth 20000 in
set_option maxHeartbeats 4000000 in
theorem w_X10_pull {E : zE} {a0 : Nat} {l1 : Int32} {l2 : Int32} {S : zS} {Q : Int32 → zS → Prop} {X : String → zS → Prop} (h : p_X10_pull E a0 l1 l2 S Q X) : zM E yX10_pull cX10_pull 6 (some .int) ({ frames := 8, cells := 4, slots := 24, locals := 174 } : Room) [.ref a0, .int l1, .int l2] S (qI Q) X := by
  unfold p_X10_pull at h
  refine zM_of RX10 false (by decide) rfl (fun h => by cases h) (Nat.le_of_ble_eq_true rfl) ?_
  refine z_aload_n 0 dX10_pull_0 rfl rfl ?_
  refine z_iload_n 1 dX10_pull_1 rfl rfl ?_
  obtain ⟨hf40, h⟩ := h
  refine z_callVR (ci := 10) (st := []) (w_X10_bellNumbered h) hf40.1 hf40.2 (Nat.le_of_ble_eq_true rfl) rfl zw_855 zw_852 zw_854 zw_18 zw_30 zy_X10_bellNumbered rfl rfl ⟨Nat.le_of_ble_eq_true rfl, Nat.le_of_ble_eq_true rfl⟩ ⟨(Nat.le_of_ble_eq_true rfl), (Nat.le_of_ble_eq_true rfl)⟩ (Nat.le_of_ble_eq_true rfl) dX10_pull_2 (fun ex S1 hx => zx_out rfl ⟨rfl, hx⟩ (Nat.le_of_ble_eq_true rfl) (Nat.le_of_ble_eq_true rfl)) (fun r2 S1 h => ?_)
  refine z_widen (k' := 1) (n' := 6) (Nat.le_refl _) (Nat.le_refl _) ?_
  refine z_astore_nQ (lv' := [(3, va_rf r2), (0, .ref a0), (1, .int l1), (2, .int l2)]) dX10_pull_5 rfl (Nat.le_of_ble_eq_true rfl) rfl ?_
  refine z_iload_n 3 dX10_pull_6 rfl rfl ?_
  refine z_iconst (v := 0) dX10_pull_7 rfl ?_
  refine z_ldcw zw_1096 dX10_pull_8 ?_
  refine z_callSV (st := []) (w_X10_requireRange h) zw_328 zw_326 zw_327 zw_30 zy_X10_requireRange rfl rfl ⟨Nat.le_of_ble_eq_true rfl, Nat.le_of_ble_eq_true rfl⟩ ⟨(Nat.le_of_ble_eq_true rfl), (Nat.le_of_ble_eq_true rfl)⟩ (Nat.le_of_ble_eq_true rfl) dX10_pull_11 (fun ex S3 hx => zx_out rfl ⟨rfl, hx⟩ (Nat.le_of_ble_eq_true rfl) (Nat.le_of_ble_eq_true rfl)) (fun S3 h => ?_)
  refine z_widen (k' := 2) (n' := 12) (Nat.le_refl _) (Nat.le_refl _) ?_
  refine z_aload_n 1 dX10_pull_14 rfl rfl ?_
  refine z_iload_n 2 dX10_pull_15 rfl rfl ?_
  obtain ⟨hf39, h⟩ := h
  refine z_callVR (ci := 10) (st := []) (w_X10_ringingThatAwaits h) hf39.1 hf39.2 (Nat.le_of_ble_eq_true rfl) rfl zw_1100 zw_1097 zw_1099 zw_28 zw_30 zy_X10_ringingThatAwaits rfl rfl ⟨Nat.le_of_ble_eq_true rfl, Nat.le_of_ble_eq_true rfl⟩ ⟨(Nat.le_of_ble_eq_true rfl), (Nat.le_of_ble_eq_true rfl)⟩ (Nat.le_of_ble_eq_true rfl) dX10_pull_16 (fun ex S5 hx => zx_out rfl ⟨rfl, hx⟩ (Nat.le_of_ble_eq_true rfl) (Nat.le_of_ble_eq_true rfl)) (fun r6 S5 h => ?_)
  refine z_widen (k' := 3) (n' := 18) (Nat.le_refl _) (Nat.le_refl _) ?_
  refine z_astoreQ (lv' := [(4, va_rf r6), (3, va_rf r2), (0, .ref a0), (1, .int l1), (2, .int l2)]) dX10_pull_19 (Nat.le_of_ble_eq_true rfl) (by generalize r2 = z9; cases z9 <;> rfl) ?_
  refine z_iload_n 4 dX10_pull_21 rfl rfl ?_
  refine z_aloadQ 0 dX10_pull_22 rfl ?_
  refine z_iload_n 3 dX10_pull_24 rfl rfl ?_
  obtain ⟨b7, hb8, h⟩ := h
  rw [show va_rf r6 = Value.ref b7 from by rw [hb8]; rfl]
  obtain ⟨hf38, h⟩ := h
  refine z_callVI (ci := 7) (st := [.int l2]) (w_X6_nextDue h) hf38.1 hf38.2 (Nat.le_of_ble_eq_true rfl) rfl zw_1109 zw_1106 zw_1107 zw_1108 zw_56 zy_X6_nextDue rfl rfl ⟨Nat.le_of_ble_eq_true rfl, Nat.le_of_ble_eq_true rfl⟩ ⟨(Nat.le_of_ble_eq_true rfl), (Nat.le_of_ble_eq_true rfl)⟩ (Nat.le_of_ble_eq_true rfl) dX10_pull_25 (fun _ _ hx => hx.elim) (fun r10 S9 h => ?_)
  refine z_widen (k' := 3) (n' := 18) (Nat.le_refl _) (Nat.le_refl _) ?_
  refine z_isub dX10_pull_28 ?_
  refine z_istore (lv' := [(5, .int (l2 - r10)), (4, .ref b7), (3, va_rf r2), (0, .ref a0), (1, .int l1), (2, .int l2)]) dX10_pull_29 (Nat.le_of_ble_eq_true rfl) rfl ?_
  refine z_aload_nQ 2 dX10_pull_31 rfl rfl ?_
  refine z_iload 0 dX10_pull_32 rfl ?_
  obtain ⟨b11, hb12, h⟩ := h
  rw [show va_rf r2 = Value.ref b11 from by rw [hb12]; rfl]
  obtain ⟨hf37, h⟩ := h
  refine z_callVI (ci := 2) (st := []) (w_X1_hasRoomForError h) hf37.1 hf37.2 (Nat.le_of_ble_eq_true rfl) rfl zw_1116 zw_1113 zw_1114 zw_1115 zw_38 zy_X1_hasRoomForError rfl rfl ⟨Nat.le_of_ble_eq_true rfl, Nat.le_of_ble_eq_true rfl⟩ ⟨(Nat.le_of_ble_eq_true rfl), (Nat.le_of_ble_eq_true rfl)⟩ (Nat.le_of_ble_eq_true rfl) dX10_pull_34 (fun _ _ hx => hx.elim) (fun r14 S13 h => ?_)
  refine z_widen (k' := 3) (n' := 18) (Nat.le_refl _) (Nat.le_refl _) ?_
  refine z_if_eq 54 dX10_pull_37 (by decide) (fun c36 => ?_) (fun c36 => ?_)
  · have h := h.1 c36
    exact z_throwW (cls := "java/lang/IllegalStateException") (text := "the error is too great") zw_397 zw_51 zat_78 (by decide +kernel) rfl dX10_pull_54 dX10_pull_57 dX10_pull_58 dX10_pull_61 dX10_pull_64 rfl (Nat.le_of_ble_eq_true rfl) (Nat.le_of_ble_eq_true rfl) (Nat.le_of_ble_eq_true rfl) (Nat.le_of_ble_eq_true rfl) ⟨rfl, h⟩
  · have h := h.2 c36
    refine z_aload 1 dX10_pull_40 rfl ?_
    refine z_iload 0 dX10_pull_42 rfl ?_
    refine z_aload_n 3 dX10_pull_44 rfl rfl ?_
    obtain ⟨hf15, h⟩ := h
    refine z_getI (c := 10) (j := 10) (f := 1010) hf15.1 hf15.2 (Nat.le_of_ble_eq_true rfl) rfl zU_X10 (Nat.le_of_ble_eq_true rfl) (Nat.le_of_ble_eq_true rfl) ⟨_, zw_274, Or.inl rfl⟩ rfl rfl dX10_pull_45 ?_
    obtain ⟨hf35, h⟩ := h
    refine z_callVI (ci := 7) (st := []) (w_X6_canWait h) hf35.1 hf35.2 (Nat.le_of_ble_eq_true rfl) rfl zw_1120 zw_1117 zw_1118 zw_1119 zw_56 zy_X6_canWait rfl rfl ⟨Nat.le_of_ble_eq_true rfl, Nat.le_of_ble_eq_true rfl⟩ ⟨(Nat.le_of_ble_eq_true rfl), (Nat.le_of_ble_eq_true rfl)⟩ (Nat.le_of_ble_eq_true rfl) dX10_pull_48 (fun _ _ hx => hx.elim) (fun r17 S16 h => ?_)
    refine z_widen (k' := 3) (n' := 18) (Nat.le_refl _) (Nat.le_refl _) ?_
    refine z_if_ne 65 dX10_pull_51 (by decide) (fun c34 => ?_) (fun c34 => ?_)
    · have h := h.1 c34
      refine z_aload_n 2 dX10_pull_65 rfl rfl ?_
      refine z_iload_n 5 dX10_pull_66 rfl rfl ?_
      obtain ⟨hf33, h⟩ := h
      refine z_callVV (ci := 2) (st := []) (w_X1_hearPull h) hf33.1 hf33.2 (Nat.le_of_ble_eq_true rfl) rfl zw_1126 zw_1123 zw_1124 zw_1125 zw_38 zy_X1_hearPull rfl rfl ⟨Nat.le_of_ble_eq_true rfl, Nat.le_of_ble_eq_true rfl⟩ ⟨(Nat.le_of_ble_eq_true rfl), (Nat.le_of_ble_eq_true rfl)⟩ (Nat.le_of_ble_eq_true rfl) dX10_pull_67 (fun _ _ hx => hx.elim) (fun S18 h => ?_)
      refine z_widen (k' := 3) (n' := 18) (Nat.le_refl _) (Nat.le_refl _) ?_
      refine z_aload_n 2 dX10_pull_70 rfl rfl ?_
      refine z_iload 0 dX10_pull_71 rfl ?_
      refine z_aload 1 dX10_pull_73 rfl ?_
      obtain ⟨hf32, h⟩ := h
      refine z_callVI (ci := 7) (st := [.int (l2 - r10), .ref b11]) (w_X6_quarterGap h) hf32.1 hf32.2 (Nat.le_of_ble_eq_true rfl) rfl zw_1131 zw_1128 zw_1129 zw_1130 zw_56 zy_X6_quarterGap rfl rfl ⟨Nat.le_of_ble_eq_true rfl, Nat.le_of_ble_eq_true rfl⟩ ⟨(Nat.le_of_ble_eq_true rfl), (Nat.le_of_ble_eq_true rfl)⟩ (Nat.le_of_ble_eq_true rfl) dX10_pull_75 (fun _ _ hx => hx.elim) (fun r21 S20 h => ?_)
      refine z_widen (k' := 3) (n' := 18) (Nat.le_refl _) (Nat.le_refl _) ?_
      obtain ⟨hf31, h⟩ := h
      refine z_callVV (ci := 2) (st := []) (w_X1_noteError h) hf31.1 hf31.2 (Nat.le_of_ble_eq_true rfl) rfl zw_1135 zw_1132 zw_1133 zw_1134 zw_38 zy_X1_noteError rfl rfl ⟨Nat.le_of_ble_eq_true rfl, Nat.le_of_ble_eq_true rfl⟩ ⟨(Nat.le_of_ble_eq_true rfl), (Nat.le_of_ble_eq_true rfl)⟩ (Nat.le_of_ble_eq_true rfl) dX10_pull_78 (fun _ _ hx => hx.elim) (fun S22 h => ?_)
      refine z_widen (k' := 3) (n' := 18) (Nat.le_refl _) (Nat.le_refl _) ?_
      refine z_aload 1 dX10_pull_81 rfl ?_
      refine z_iload 0 dX10_pull_83 rfl ?_
      refine z_aload_n 3 dX10_pull_85 rfl rfl ?_
      obtain ⟨hf24, h⟩ := h
      refine z_getI (c := 10) (j := 10) (f := 1010) hf24.1 hf24.2 (Nat.le_of_ble_eq_true rfl) rfl zU_X10 (Nat.le_of_ble_eq_true rfl) (Nat.le_of_ble_eq_true rfl) ⟨_, zw_274, Or.inl rfl⟩ rfl rfl dX10_pull_86 ?_
      obtain ⟨hf30, h⟩ := h
      refine z_callVV (ci := 7) (st := []) (w_X6_waitFor h) hf30.1 hf30.2 (Nat.le_of_ble_eq_true rfl) rfl zw_1139 zw_1136 zw_1137 zw_1138 zw_56 zy_X6_waitFor rfl rfl ⟨Nat.le_of_ble_eq_true rfl, Nat.le_of_ble_eq_true rfl⟩ ⟨(Nat.le_of_ble_eq_true rfl), (Nat.le_of_ble_eq_true rfl)⟩ (Nat.le_of_ble_eq_true rfl) dX10_pull_89 (fun _ _ hx => hx.elim) (fun S25 h => ?_)
      refine z_widen (k' := 3) (n' := 18) (Nat.le_refl _) (Nat.le_refl _) ?_
      refine z_aload_n 3 dX10_pull_92 rfl rfl ?_
      obtain ⟨hf29, h⟩ := h
      refine z_callVV (ci := 10) (st := []) (w_X10_doReadyRows h) hf29.1 hf29.2 (Nat.le_of_ble_eq_true rfl) rfl zw_999 zw_996 zw_998 zw_22 zw_30 zy_X10_doReadyRows rfl rfl ⟨Nat.le_of_ble_eq_true rfl, Nat.le_of_ble_eq_true rfl⟩ ⟨(Nat.le_of_ble_eq_true rfl), (Nat.le_of_ble_eq_true rfl)⟩ (Nat.le_of_ble_eq_true rfl) dX10_pull_93 (fun _ _ hx => hx.elim) (fun S27 h => ?_)
      refine z_widen (k' := 3) (n' := 18) (Nat.le_refl _) (Nat.le_refl _) ?_
      refine z_iload 0 dX10_pull_96 rfl ?_
      exact z_ireturn ⟨rfl, _, rfl, h⟩ rfl (Nat.le_of_ble_eq_true rfl) (Nat.le_of_ble_eq_true rfl) dX10_pull_98
    · have h := h.2 c34
      exact z_throwW (cls := "java/lang/IllegalStateException") (text := "the error is too great") zw_397 zw_51 zat_78 (by decide +kernel) rfl dX10_pull_54 dX10_pull_57 dX10_pull_58 dX10_pull_61 dX10_pull_64 rfl (Nat.le_of_ble_eq_true rfl) (Nat.le_of_ble_eq_true rfl) (Nat.le_of_ble_eq_true rfl) (Nat.le_of_ble_eq_true rfl) ⟨rfl, h⟩
set_option maxRecDepth 20000 in
set_option maxHeartbeats 4000000 in
theorem w_X10_due {E : zE} {a0 : Nat} {l1 : Int32} {S : zS} {Q : Int32 → zS → Prop} {X : String → zS → Prop} (h : p_X10_due E a0 l1 S Q X) : zM E yX10_due cX10_due 2 (some .int) ({ frames := 7, cells := 2, slots := 12, locals := 104 } : Room) [.ref a0, .int l1] S (qI Q) X := by
  unfold p_X10_due at h
  refine zM_of RX10 false (by decide) rfl (fun h => by cases h) (Nat.le_of_ble_eq_true rfl) ?_
  refine z_iload_n 1 dX10_due_0 rfl rfl ?_
  refine z_bipush (v := 6) dX10_due_1 rfl ?_
  refine z_callSV (st := []) (w_X10_requireIndex h) zw_587 zw_585 zw_586 zw_30 zy_X10_requireIndex rfl rfl ⟨Nat.le_of_ble_eq_true rfl, Nat.le_of_ble_eq_true rfl⟩ ⟨(Nat.le_of_ble_eq_true rfl), (Nat.le_of_ble_eq_true rfl)⟩ (Nat.le_of_ble_eq_true rfl) dX10_due_3 (fun ex S1 hx => zx_out rfl ⟨rfl, hx⟩ (Nat.le_of_ble_eq_true rfl) (Nat.le_of_ble_eq_true rfl)) (fun S1 h => ?_)
  refine z_widen (k' := 1) (n' := 6) (Nat.le_refl _) (Nat.le_refl _) ?_
  refine z_aload_n 0 dX10_due_6 rfl rfl ?_
  refine z_iload_n 1 dX10_due_7 rfl rfl ?_
  obtain ⟨hf10, h⟩ := h
  refine z_callVR (ci := 10) (st := []) (w_X10_ringingThatAwaits h) hf10.1 hf10.2 (Nat.le_of_ble_eq_true rfl) rfl zw_1100 zw_1097 zw_1099 zw_28 zw_30 zy_X10_ringingThatAwaits rfl rfl ⟨Nat.le_of_ble_eq_true rfl, Nat.le_of_ble_eq_true rfl⟩ ⟨(Nat.le_of_ble_eq_true rfl), (Nat.le_of_ble_eq_true rfl)⟩ (Nat.le_of_ble_eq_true rfl) dX10_due_8 (fun ex S3 hx => zx_out rfl ⟨rfl, hx⟩ (Nat.le_of_ble_eq_true rfl) (Nat.le_of_ble_eq_true rfl)) (fun r4 S3 h => ?_)
  refine z_widen (k' := 2) (n' := 12) (Nat.le_refl _) (Nat.le_refl _) ?_
  refine z_iload_n 1 dX10_due_11 rfl rfl ?_
  obtain ⟨b5, hb6, h⟩ := h
  rw [show va_rf r4 = Value.ref b5 from by rw [hb6]; rfl]
  obtain ⟨hf9, h⟩ := h
  refine z_callVI (ci := 7) (st := []) (w_X6_nextDue h) hf9.1 hf9.2 (Nat.le_of_ble_eq_true rfl) rfl zw_1109 zw_1106 zw_1107 zw_1108 zw_56 zy_X6_nextDue rfl rfl ⟨Nat.le_of_ble_eq_true rfl, Nat.le_of_ble_eq_true rfl⟩ ⟨(Nat.le_of_ble_eq_true rfl), (Nat.le_of_ble_eq_true rfl)⟩ (Nat.le_of_ble_eq_true rfl) dX10_due_12 (fun _ _ hx => hx.elim) (fun r8 S7 h => ?_)
  refine z_widen (k' := 2) (n' := 12) (Nat.le_refl _) (Nat.le_refl _) ?_
  exact z_ireturn ⟨rfl, _, rfl, h⟩ rfl (Nat.le_of_ble_eq_true rfl) (Nat.le_of_ble_eq_true rfl) dX10_due_15
set_option maxRecDepth 20000 in
set_option maxHeartbeats 4000000 in
theorem w_X10_setPatience {E : zE} {a0 : Nat} {l1 : Int32} {S : zS} {Q : Int32 → zS → Prop} {X : String → zS → Prop} (h : p_X10_setPatience E a0 l1 S Q X) : zM E yX10_setPatience cX10_setPatience 3 (some .int) ({ frames := 7, cells := 1, slots := 6, locals := 104 } : Room) [.ref a0, .int l1] S (qI Q) X := by
  unfold p_X10_setPatience at h
  refine zM_of RX10 false (by decide) rfl (fun h => by cases h) (Nat.le_of_ble_eq_true rfl) ?_
  refine z_iload_n 1 dX10_setPatience_0 rfl rfl ?_
  refine z_iconst (v := 0) dX10_setPatience_1 rfl ?_
  refine z_sipush (v := 1000) dX10_setPatience_2 rfl ?_
  refine z_callSV (st := []) (w_X10_requireRange h) zw_328 zw_326 zw_327 zw_30 zy_X10_requireRange rfl rfl ⟨Nat.le_of_ble_eq_true rfl, Nat.le_of_ble_eq_true rfl⟩ ⟨(Nat.le_of_ble_eq_true rfl), (Nat.le_of_ble_eq_true rfl)⟩ (Nat.le_of_ble_eq_true rfl) dX10_setPatience_5 (fun ex S1 hx => zx_out rfl ⟨rfl, hx⟩ (Nat.le_of_ble_eq_true rfl) (Nat.le_of_ble_eq_true rfl)) (fun S1 h => ?_)
  refine z_widen (k' := 1) (n' := 6) (Nat.le_refl _) (Nat.le_refl _) ?_
  refine z_aload_n 0 dX10_setPatience_8 rfl rfl ?_
  obtain ⟨hf3, h⟩ := h
  refine z_getI (c := 10) (j := 10) (f := 1010) hf3.1 hf3.2 (Nat.le_of_ble_eq_true rfl) rfl zU_X10 (Nat.le_of_ble_eq_true rfl) (Nat.le_of_ble_eq_true rfl) ⟨_, zw_274, Or.inl rfl⟩ rfl rfl dX10_setPatience_9 ?_
  refine z_istore_n (lv' := [(2, .int (gI S1 1010 a0)), (0, .ref a0), (1, .int l1)]) dX10_setPatience_12 rfl (Nat.le_of_ble_eq_true rfl) rfl ?_
  refine z_aload_n 1 dX10_setPatience_13 rfl rfl ?_
  refine z_iload_n 2 dX10_setPatience_14 rfl rfl ?_
  have h := h _ rfl
  refine z_putV (c := 10) (j := 10) (ty0 := tyX10) (S' := sI S1 1010 a0 l1) hf3.1 hf3.2 (Nat.le_of_ble_eq_true rfl) rfl zU_X10 tyX10_ok nmX10 (Nat.le_of_ble_eq_true rfl) (Nat.le_of_ble_eq_true rfl) ⟨_, zw_274, Or.inl rfl⟩ (.inl rfl) rfl rfl rfl (zUpI (v := l1) hf3.2 (Nat.le_of_ble_eq_true rfl) (Nat.le_of_ble_eq_true rfl) rfl rfl) dX10_setPatience_15 ?_
  obtain ⟨S4, hS5⟩ : ∃ z, z = sI S1 1010 a0 l1 := ⟨_, rfl⟩
  rw [← hS5] at h ⊢
  have hf3 : a0 ∈ gL S4 ∧ gK S4 a0 = 10 := by rw [hS5]; exact hf3
  refine z_iload_n 0 dX10_setPatience_18 rfl rfl ?_
  exact z_ireturn ⟨rfl, _, rfl, h⟩ rfl (Nat.le_of_ble_eq_true rfl) (Nat.le_of_ble_eq_true rfl) dX10_setPatience_19
set_option maxRecDepth 20000 in
set_option maxHeartbeats 4000000 in
theorem w_X10_done {E : zE} {a0 : Nat} {S : zS} {Q : Int32 → zS → Prop} {X : String → zS → Prop} (h : p_X10_done E a0 S Q X) : zM E yX10_done cX10_done 1 (some .int) ({ frames := 0, cells := 0, slots := 0, locals := 0 } : Room) [.ref a0] S (qI Q) X := by
  unfold p_X10_done at h
  refine zM_of RX10 false (by decide) rfl (fun h => by cases h) (Nat.le_of_ble_eq_true rfl) ?_
  refine z_aload_n 0 dX10_done_0 rfl rfl ?_
  obtain ⟨hf1, h⟩ := h
  refine z_getQ (c := 10) (j := 9) (f := 1009) hf1.1 hf1.2 (Nat.le_of_ble_eq_true rfl) rfl zU_X10 (Nat.le_of_ble_eq_true rfl) (Nat.le_of_ble_eq_true rfl) ⟨_, zw_273, Or.inl rfl⟩ rfl rfl dX10_done_1 ?_
  rcases zor (gR S 1009 a0) with hb3 | ⟨b2, hb3⟩
  · have h := h.1 hb3
    rw [show va_rf (gR S 1009 a0) = Value.null from by rw [hb3]; rfl]
    refine z_ifnonnullN dX10_done_4 ?_
    refine z_iconst (v := (-1)) dX10_done_7 rfl ?_
    refine z_goto 18 dX10_done_8 (by decide) ?_
    exact z_ireturn ⟨rfl, _, rfl, h⟩ rfl (Nat.le_of_ble_eq_true rfl) (Nat.le_of_ble_eq_true rfl) dX10_done_18
  · have h := h.2 b2 hb3
    rw [show va_rf (gR S 1009 a0) = Value.ref b2 from by rw [hb3]; rfl]
    refine z_ifnonnull 11 dX10_done_4 (by decide) ?_
    refine z_aload_n 0 dX10_done_11 rfl rfl ?_
    refine z_getQ (c := 10) (j := 9) (f := 1009) hf1.1 hf1.2 (Nat.le_of_ble_eq_true rfl) rfl zU_X10 (Nat.le_of_ble_eq_true rfl) (Nat.le_of_ble_eq_true rfl) ⟨_, zw_273, Or.inl rfl⟩ rfl rfl dX10_done_12 ?_
    obtain ⟨b4, hb5, h⟩ := h
    rw [show va_rf (gR S 1009 a0) = Value.ref b4 from by rw [hb5]; rfl]
    obtain ⟨hf6, h⟩ := h
    refine z_getI (c := 7) (j := 1) (f := 701) hf6.1 hf6.2 (Nat.le_of_ble_eq_true rfl) rfl zU_X6 (Nat.le_of_ble_eq_true rfl) (Nat.le_of_ble_eq_true rfl) ⟨_, zw_977, Or.inl rfl⟩ rfl rfl dX10_done_15 ?_
    exact z_ireturn ⟨rfl, _, rfl, h⟩ rfl (Nat.le_of_ble_eq_true rfl) (Nat.le_of_ble_eq_true rfl) dX10_done_18
set_option maxRecDepth 20000 in
set_option maxHeartbeats 4000000 in
theorem w_X10_delay {E : zE} {a0 : Nat} {S : zS} {Q : Int32 → zS → Prop} {X : String → zS → Prop} (h : p_X10_delay E a0 S Q X) : zM E yX10_delay cX10_delay 1 (some .int) ({ frames := 0, cells := 0, slots := 0, locals := 0 } : Room) [.ref a0] S (qI Q) X := by
  unfold p_X10_delay at h
  refine zM_of RX10 false (by decide) rfl (fun h => by cases h) (Nat.le_of_ble_eq_true rfl) ?_
  refine z_aload_n 0 dX10_delay_0 rfl rfl ?_
  obtain ⟨hf1, h⟩ := h
  refine z_getQ (c := 10) (j := 9) (f := 1009) hf1.1 hf1.2 (Nat.le_of_ble_eq_true rfl) rfl zU_X10 (Nat.le_of_ble_eq_true rfl) (Nat.le_of_ble_eq_true rfl) ⟨_, zw_273, Or.inl rfl⟩ rfl rfl dX10_delay_1 ?_
  rcases zor (gR S 1009 a0) with hb3 | ⟨b2, hb3⟩
  · have h := h.1 hb3
    rw [show va_rf (gR S 1009 a0) = Value.null from by rw [hb3]; rfl]
    refine z_ifnonnullN dX10_delay_4 ?_
    refine z_iconst (v := 0) dX10_delay_7 rfl ?_
    refine z_goto 18 dX10_delay_8 (by decide) ?_
    exact z_ireturn ⟨rfl, _, rfl, h⟩ rfl (Nat.le_of_ble_eq_true rfl) (Nat.le_of_ble_eq_true rfl) dX10_delay_18
  · have h := h.2 b2 hb3
    rw [show va_rf (gR S 1009 a0) = Value.ref b2 from by rw [hb3]; rfl]
    refine z_ifnonnull 11 dX10_delay_4 (by decide) ?_
    refine z_aload_n 0 dX10_delay_11 rfl rfl ?_
    refine z_getQ (c := 10) (j := 9) (f := 1009) hf1.1 hf1.2 (Nat.le_of_ble_eq_true rfl) rfl zU_X10 (Nat.le_of_ble_eq_true rfl) (Nat.le_of_ble_eq_true rfl) ⟨_, zw_273, Or.inl rfl⟩ rfl rfl dX10_delay_12 ?_
    obtain ⟨b4, hb5, h⟩ := h
    rw [show va_rf (gR S 1009 a0) = Value.ref b4 from by rw [hb5]; rfl]
    obtain ⟨hf6, h⟩ := h
    refine z_getI (c := 7) (j := 2) (f := 702) hf6.1 hf6.2 (Nat.le_of_ble_eq_true rfl) rfl zU_X6 (Nat.le_of_ble_eq_true rfl) (Nat.le_of_ble_eq_true rfl) ⟨_, zw_979, Or.inl rfl⟩ rfl rfl dX10_delay_15 ?_
    exact z_ireturn ⟨rfl, _, rfl, h⟩ rfl (Nat.le_of_ble_eq_true rfl) (Nat.le_of_ble_eq_true rfl) dX10_delay_18
set_option maxRecDepth 20000 in
set_option maxHeartbeats 4000000 in
theorem w_X10_late {E : zE} {a0 : Nat} {l1 : Int32} {S : zS} {Q : Int32 → zS → Prop} {X : String → zS → Prop} (h : p_X10_late E a0 l1 S Q X) : zM E yX10_late cX10_late 2 (some .int) ({ frames := 8, cells := 1, slots := 6, locals := 124 } : Room) [.ref a0, .int l1] S (qI Q) X := by
  unfold p_X10_late at h
  refine zM_of RX10 false (by decide) rfl (fun h => by cases h) (Nat.le_of_ble_eq_true rfl) ?_
  refine z_aload_n 0 dX10_late_0 rfl rfl ?_
  refine z_iload_n 1 dX10_late_1 rfl rfl ?_
  obtain ⟨hf6, h⟩ := h
  refine z_callVR (ci := 10) (st := []) (w_X10_bellNumbered h) hf6.1 hf6.2 (Nat.le_of_ble_eq_true rfl) rfl zw_855 zw_852 zw_854 zw_18 zw_30 zy_X10_bellNumbered rfl rfl ⟨Nat.le_of_ble_eq_true rfl, Nat.le_of_ble_eq_true rfl⟩ ⟨(Nat.le_of_ble_eq_true rfl), (Nat.le_of_ble_eq_true rfl)⟩ (Nat.le_of_ble_eq_true rfl) dX10_late_2 (fun ex S1 hx => zx_out rfl ⟨rfl, hx⟩ (Nat.le_of_ble_eq_true rfl) (Nat.le_of_ble_eq_true rfl)) (fun r2 S1 h => ?_)
  refine z_widen (k' := 1) (n' := 6) (Nat.le_refl _) (Nat.le_refl _) ?_
  obtain ⟨b3, hb4, h⟩ := h
  rw [show va_rf r2 = Value.ref b3 from by rw [hb4]; rfl]
  obtain ⟨hf5, h⟩ := h
  refine z_getI (c := 2) (j := 1) (f := 201) hf5.1 hf5.2 (Nat.le_of_ble_eq_true rfl) rfl zU_X1 (Nat.le_of_ble_eq_true rfl) (Nat.le_of_ble_eq_true rfl) ⟨_, zw_185, Or.inl rfl⟩ rfl rfl dX10_late_5 ?_
  exact z_ireturn ⟨rfl, _, rfl, h⟩ rfl (Nat.le_of_ble_eq_true rfl) (Nat.le_of_ble_eq_true rfl) dX10_late_8
set_option maxRecDepth 20000 in
set_option maxHeartbeats 4000000 in
theorem w_X10_early {E : zE} {a0 : Nat} {l1 : Int32} {S : zS} {Q : Int32 → zS → Prop} {X : String → zS → Prop} (h : p_X10_early E a0 l1 S Q X) : zM E yX10_early cX10_early 2 (some .int) ({ frames := 8, cells := 1, slots := 6, locals := 124 } : Room) [.ref a0, .int l1] S (qI Q) X := by
  unfold p_X10_early at h
  refine zM_of RX10 false (by decide) rfl (fun h => by cases h) (Nat.le_of_ble_eq_true rfl) ?_
  refine z_aload_n 0 dX10_early_0 rfl rfl ?_
  refine z_iload_n 1 dX10_early_1 rfl rfl ?_
  obtain ⟨hf6, h⟩ := h
  refine z_callVR (ci := 10) (st := []) (w_X10_bellNumbered h) hf6.1 hf6.2 (Nat.le_of_ble_eq_true rfl) rfl zw_855 zw_852 zw_854 zw_18 zw_30 zy_X10_bellNumbered rfl rfl ⟨Nat.le_of_ble_eq_true rfl, Nat.le_of_ble_eq_true rfl⟩ ⟨(Nat.le_of_ble_eq_true rfl), (Nat.le_of_ble_eq_true rfl)⟩ (Nat.le_of_ble_eq_true rfl) dX10_early_2 (fun ex S1 hx => zx_out rfl ⟨rfl, hx⟩ (Nat.le_of_ble_eq_true rfl) (Nat.le_of_ble_eq_true rfl)) (fun r2 S1 h => ?_)
  refine z_widen (k' := 1) (n' := 6) (Nat.le_refl _) (Nat.le_refl _) ?_
  obtain ⟨b3, hb4, h⟩ := h
  rw [show va_rf r2 = Value.ref b3 from by rw [hb4]; rfl]
  obtain ⟨hf5, h⟩ := h
  refine z_getI (c := 2) (j := 2) (f := 202) hf5.1 hf5.2 (Nat.le_of_ble_eq_true rfl) rfl zU_X1 (Nat.le_of_ble_eq_true rfl) (Nat.le_of_ble_eq_true rfl) ⟨_, zw_187, Or.inl rfl⟩ rfl rfl dX10_early_5 ?_
  exact z_ireturn ⟨rfl, _, rfl, h⟩ rfl (Nat.le_of_ble_eq_true rfl) (Nat.le_of_ble_eq_true rfl) dX10_early_8
set_option maxRecDepth 20000 in
set_option maxHeartbeats 4000000 in
theorem w_X10_errors {E : zE} {a0 : Nat} {l1 : Int32} {S : zS} {Q : Int32 → zS → Prop} {X : String → zS → Prop} (h : p_X10_errors E a0 l1 S Q X) : zM E yX10_errors cX10_errors 2 (some .int) ({ frames := 8, cells := 1, slots := 6, locals := 124 } : Room) [.ref a0, .int l1] S (qI Q) X := by
  unfold p_X10_errors at h
  refine zM_of RX10 false (by decide) rfl (fun h => by cases h) (Nat.le_of_ble_eq_true rfl) ?_
  refine z_aload_n 0 dX10_errors_0 rfl rfl ?_
  refine z_iload_n 1 dX10_errors_1 rfl rfl ?_
  obtain ⟨hf6, h⟩ := h
  refine z_callVR (ci := 10) (st := []) (w_X10_bellNumbered h) hf6.1 hf6.2 (Nat.le_of_ble_eq_true rfl) rfl zw_855 zw_852 zw_854 zw_18 zw_30 zy_X10_bellNumbered rfl rfl ⟨Nat.le_of_ble_eq_true rfl, Nat.le_of_ble_eq_true rfl⟩ ⟨(Nat.le_of_ble_eq_true rfl), (Nat.le_of_ble_eq_true rfl)⟩ (Nat.le_of_ble_eq_true rfl) dX10_errors_2 (fun ex S1 hx => zx_out rfl ⟨rfl, hx⟩ (Nat.le_of_ble_eq_true rfl) (Nat.le_of_ble_eq_true rfl)) (fun r2 S1 h => ?_)
  refine z_widen (k' := 1) (n' := 6) (Nat.le_refl _) (Nat.le_refl _) ?_
  obtain ⟨b3, hb4, h⟩ := h
  rw [show va_rf r2 = Value.ref b3 from by rw [hb4]; rfl]
  obtain ⟨hf5, h⟩ := h
  refine z_getI (c := 2) (j := 3) (f := 203) hf5.1 hf5.2 (Nat.le_of_ble_eq_true rfl) rfl zU_X1 (Nat.le_of_ble_eq_true rfl) (Nat.le_of_ble_eq_true rfl) ⟨_, zw_189, Or.inl rfl⟩ rfl rfl dX10_errors_5 ?_
  exact z_ireturn ⟨rfl, _, rfl, h⟩ rfl (Nat.le_of_ble_eq_true rfl) (Nat.le_of_ble_eq_true rfl) dX10_errors_8
set_option maxRecDepth 20000 in
set_option maxHeartbeats 4000000 in
theorem w_X10_wrong {E : zE} {a0 : Nat} {S : zS} {Q : Int32 → zS → Prop} {X : String → zS → Prop} (h : p_X10_wrong E a0 S Q X) : zM E yX10_wrong cX10_wrong 1 (some .int) ({ frames := 0, cells := 0, slots := 0, locals := 0 } : Room) [.ref a0] S (qI Q) X := by
  unfold p_X10_wrong at h
  refine zM_of RX10 false (by decide) rfl (fun h => by cases h) (Nat.le_of_ble_eq_true rfl) ?_
  refine z_aload_n 0 dX10_wrong_0 rfl rfl ?_
  obtain ⟨hf1, h⟩ := h
  refine z_getI (c := 10) (j := 11) (f := 1011) hf1.1 hf1.2 (Nat.le_of_ble_eq_true rfl) rfl zU_X10 (Nat.le_of_ble_eq_true rfl) (Nat.le_of_ble_eq_true rfl) ⟨_, zw_275, Or.inl rfl⟩ rfl rfl dX10_wrong_1 ?_
  exact z_ireturn ⟨rfl, _, rfl, h⟩ rfl (Nat.le_of_ble_eq_true rfl) (Nat.le_of_ble_eq_true rfl) dX10_wrong_4
set_option maxRecDepth 20000 in
set_option maxHeartbeats 4000000 in
theorem w_X10_rung {E : zE} {a0 : Nat} {S : zS} {Q : Int32 → zS → Prop} {X : String → zS → Prop} (h : p_X10_rung E a0 S Q X) : zM E yX10_rung cX10_rung 1 (some .int) ({ frames := 0, cells := 0, slots := 0, locals := 0 } : Room) [.ref a0] S (qI Q) X := by
  unfold p_X10_rung at h
  refine zM_of RX10 false (by decide) rfl (fun h => by cases h) (Nat.le_of_ble_eq_true rfl) ?_
  refine z_aload_n 0 dX10_rung_0 rfl rfl ?_
  obtain ⟨hf1, h⟩ := h
  refine z_getI (c := 10) (j := 12) (f := 1012) hf1.1 hf1.2 (Nat.le_of_ble_eq_true rfl) rfl zU_X10 (Nat.le_of_ble_eq_true rfl) (Nat.le_of_ble_eq_true rfl) ⟨_, zw_276, Or.inl rfl⟩ rfl rfl dX10_rung_1 ?_
  exact z_ireturn ⟨rfl, _, rfl, h⟩ rfl (Nat.le_of_ble_eq_true rfl) (Nat.le_of_ble_eq_true rfl) dX10_rung_4
set_option maxRecDepth 20000 in
set_option maxHeartbeats 4000000 in
theorem w_X10_latest {E : zE} {a0 : Nat} {S : zS} {Q : Int32 → zS → Prop} {X : String → zS → Prop} (h : p_X10_latest E a0 S Q X) : zM E yX10_latest cX10_latest 1 (some .int) ({ frames := 0, cells := 0, slots := 0, locals := 0 } : Room) [.ref a0] S (qI Q) X := by
  unfold p_X10_latest at h
  refine zM_of RX10 false (by decide) rfl (fun h => by cases h) (Nat.le_of_ble_eq_true rfl) ?_
  refine z_aload_n 0 dX10_latest_0 rfl rfl ?_
  obtain ⟨hf1, h⟩ := h
  refine z_getI (c := 10) (j := 13) (f := 1013) hf1.1 hf1.2 (Nat.le_of_ble_eq_true rfl) rfl zU_X10 (Nat.le_of_ble_eq_true rfl) (Nat.le_of_ble_eq_true rfl) ⟨_, zw_277, Or.inl rfl⟩ rfl rfl dX10_latest_1 ?_
  exact z_ireturn ⟨rfl, _, rfl, h⟩ rfl (Nat.le_of_ble_eq_true rfl) (Nat.le_of_ble_eq_true rfl) dX10_latest_4
