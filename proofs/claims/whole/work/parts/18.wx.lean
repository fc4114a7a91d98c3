set_option maxRecDepth 20000 in
set_option maxHeartbeats 4000000 in
theorem w_X11_plan_J95 {E : zE}  {Q : Int32 → zS → Prop} {X : String → zS → Prop}  (a0 : Nat) (l1 : Int32) (l2 : Int32) (S : zS) (h : p_X11_plan_J95 E  Q X a0 l1 l2 S) : zJ E (RX11, cX11_plan, 4, (some .int), false, [], zTr) ({ frames := 4, cells := 0, slots := 0, locals := 91 } : Room) (zq (qI Q)) (zx X) 95 [(0, .ref a0), (1, .int l1), (2, .int l2)] [] [] S 0 0 := by
  unfold p_X11_plan_J95 at h
  refine z_aload_n 0 dX11_plan_95 rfl rfl ?_
  obtain ⟨hf9, h⟩ := h
  refine z_getI (c := 11) (j := 0) (f := 1100) hf9.1 hf9.2 (Nat.le_of_ble_eq_true rfl) rfl zU_X11 (Nat.le_of_ble_eq_true rfl) (Nat.le_of_ble_eq_true rfl) ⟨_, zw_1298, Or.inl rfl⟩ rfl rfl dX11_plan_96 ?_
  refine z_if_le 104 dX11_plan_99 (by decide) (fun c38 => ?_) (fun c38 => ?_)
  · have h := h.1 c38
    refine z_aload_n 0 dX11_plan_104 rfl rfl ?_
    refine z_getQ (c := 11) (j := 22) (f := 1122) hf9.1 hf9.2 (Nat.le_of_ble_eq_true rfl) rfl zU_X11 (Nat.le_of_ble_eq_true rfl) (Nat.le_of_ble_eq_true rfl) ⟨_, zw_1320, Or.inl rfl⟩ rfl rfl dX11_plan_105 ?_
    refine z_iconst (v := 4) dX11_plan_108 rfl ?_
    refine z_iload_n 1 dX11_plan_109 rfl rfl ?_
    refine z_imul dX11_plan_110 ?_
    refine z_aload_n 0 dX11_plan_111 rfl rfl ?_
    refine z_getQ (c := 11) (j := 21) (f := 1121) hf9.1 hf9.2 (Nat.le_of_ble_eq_true rfl) rfl zU_X11 (Nat.le_of_ble_eq_true rfl) (Nat.le_of_ble_eq_true rfl) ⟨_, zw_1319, Or.inl rfl⟩ rfl rfl dX11_plan_112 ?_
    refine z_iload_n 1 dX11_plan_115 rfl rfl ?_
    obtain ⟨b10, hb11, h⟩ := h
    rw [show va_rf (gR S 1121 a0) = Value.ref b10 from by rw [hb11]; rfl]
    obtain ⟨hf12, h⟩ := h
    obtain ⟨j13, hj14, h⟩ := h
    refine z_iald (j := j13) hf12.1 hf12.2 hj14.1 hj14.2.1 hj14.2.2 dX11_plan_116 ?_
    refine z_iadd dX11_plan_117 ?_
    refine z_iload_n 2 dX11_plan_118 rfl rfl ?_
    obtain ⟨b15, hb16, h⟩ := h
    rw [show va_rf (gR S 1122 a0) = Value.ref b15 from by rw [hb16]; rfl]
    obtain ⟨hf17, h⟩ := h
    obtain ⟨j18, hj19, h⟩ := h
    have h := h _ rfl
    refine z_iast (j := j18) hf17.1 hf17.2 hj19.1 hj19.2.1 hj19.2.2 dX11_plan_119 ?_
    obtain ⟨S20, hS21⟩ : ∃ z, z = sA S b15 j18 l2 := ⟨_, rfl⟩
    rw [← hS21] at h ⊢
    have hf9 : a0 ∈ gL S20 ∧ gK S20 a0 = 11 := by rw [hS21]; exact hf9
    have hf12 : b10 ∈ gL S20 ∧ gK S20 b10 = 12 := by rw [hS21]; exact hf12
    have hf17 : b15 ∈ gL S20 ∧ gK S20 b15 = 12 := by rw [hS21]; exact hf17
    refine z_aload_n 0 dX11_plan_120 rfl rfl ?_
    refine z_getQ (c := 11) (j := 21) (f := 1121) hf9.1 hf9.2 (Nat.le_of_ble_eq_true rfl) rfl zU_X11 (Nat.le_of_ble_eq_true rfl) (Nat.le_of_ble_eq_true rfl) ⟨_, zw_1319, Or.inl rfl⟩ rfl rfl dX11_plan_121 ?_
    refine z_iload_n 1 dX11_plan_124 rfl rfl ?_
    refine z_dup2 dX11_plan_125 rfl (zcat _) ?_
    obtain ⟨b22, hb23, h⟩ := h
    rw [show va_rf (gR S20 1121 a0) = Value.ref b22 from by rw [hb23]; rfl]
    obtain ⟨hf24, h⟩ := h
    obtain ⟨j25, hj26, h⟩ := h
    refine z_iald (j := j25) hf24.1 hf24.2 hj26.1 hj26.2.1 hj26.2.2 dX11_plan_126 ?_
    refine z_iconst (v := 1) dX11_plan_127 rfl ?_
    refine z_iadd dX11_plan_128 ?_
    obtain ⟨j27, hj28, h⟩ := h
    have h := h _ rfl
    refine z_iast (j := j27) hf24.1 hf24.2 hj28.1 hj28.2.1 hj28.2.2 dX11_plan_129 ?_
    obtain ⟨S29, hS30⟩ : ∃ z, z = sA S20 b22 j27 ((gA S20 b22 j25) + 1) := ⟨_, rfl⟩
    rw [← hS30] at h ⊢
    have hf9 : a0 ∈ gL S29 ∧ gK S29 a0 = 11 := by rw [hS30]; exact hf9
    have hf12 : b10 ∈ gL S29 ∧ gK S29 b10 = 12 := by rw [hS30]; exact hf12
    have hf17 : b15 ∈ gL S29 ∧ gK S29 b15 = 12 := by rw [hS30]; exact hf17
    have hf24 : b22 ∈ gL S29 ∧ gK S29 b22 = 12 := by rw [hS30]; exact hf24
    refine z_aload_n 0 dX11_plan_130 rfl rfl ?_
    refine z_getQ (c := 11) (j := 21) (f := 1121) hf9.1 hf9.2 (Nat.le_of_ble_eq_true rfl) rfl zU_X11 (Nat.le_of_ble_eq_true rfl) (Nat.le_of_ble_eq_true rfl) ⟨_, zw_1319, Or.inl rfl⟩ rfl rfl dX11_plan_131 ?_
    refine z_iload_n 1 dX11_plan_134 rfl rfl ?_
    obtain ⟨b31, hb32, h⟩ := h
    rw [show va_rf (gR S29 1121 a0) = Value.ref b31 from by rw [hb32]; rfl]
    obtain ⟨hf33, h⟩ := h
    obtain ⟨j34, hj35, h⟩ := h
    refine z_iald (j := j34) hf33.1 hf33.2 hj35.1 hj35.2.1 hj35.2.2 dX11_plan_135 ?_
    exact z_ireturn ⟨rfl, _, rfl, h⟩ rfl (Nat.le_of_ble_eq_true rfl) (Nat.le_of_ble_eq_true rfl) dX11_plan_136
  · have h := h.2 c38
    refine z_iconst (v := 0) dX11_plan_102 rfl ?_
    exact z_ireturn ⟨rfl, _, rfl, h⟩ rfl (Nat.le_of_ble_eq_true rfl) (Nat.le_of_ble_eq_true rfl) dX11_plan_103
set_option maxRecDepth 20000 in
set_option maxHeartbeats 4000000 in
theorem w_X11_plan_J92 {E : zE}  {Q : Int32 → zS → Prop} {X : String → zS → Prop}  (a0 : Nat) (l1 : Int32) (l2 : Int32) (l100 : Int32) (a101 : Nat) (S : zS) (h : p_X11_plan_J92 E  Q X a0 l1 l2 l100 a101 S) : zJ E (RX11, cX11_plan, 4, (some .int), false, [], zTr) ({ frames := 4, cells := 0, slots := 0, locals := 91 } : Room) (zq (qI Q)) (zx X) 92 [(0, .ref a0), (1, .int l1), (2, .int l2)] [.int l100, .ref a101] [] S 0 0 := by
  unfold p_X11_plan_J92 at h
  obtain ⟨hf44, h⟩ := h
  have h := h _ rfl
  refine z_putV (c := 11) (j := 0) (ty0 := tyX11) (S' := sI S 1100 a101 l100) hf44.1 hf44.2 (Nat.le_of_ble_eq_true rfl) rfl zU_X11 tyX11_ok nmX11 (Nat.le_of_ble_eq_true rfl) (Nat.le_of_ble_eq_true rfl) ⟨_, zw_1298, Or.inl rfl⟩ (.inl rfl) rfl rfl rfl (zUpI (v := l100) hf44.2 (Nat.le_of_ble_eq_true rfl) (Nat.le_of_ble_eq_true rfl) rfl rfl) dX11_plan_92 ?_
  obtain ⟨S45, hS46⟩ : ∃ z, z = sI S 1100 a101 l100 := ⟨_, rfl⟩
  rw [← hS46] at h ⊢
  have hf44 : a101 ∈ gL S45 ∧ gK S45 a101 = 11 := by rw [hS46]; exact hf44
  refine w_X11_plan_J95 a0 l1 l2 S45 h
set_option maxRecDepth 20000 in
set_option maxHeartbeats 4000000 in
theorem w_X11_plan_J81 {E : zE}  {Q : Int32 → zS → Prop} {X : String → zS → Prop}  (a0 : Nat) (l1 : Int32) (l2 : Int32) (l100 : Int32) (S : zS) (h : p_X11_plan_J81 E  Q X a0 l1 l2 l100 S) : zJ E (RX11, cX11_plan, 4, (some .int), false, [], zTr) ({ frames := 4, cells := 0, slots := 0, locals := 91 } : Room) (zq (qI Q)) (zx X) 81 [(0, .ref a0), (1, .int l1), (2, .int l2)] [.int l100] [] S 0 0 := by
  unfold p_X11_plan_J81 at h
  refine z_istore_n (lv' := [(3, .int l100), (0, .ref a0), (1, .int l1), (2, .int l2)]) dX11_plan_81 rfl (Nat.le_of_ble_eq_true rfl) rfl ?_
  refine z_aload_n 1 dX11_plan_82 rfl rfl ?_
  refine z_iload_n 0 dX11_plan_83 rfl rfl ?_
  refine z_if_eq 91 dX11_plan_84 (by decide) (fun c47 => ?_) (fun c47 => ?_)
  · have h := h.1 c47
    refine z_iconst (v := 3) dX11_plan_91 rfl ?_
    refine z_sub [1, 2, 3] rfl ?_
    refine w_X11_plan_J92 a0 l1 l2 3 a0 S h
  · have h := h.2 c47
    refine z_iconst (v := 0) dX11_plan_87 rfl ?_
    refine z_goto 92 dX11_plan_88 (by decide) ?_
    refine z_sub [1, 2, 3] rfl ?_
    refine w_X11_plan_J92 a0 l1 l2 0 a0 S h
set_option maxRecDepth 20000 in
set_option maxHeartbeats 4000000 in
theorem w_X11_plan_J80 {E : zE}  {Q : Int32 → zS → Prop} {X : String → zS → Prop}  (a0 : Nat) (l1 : Int32) (l2 : Int32) (S : zS) (h : p_X11_plan_J80 E  Q X a0 l1 l2 S) : zJ E (RX11, cX11_plan, 4, (some .int), false, [], zTr) ({ frames := 4, cells := 0, slots := 0, locals := 91 } : Room) (zq (qI Q)) (zx X) 80 [(0, .ref a0), (1, .int l1), (2, .int l2)] [] [] S 0 0 := by
  unfold p_X11_plan_J80 at h
  refine z_iconst (v := 0) dX11_plan_80 rfl ?_
  refine w_X11_plan_J81 a0 l1 l2 0 S h
set_option maxRecDepth 20000 in
set_option maxHeartbeats 4000000 in
theorem w_X11_plan_J26 {E : zE}  {Q : Int32 → zS → Prop} {X : String → zS → Prop}  (a0 : Nat) (l1 : Int32) (l2 : Int32) (l100 : Int32) (a101 : Nat) (S : zS) (h : p_X11_plan_J26 E  Q X a0 l1 l2 l100 a101 S) : zJ E (RX11, cX11_plan, 4, (some .int), false, [], zTr) ({ frames := 4, cells := 0, slots := 0, locals := 91 } : Room) (zq (qI Q)) (zx X) 26 [(0, .ref a0), (1, .int l1), (2, .int l2)] [.int l100, .ref a101] [] S 0 0 := by
  unfold p_X11_plan_J26 at h
  obtain ⟨hf5, h⟩ := h
  have h := h _ rfl
  refine z_putV (c := 11) (j := 0) (ty0 := tyX11) (S' := sI S 1100 a101 l100) hf5.1 hf5.2 (Nat.le_of_ble_eq_true rfl) rfl zU_X11 tyX11_ok nmX11 (Nat.le_of_ble_eq_true rfl) (Nat.le_of_ble_eq_true rfl) ⟨_, zw_1298, Or.inl rfl⟩ (.inl rfl) rfl rfl rfl (zUpI (v := l100) hf5.2 (Nat.le_of_ble_eq_true rfl) (Nat.le_of_ble_eq_true rfl) rfl rfl) dX11_plan_26 ?_
  obtain ⟨S6, hS7⟩ : ∃ z, z = sI S 1100 a101 l100 := ⟨_, rfl⟩
  rw [← hS7] at h ⊢
  have hf5 : a101 ∈ gL S6 ∧ gK S6 a101 = 11 := by rw [hS7]; exact hf5
  refine z_aload_n 0 dX11_plan_29 rfl rfl ?_
  obtain ⟨hf8, h⟩ := h
  refine z_getI (c := 11) (j := 0) (f := 1100) hf8.1 hf8.2 (Nat.le_of_ble_eq_true rfl) rfl zU_X11 (Nat.le_of_ble_eq_true rfl) (Nat.le_of_ble_eq_true rfl) ⟨_, zw_1298, Or.inl rfl⟩ rfl rfl dX11_plan_30 ?_
  refine z_if_ne 95 dX11_plan_33 (by decide) (fun c63 => ?_) (fun c63 => ?_)
  · have h := h.1 c63
    refine w_X11_plan_J95 a0 l1 l2 S6 h
  · have h := h.2 c63
    refine z_aload_n 0 dX11_plan_36 rfl rfl ?_
    refine z_getQ (c := 11) (j := 21) (f := 1121) hf8.1 hf8.2 (Nat.le_of_ble_eq_true rfl) rfl zU_X11 (Nat.le_of_ble_eq_true rfl) (Nat.le_of_ble_eq_true rfl) ⟨_, zw_1319, Or.inl rfl⟩ rfl rfl dX11_plan_37 ?_
    refine z_iload_n 1 dX11_plan_40 rfl rfl ?_
    obtain ⟨b39, hb40, h⟩ := h
    rw [show va_rf (gR S6 1121 a0) = Value.ref b39 from by rw [hb40]; rfl]
    obtain ⟨hf41, h⟩ := h
    obtain ⟨j42, hj43, h⟩ := h
    refine z_iald (j := j42) hf41.1 hf41.2 hj43.1 hj43.2.1 hj43.2.2 dX11_plan_41 ?_
    refine z_iconst (v := 4) dX11_plan_42 rfl ?_
    refine z_icmp_ge 80 dX11_plan_43 (by decide) (fun c62 => ?_) (fun c62 => ?_)
    · have h := h.1 c62
      refine w_X11_plan_J80 a0 l1 l2 S6 h
    · have h := h.2 c62
      refine z_aload_n 0 dX11_plan_46 rfl rfl ?_
      refine z_iload_n 1 dX11_plan_47 rfl rfl ?_
      refine z_iload_n 2 dX11_plan_48 rfl rfl ?_
      refine z_callVI (ci := 11) (st := []) (w_X11_placeOf h) hf8.1 hf8.2 (Nat.le_of_ble_eq_true rfl) rfl zw_1655 zw_1652 zw_1654 zw_48 zw_74 zy_X11_placeOf rfl rfl ⟨Nat.le_of_ble_eq_true rfl, Nat.le_of_ble_eq_true rfl⟩ ⟨(Nat.le_of_ble_eq_true rfl), (Nat.le_of_ble_eq_true rfl)⟩ (Nat.le_of_ble_eq_true rfl) dX11_plan_49 (fun _ _ hx => hx.elim) (fun r49 S48 h => ?_)
      refine z_widen (k' := 0) (n' := 0) (Nat.le_refl _) (Nat.le_refl _) ?_
      refine z_iconst (v := (-1)) dX11_plan_52 rfl ?_
      refine z_icmp_ne 80 dX11_plan_53 (by decide) (fun c61 => ?_) (fun c61 => ?_)
      · have h := h.1 c61
        refine w_X11_plan_J80 a0 l1 l2 S48 h
      · have h := h.2 c61
        refine z_aload_n 0 dX11_plan_56 rfl rfl ?_
        refine z_iload_n 2 dX11_plan_57 rfl rfl ?_
        obtain ⟨hf60, h⟩ := h
        refine z_callVI (ci := 11) (st := []) (w_X11_isSound h) hf60.1 hf60.2 (Nat.le_of_ble_eq_true rfl) rfl zw_1474 zw_1471 zw_1473 zw_34 zw_74 zy_X11_isSound rfl rfl ⟨Nat.le_of_ble_eq_true rfl, Nat.le_of_ble_eq_true rfl⟩ ⟨(Nat.le_of_ble_eq_true rfl), (Nat.le_of_ble_eq_true rfl)⟩ (Nat.le_of_ble_eq_true rfl) dX11_plan_58 (fun _ _ hx => hx.elim) (fun r51 S50 h => ?_)
        refine z_widen (k' := 0) (n' := 0) (Nat.le_refl _) (Nat.le_refl _) ?_
        refine z_if_eq 80 dX11_plan_61 (by decide) (fun c59 => ?_) (fun c59 => ?_)
        · have h := h.1 c59
          refine w_X11_plan_J80 a0 l1 l2 S50 h
        · have h := h.2 c59
          refine z_aload_n 0 dX11_plan_64 rfl rfl ?_
          refine z_aload_n 0 dX11_plan_65 rfl rfl ?_
          refine z_iload_n 2 dX11_plan_66 rfl rfl ?_
          obtain ⟨hf58, h⟩ := h
          refine z_callVI (ci := 11) (st := [.ref a0]) (w_X11_stageOf h) hf58.1 hf58.2 (Nat.le_of_ble_eq_true rfl) rfl zw_1462 zw_1459 zw_1461 zw_31 zw_74 zy_X11_stageOf rfl rfl ⟨Nat.le_of_ble_eq_true rfl, Nat.le_of_ble_eq_true rfl⟩ ⟨(Nat.le_of_ble_eq_true rfl), (Nat.le_of_ble_eq_true rfl)⟩ (Nat.le_of_ble_eq_true rfl) dX11_plan_67 (fun _ _ hx => hx.elim) (fun r53 S52 h => ?_)
          refine z_widen (k' := 0) (n' := 0) (Nat.le_refl _) (Nat.le_refl _) ?_
          obtain ⟨hf57, h⟩ := h
          refine z_callVI (ci := 11) (st := []) (w_X11_areIn h) hf57.1 hf57.2 (Nat.le_of_ble_eq_true rfl) rfl zw_1466 zw_1463 zw_1465 zw_32 zw_74 zy_X11_areIn rfl rfl ⟨Nat.le_of_ble_eq_true rfl, Nat.le_of_ble_eq_true rfl⟩ ⟨(Nat.le_of_ble_eq_true rfl), (Nat.le_of_ble_eq_true rfl)⟩ (Nat.le_of_ble_eq_true rfl) dX11_plan_70 (fun _ _ hx => hx.elim) (fun r55 S54 h => ?_)
          refine z_widen (k' := 0) (n' := 0) (Nat.le_refl _) (Nat.le_refl _) ?_
          refine z_if_eq 80 dX11_plan_73 (by decide) (fun c56 => ?_) (fun c56 => ?_)
          · have h := h.1 c56
            refine w_X11_plan_J80 a0 l1 l2 S54 h
          · have h := h.2 c56
            refine z_iconst (v := 1) dX11_plan_76 rfl ?_
            refine z_goto 81 dX11_plan_77 (by decide) ?_
            refine w_X11_plan_J81 a0 l1 l2 1 S54 h
set_option maxRecDepth 20000 in
set_option maxHeartbeats 4000000 in
theorem w_X11_plan {E : zE} {a0 : Nat} {l1 : Int32} {l2 : Int32} {S : zS} {Q : Int32 → zS → Prop} {X : String → zS → Prop} (h : p_X11_plan E a0 l1 l2 S Q X) : zM E yX11_plan cX11_plan 4 (some .int) ({ frames := 4, cells := 0, slots := 0, locals := 91 } : Room) [.ref a0, .int l1, .int l2] S (qI Q) X := by
  unfold p_X11_plan at h
  refine zM_of RX11 false (by decide) rfl (fun h => by cases h) (Nat.le_of_ble_eq_true rfl) ?_
  refine z_aload_n 0 dX11_plan_0 rfl rfl ?_
  refine z_aload_n 0 dX11_plan_1 rfl rfl ?_
  refine z_iload_n 2 dX11_plan_2 rfl rfl ?_
  obtain ⟨hf67, h⟩ := h
  refine z_callVI (ci := 11) (st := [.ref a0]) (w_X11_isTouch h) hf67.1 hf67.2 (Nat.le_of_ble_eq_true rfl) rfl zw_1584 zw_1581 zw_1583 zw_45 zw_74 zy_X11_isTouch rfl rfl ⟨Nat.le_of_ble_eq_true rfl, Nat.le_of_ble_eq_true rfl⟩ ⟨(Nat.le_of_ble_eq_true rfl), (Nat.le_of_ble_eq_true rfl)⟩ (Nat.le_of_ble_eq_true rfl) dX11_plan_3 (fun _ _ hx => hx.elim) (fun r2 S1 h => ?_)
  refine z_widen (k' := 0) (n' := 0) (Nat.le_refl _) (Nat.le_refl _) ?_
  refine z_if_ne 13 dX11_plan_6 (by decide) (fun c66 => ?_) (fun c66 => ?_)
  · have h := h.1 c66
    refine z_aload_n 0 dX11_plan_13 rfl rfl ?_
    refine z_iload_n 1 dX11_plan_14 rfl rfl ?_
    obtain ⟨hf65, h⟩ := h
    refine z_callVI (ci := 11) (st := [.ref a0]) (w_X11_isDay h) hf65.1 hf65.2 (Nat.le_of_ble_eq_true rfl) rfl zw_1651 zw_1648 zw_1650 zw_47 zw_74 zy_X11_isDay rfl rfl ⟨Nat.le_of_ble_eq_true rfl, Nat.le_of_ble_eq_true rfl⟩ ⟨(Nat.le_of_ble_eq_true rfl), (Nat.le_of_ble_eq_true rfl)⟩ (Nat.le_of_ble_eq_true rfl) dX11_plan_15 (fun _ _ hx => hx.elim) (fun r4 S3 h => ?_)
    refine z_widen (k' := 0) (n' := 0) (Nat.le_refl _) (Nat.le_refl _) ?_
    refine z_if_eq 25 dX11_plan_18 (by decide) (fun c64 => ?_) (fun c64 => ?_)
    · have h := h.1 c64
      refine z_iconst (v := 2) dX11_plan_25 rfl ?_
      refine w_X11_plan_J26 a0 l1 l2 2 a0 S3 h
    · have h := h.2 c64
      refine z_iconst (v := 0) dX11_plan_21 rfl ?_
      refine z_goto 26 dX11_plan_22 (by decide) ?_
      refine w_X11_plan_J26 a0 l1 l2 0 a0 S3 h
  · have h := h.2 c66
    refine z_iconst (v := 1) dX11_plan_9 rfl ?_
    refine z_goto 26 dX11_plan_10 (by decide) ?_
    refine w_X11_plan_J26 a0 l1 l2 1 a0 S1 h
set_option maxRecDepth 20000 in
set_option maxHeartbeats 4000000 in
theorem w_X11_planned {E : zE} {a0 : Nat} {l1 : Int32} {S : zS} {Q : Int32 → zS → Prop} {X : String → zS → Prop} (h : p_X11_planned E a0 l1 S Q X) : zM E yX11_planned cX11_planned 2 (some .int) ({ frames := 2, cells := 0, slots := 0, locals := 43 } : Room) [.ref a0, .int l1] S (qI Q) X := by
  unfold p_X11_planned at h
  refine zM_of RX11 false (by decide) rfl (fun h => by cases h) (Nat.le_of_ble_eq_true rfl) ?_
  refine z_aload_n 0 dX11_planned_0 rfl rfl ?_
  refine z_aload_n 0 dX11_planned_1 rfl rfl ?_
  refine z_iload_n 1 dX11_planned_2 rfl rfl ?_
  obtain ⟨hf22, h⟩ := h
  refine z_callVI (ci := 11) (st := [.ref a0]) (w_X11_isDay h) hf22.1 hf22.2 (Nat.le_of_ble_eq_true rfl) rfl zw_1651 zw_1648 zw_1650 zw_47 zw_74 zy_X11_isDay rfl rfl ⟨Nat.le_of_ble_eq_true rfl, Nat.le_of_ble_eq_true rfl⟩ ⟨(Nat.le_of_ble_eq_true rfl), (Nat.le_of_ble_eq_true rfl)⟩ (Nat.le_of_ble_eq_true rfl) dX11_planned_3 (fun _ _ hx => hx.elim) (fun r2 S1 h => ?_)
  refine z_widen (k' := 0) (n' := 0) (Nat.le_refl _) (Nat.le_refl _) ?_
  refine z_if_eq 13 dX11_planned_6 (by decide) (fun c21 => ?_) (fun c21 => ?_)
  · have h := h.1 c21
    refine z_iconst (v := 1) dX11_planned_13 rfl ?_
    obtain ⟨hf3, h⟩ := h
    have h := h _ rfl
    refine z_putV (c := 11) (j := 0) (ty0 := tyX11) (S' := sI S1 1100 a0 1) hf3.1 hf3.2 (Nat.le_of_ble_eq_true rfl) rfl zU_X11 tyX11_ok nmX11 (Nat.le_of_ble_eq_true rfl) (Nat.le_of_ble_eq_true rfl) ⟨_, zw_1298, Or.inl rfl⟩ (.inl rfl) rfl rfl rfl (zUpI (v := 1) hf3.2 (Nat.le_of_ble_eq_true rfl) (Nat.le_of_ble_eq_true rfl) rfl rfl) dX11_planned_14 ?_
    obtain ⟨S4, hS5⟩ : ∃ z, z = sI S1 1100 a0 1 := ⟨_, rfl⟩
    rw [← hS5] at h ⊢
    have hf3 : a0 ∈ gL S4 ∧ gK S4 a0 = 11 := by rw [hS5]; exact hf3
    refine z_aload_n 0 dX11_planned_17 rfl rfl ?_
    refine z_getI (c := 11) (j := 0) (f := 1100) hf3.1 hf3.2 (Nat.le_of_ble_eq_true rfl) rfl zU_X11 (Nat.le_of_ble_eq_true rfl) (Nat.le_of_ble_eq_true rfl) ⟨_, zw_1298, Or.inl rfl⟩ rfl rfl dX11_planned_18 ?_
    refine z_if_le 28 dX11_planned_21 (by decide) (fun c11 => ?_) (fun c11 => ?_)
    · have h := h.1 c11
      refine z_aload_n 0 dX11_planned_28 rfl rfl ?_
      refine z_getQ (c := 11) (j := 21) (f := 1121) hf3.1 hf3.2 (Nat.le_of_ble_eq_true rfl) rfl zU_X11 (Nat.le_of_ble_eq_true rfl) (Nat.le_of_ble_eq_true rfl) ⟨_, zw_1319, Or.inl rfl⟩ rfl rfl dX11_planned_29 ?_
      refine z_iload_n 1 dX11_planned_32 rfl rfl ?_
      obtain ⟨b6, hb7, h⟩ := h
      rw [show va_rf (gR S4 1121 a0) = Value.ref b6 from by rw [hb7]; rfl]
      obtain ⟨hf8, h⟩ := h
      obtain ⟨j9, hj10, h⟩ := h
      refine z_iald (j := j9) hf8.1 hf8.2 hj10.1 hj10.2.1 hj10.2.2 dX11_planned_33 ?_
      exact z_ireturn ⟨rfl, _, rfl, h⟩ rfl (Nat.le_of_ble_eq_true rfl) (Nat.le_of_ble_eq_true rfl) dX11_planned_34
    · have h := h.2 c11
      refine z_iconst (v := 0) dX11_planned_24 rfl ?_
      refine z_goto 34 dX11_planned_25 (by decide) ?_
      exact z_ireturn ⟨rfl, _, rfl, h⟩ rfl (Nat.le_of_ble_eq_true rfl) (Nat.le_of_ble_eq_true rfl) dX11_planned_34
  · have h := h.2 c21
    refine z_iconst (v := 0) dX11_planned_9 rfl ?_
    refine z_goto 14 dX11_planned_10 (by decide) ?_
    obtain ⟨hf12, h⟩ := h
    have h := h _ rfl
    refine z_putV (c := 11) (j := 0) (ty0 := tyX11) (S' := sI S1 1100 a0 0) hf12.1 hf12.2 (Nat.le_of_ble_eq_true rfl) rfl zU_X11 tyX11_ok nmX11 (Nat.le_of_ble_eq_true rfl) (Nat.le_of_ble_eq_true rfl) ⟨_, zw_1298, Or.inl rfl⟩ (.inl rfl) rfl rfl rfl (zUpI (v := 0) hf12.2 (Nat.le_of_ble_eq_true rfl) (Nat.le_of_ble_eq_true rfl) rfl rfl) dX11_planned_14 ?_
    obtain ⟨S13, hS14⟩ : ∃ z, z = sI S1 1100 a0 0 := ⟨_, rfl⟩
    rw [← hS14] at h ⊢
    have hf12 : a0 ∈ gL S13 ∧ gK S13 a0 = 11 := by rw [hS14]; exact hf12
    refine z_aload_n 0 dX11_planned_17 rfl rfl ?_
    refine z_getI (c := 11) (j := 0) (f := 1100) hf12.1 hf12.2 (Nat.le_of_ble_eq_true rfl) rfl zU_X11 (Nat.le_of_ble_eq_true rfl) (Nat.le_of_ble_eq_true rfl) ⟨_, zw_1298, Or.inl rfl⟩ rfl rfl dX11_planned_18 ?_
    refine z_if_le 28 dX11_planned_21 (by decide) (fun c20 => ?_) (fun c20 => ?_)
    · have h := h.1 c20
      refine z_aload_n 0 dX11_planned_28 rfl rfl ?_
      refine z_getQ (c := 11) (j := 21) (f := 1121) hf12.1 hf12.2 (Nat.le_of_ble_eq_true rfl) rfl zU_X11 (Nat.le_of_ble_eq_true rfl) (Nat.le_of_ble_eq_true rfl) ⟨_, zw_1319, Or.inl rfl⟩ rfl rfl dX11_planned_29 ?_
      refine z_iload_n 1 dX11_planned_32 rfl rfl ?_
      obtain ⟨b15, hb16, h⟩ := h
      rw [show va_rf (gR S13 1121 a0) = Value.ref b15 from by rw [hb16]; rfl]
      obtain ⟨hf17, h⟩ := h
      obtain ⟨j18, hj19, h⟩ := h
      refine z_iald (j := j18) hf17.1 hf17.2 hj19.1 hj19.2.1 hj19.2.2 dX11_planned_33 ?_
      exact z_ireturn ⟨rfl, _, rfl, h⟩ rfl (Nat.le_of_ble_eq_true rfl) (Nat.le_of_ble_eq_true rfl) dX11_planned_34
    · have h := h.2 c20
      refine z_iconst (v := 0) dX11_planned_24 rfl ?_
      refine z_goto 34 dX11_planned_25 (by decide) ?_
      exact z_ireturn ⟨rfl, _, rfl, h⟩ rfl (Nat.le_of_ble_eq_true rfl) (Nat.le_of_ble_eq_true rfl) dX11_planned_34
set_option maxRecDepth 20000 in
set_option maxHeartbeats 4000000 in
theorem w_X11_plannedAt_J34 {E : zE}  {Q : Int32 → zS → Prop} {X : String → zS → Prop}  (a0 : Nat) (l1 : Int32) (l2 : Int32) (l100 : Int32) (a101 : Nat) (S : zS) (h : p_X11_plannedAt_J34 E  Q X a0 l1 l2 l100 a101 S) : zJ E (RX11, cX11_plannedAt, 3, (some .int), false, [], zTr) ({ frames := 2, cells := 0, slots := 0, locals := 43 } : Room) (zq (qI Q)) (zx X) 34 [(0, .ref a0), (1, .int l1), (2, .int l2)] [.int l100, .ref a101] [] S 0 0 := by
  unfold p_X11_plannedAt_J34 at h
  obtain ⟨hf11, h⟩ := h
  have h := h _ rfl
  refine z_putV (c := 11) (j := 0) (ty0 := tyX11) (S' := sI S 1100 a101 l100) hf11.1 hf11.2 (Nat.le_of_ble_eq_true rfl) rfl zU_X11 tyX11_ok nmX11 (Nat.le_of_ble_eq_true rfl) (Nat.le_of_ble_eq_true rfl) ⟨_, zw_1298, Or.inl rfl⟩ (.inl rfl) rfl rfl rfl (zUpI (v := l100) hf11.2 (Nat.le_of_ble_eq_true rfl) (Nat.le_of_ble_eq_true rfl) rfl rfl) dX11_plannedAt_34 ?_
  obtain ⟨S12, hS13⟩ : ∃ z, z = sI S 1100 a101 l100 := ⟨_, rfl⟩
  rw [← hS13] at h ⊢
  have hf11 : a101 ∈ gL S12 ∧ gK S12 a101 = 11 := by rw [hS13]; exact hf11
  refine z_aload_n 0 dX11_plannedAt_37 rfl rfl ?_
  obtain ⟨hf14, h⟩ := h
  refine z_getI (c := 11) (j := 0) (f := 1100) hf14.1 hf14.2 (Nat.le_of_ble_eq_true rfl) rfl zU_X11 (Nat.le_of_ble_eq_true rfl) (Nat.le_of_ble_eq_true rfl) ⟨_, zw_1298, Or.inl rfl⟩ rfl rfl dX11_plannedAt_38 ?_
  refine z_if_le 48 dX11_plannedAt_41 (by decide) (fun c20 => ?_) (fun c20 => ?_)
  · have h := h.1 c20
    refine z_aload_n 0 dX11_plannedAt_48 rfl rfl ?_
    refine z_getQ (c := 11) (j := 22) (f := 1122) hf14.1 hf14.2 (Nat.le_of_ble_eq_true rfl) rfl zU_X11 (Nat.le_of_ble_eq_true rfl) (Nat.le_of_ble_eq_true rfl) ⟨_, zw_1320, Or.inl rfl⟩ rfl rfl dX11_plannedAt_49 ?_
    refine z_iconst (v := 4) dX11_plannedAt_52 rfl ?_
    refine z_iload_n 1 dX11_plannedAt_53 rfl rfl ?_
    refine z_imul dX11_plannedAt_54 ?_
    refine z_iload_n 2 dX11_plannedAt_55 rfl rfl ?_
    refine z_iadd dX11_plannedAt_56 ?_
    obtain ⟨b15, hb16, h⟩ := h
    rw [show va_rf (gR S12 1122 a0) = Value.ref b15 from by rw [hb16]; rfl]
    obtain ⟨hf17, h⟩ := h
    obtain ⟨j18, hj19, h⟩ := h
    refine z_iald (j := j18) hf17.1 hf17.2 hj19.1 hj19.2.1 hj19.2.2 dX11_plannedAt_57 ?_
    exact z_ireturn ⟨rfl, _, rfl, h⟩ rfl (Nat.le_of_ble_eq_true rfl) (Nat.le_of_ble_eq_true rfl) dX11_plannedAt_58
  · have h := h.2 c20
    refine z_iconst (v := 0) dX11_plannedAt_44 rfl ?_
    refine z_goto 58 dX11_plannedAt_45 (by decide) ?_
    exact z_ireturn ⟨rfl, _, rfl, h⟩ rfl (Nat.le_of_ble_eq_true rfl) (Nat.le_of_ble_eq_true rfl) dX11_plannedAt_58
set_option maxRecDepth 20000 in
set_option maxHeartbeats 4000000 in
theorem w_X11_plannedAt {E : zE} {a0 : Nat} {l1 : Int32} {l2 : Int32} {S : zS} {Q : Int32 → zS → Prop} {X : String → zS → Prop} (h : p_X11_plannedAt E a0 l1 l2 S Q X) : zM E yX11_plannedAt cX11_plannedAt 3 (some .int) ({ frames := 2, cells := 0, slots := 0, locals := 43 } : Room) [.ref a0, .int l1, .int l2] S (qI Q) X := by
  unfold p_X11_plannedAt at h
  refine zM_of RX11 false (by decide) rfl (fun h => by cases h) (Nat.le_of_ble_eq_true rfl) ?_
  refine z_aload_n 0 dX11_plannedAt_0 rfl rfl ?_
  refine z_aload_n 0 dX11_plannedAt_1 rfl rfl ?_
  refine z_iload_n 1 dX11_plannedAt_2 rfl rfl ?_
  obtain ⟨hf23, h⟩ := h
  refine z_callVI (ci := 11) (st := [.ref a0]) (w_X11_isDay h) hf23.1 hf23.2 (Nat.le_of_ble_eq_true rfl) rfl zw_1651 zw_1648 zw_1650 zw_47 zw_74 zy_X11_isDay rfl rfl ⟨Nat.le_of_ble_eq_true rfl, Nat.le_of_ble_eq_true rfl⟩ ⟨(Nat.le_of_ble_eq_true rfl), (Nat.le_of_ble_eq_true rfl)⟩ (Nat.le_of_ble_eq_true rfl) dX11_plannedAt_3 (fun _ _ hx => hx.elim) (fun r2 S1 h => ?_)
  refine z_widen (k' := 0) (n' := 0) (Nat.le_refl _) (Nat.le_refl _) ?_
  refine z_if_ne 13 dX11_plannedAt_6 (by decide) (fun c22 => ?_) (fun c22 => ?_)
  · have h := h.1 c22
    refine z_iload_n 2 dX11_plannedAt_13 rfl rfl ?_
    refine z_iconst (v := 0) dX11_plannedAt_14 rfl ?_
    refine z_aload_n 0 dX11_plannedAt_15 rfl rfl ?_
    obtain ⟨hf3, h⟩ := h
    refine z_getQ (c := 11) (j := 21) (f := 1121) hf3.1 hf3.2 (Nat.le_of_ble_eq_true rfl) rfl zU_X11 (Nat.le_of_ble_eq_true rfl) (Nat.le_of_ble_eq_true rfl) ⟨_, zw_1319, Or.inl rfl⟩ rfl rfl dX11_plannedAt_16 ?_
    refine z_iload_n 1 dX11_plannedAt_19 rfl rfl ?_
    obtain ⟨b4, hb5, h⟩ := h
    rw [show va_rf (gR S1 1121 a0) = Value.ref b4 from by rw [hb5]; rfl]
    obtain ⟨hf6, h⟩ := h
    obtain ⟨j7, hj8, h⟩ := h
    refine z_iald (j := j7) hf6.1 hf6.2 hj8.1 hj8.2.1 hj8.2.2 dX11_plannedAt_20 ?_
    refine z_iconst (v := 1) dX11_plannedAt_21 rfl ?_
    refine z_isub dX11_plannedAt_22 ?_
    refine z_callSI (st := [.ref a0]) (w_X11_in h) zw_1435 zw_1433 zw_1434 zw_74 zy_X11_in rfl rfl ⟨Nat.le_of_ble_eq_true rfl, Nat.le_of_ble_eq_true rfl⟩ ⟨(Nat.le_of_ble_eq_true rfl), (Nat.le_of_ble_eq_true rfl)⟩ (Nat.le_of_ble_eq_true rfl) dX11_plannedAt_23 (fun _ _ hx => hx.elim) (fun r10 S9 h => ?_)
    refine z_widen (k' := 0) (n' := 0) (Nat.le_refl _) (Nat.le_refl _) ?_
    refine z_if_eq 33 dX11_plannedAt_26 (by decide) (fun c21 => ?_) (fun c21 => ?_)
    · have h := h.1 c21
      refine z_iconst (v := 2) dX11_plannedAt_33 rfl ?_
      refine w_X11_plannedAt_J34 a0 l1 l2 2 a0 S9 h
    · have h := h.2 c21
      refine z_iconst (v := 0) dX11_plannedAt_29 rfl ?_
      refine z_goto 34 dX11_plannedAt_30 (by decide) ?_
      refine w_X11_plannedAt_J34 a0 l1 l2 0 a0 S9 h
  · have h := h.2 c22
    refine z_iconst (v := 1) dX11_plannedAt_9 rfl ?_
    refine z_goto 34 dX11_plannedAt_10 (by decide) ?_
    refine w_X11_plannedAt_J34 a0 l1 l2 1 a0 S1 h
set_option maxRecDepth 20000 in
set_option maxHeartbeats 4000000 in
theorem w_X11_bandFor_L26 {E : zE} {K73 : Nat → Int32 → Int32 → Int32 → zS → Prop} {Q : Int32 → zS → Prop} {X : String → zS → Prop} (hK73 : ∀ (a0 : Nat) (l1 : Int32) (l2 : Int32) (l3 : Int32) (S : zS), K73 a0 l1 l2 l3 S → zJ E (RX11, cX11_bandFor, 6, (some .int), false, [], zTr) ({ frames := 1, cells := 0, slots := 0, locals := 21 } : Room) (zq (qI Q)) (zx X) 73 [(0, .ref a0), (1, .int l1), (2, .int l2), (3, .int l3)] [] [] S 0 0) : ∀ (m26 : Nat) (a0 : Nat) (l1 : Int32) (l2 : Int32) (l3 : Int32) (l4 : Int32) (S : zS), p_X11_bandFor_L26 E K73 Q X m26 a0 l1 l2 l3 l4 S → zJ E (RX11, cX11_bandFor, 6, (some .int), false, [], zTr) ({ frames := 1, cells := 0, slots := 0, locals := 21 } : Room) (zq (qI Q)) (zx X) 26 [(0, .ref a0), (1, .int l1), (2, .int l2), (3, .int l3), (4, .int l4)] [] [] S 0 0 := by
  intro m26
  induction m26 with
  | zero => intro a0 l1 l2 l3 l4 S h; exact (show False from h).elim
  | succ m26 ih =>
    intro a0 l1 l2 l3 l4 S h
    unfold p_X11_bandFor_L26 at h
    refine z_iload 4 dX11_bandFor_26 rfl ?_
    refine z_aload_n 0 dX11_bandFor_28 rfl rfl ?_
    obtain ⟨hf2, h⟩ := h
    refine z_getQ (c := 11) (j := 21) (f := 1121) hf2.1 hf2.2 (Nat.le_of_ble_eq_true rfl) rfl zU_X11 (Nat.le_of_ble_eq_true rfl) (Nat.le_of_ble_eq_true rfl) ⟨_, zw_1319, Or.inl rfl⟩ rfl rfl dX11_bandFor_29 ?_
    refine z_iload_n 1 dX11_bandFor_32 rfl rfl ?_
    obtain ⟨b3, hb4, h⟩ := h
    rw [show va_rf (gR S 1121 a0) = Value.ref b3 from by rw [hb4]; rfl]
    obtain ⟨hf5, h⟩ := h
    obtain ⟨j6, hj7, h⟩ := h
    refine z_iald (j := j6) hf5.1 hf5.2 hj7.1 hj7.2.1 hj7.2.2 dX11_bandFor_33 ?_
    refine z_icmp_ge 73 dX11_bandFor_34 (by decide) (fun c16 => ?_) (fun c16 => ?_)
    · have h := h.1 c16
      refine z_sub [0, 1, 2, 3] rfl ?_
      exact hK73 a0 l1 l2 l3 S h
    · have h := h.2 c16
      refine z_aload_n 0 dX11_bandFor_37 rfl rfl ?_
      refine z_aload_n 0 dX11_bandFor_38 rfl rfl ?_
      refine z_getQ (c := 11) (j := 22) (f := 1122) hf2.1 hf2.2 (Nat.le_of_ble_eq_true rfl) rfl zU_X11 (Nat.le_of_ble_eq_true rfl) (Nat.le_of_ble_eq_true rfl) ⟨_, zw_1320, Or.inl rfl⟩ rfl rfl dX11_bandFor_39 ?_
      refine z_iconst (v := 4) dX11_bandFor_42 rfl ?_
      refine z_iload_n 1 dX11_bandFor_43 rfl rfl ?_
      refine z_imul dX11_bandFor_44 ?_
      refine z_iload 4 dX11_bandFor_45 rfl ?_
      refine z_iadd dX11_bandFor_47 ?_
      obtain ⟨b8, hb9, h⟩ := h
      rw [show va_rf (gR S 1122 a0) = Value.ref b8 from by rw [hb9]; rfl]
      obtain ⟨hf10, h⟩ := h
      obtain ⟨j11, hj12, h⟩ := h
      refine z_iald (j := j11) hf10.1 hf10.2 hj12.1 hj12.2.1 hj12.2.2 dX11_bandFor_48 ?_
      refine z_callVI (ci := 11) (st := []) (w_X11_stageOf h) hf2.1 hf2.2 (Nat.le_of_ble_eq_true rfl) rfl zw_1462 zw_1459 zw_1461 zw_31 zw_74 zy_X11_stageOf rfl rfl ⟨Nat.le_of_ble_eq_true rfl, Nat.le_of_ble_eq_true rfl⟩ ⟨(Nat.le_of_ble_eq_true rfl), (Nat.le_of_ble_eq_true rfl)⟩ (Nat.le_of_ble_eq_true rfl) dX11_bandFor_49 (fun _ _ hx => hx.elim) (fun r14 S13 h => ?_)
      refine z_widen (k' := 0) (n' := 0) (Nat.le_refl _) (Nat.le_refl _) ?_
      refine z_istore (lv' := [(5, .int r14), (0, .ref a0), (1, .int l1), (2, .int l2), (3, .int l3), (4, .int l4)]) dX11_bandFor_52 (Nat.le_of_ble_eq_true rfl) rfl ?_
      refine z_iload 0 dX11_bandFor_54 rfl ?_
      refine z_iload_n 4 dX11_bandFor_56 rfl rfl ?_
      refine z_icmp_le 65 dX11_bandFor_57 (by decide) (fun c15 => ?_) (fun c15 => ?_)
      · have h := h.1 c15
        refine z_iload_n 4 dX11_bandFor_65 rfl rfl ?_
        refine z_istore_n (lv' := [(3, .int l3), (5, .int r14), (0, .ref a0), (1, .int l1), (2, .int l2), (4, .int l4)]) dX11_bandFor_66 rfl (Nat.le_of_ble_eq_true rfl) rfl ?_
        refine z_iinc (v := (l4 + 1)) (lv' := [(4, .int (l4 + 1)), (3, .int l3), (5, .int r14), (0, .ref a0), (1, .int l1), (2, .int l2)]) 5 dX11_bandFor_67 rfl rfl (Nat.le_of_ble_eq_true rfl) rfl ?_
        refine z_goto 26 dX11_bandFor_70 (by decide) ?_
        refine z_sub [3, 4, 5, 1, 0] rfl ?_
        exact ih a0 l1 l2 l3 (l4 + 1) S13 h
      · have h := h.2 c15
        refine z_iload 0 dX11_bandFor_60 rfl ?_
        refine z_goto 66 dX11_bandFor_62 (by decide) ?_
        refine z_istore_n (lv' := [(3, .int r14), (5, .int r14), (0, .ref a0), (1, .int l1), (2, .int l2), (4, .int l4)]) dX11_bandFor_66 rfl (Nat.le_of_ble_eq_true rfl) rfl ?_
        refine z_iinc (v := (l4 + 1)) (lv' := [(4, .int (l4 + 1)), (3, .int r14), (5, .int r14), (0, .ref a0), (1, .int l1), (2, .int l2)]) 5 dX11_bandFor_67 rfl rfl (Nat.le_of_ble_eq_true rfl) rfl ?_
        refine z_goto 26 dX11_bandFor_70 (by decide) ?_
        refine z_sub [3, 4, 5, 1, 0] rfl ?_
        exact ih a0 l1 l2 r14 (l4 + 1) S13 h
set_option maxRecDepth 20000 in
set_option maxHeartbeats 4000000 in
theorem w_X11_bandFor_L79 {E : zE} {K118 : Nat → Int32 → Int32 → zS → Prop} {Q : Int32 → zS → Prop} {X : String → zS → Prop} (hK118 : ∀ (a0 : Nat) (l1 : Int32) (l4 : Int32) (S : zS), K118 a0 l1 l4 S → zJ E (RX11, cX11_bandFor, 6, (some .int), false, [], zTr) ({ frames := 1, cells := 0, slots := 0, locals := 21 } : Room) (zq (qI Q)) (zx X) 118 [(0, .ref a0), (1, .int l1), (4, .int l4)] [] [] S 0 0) : ∀ (m79 : Nat) (a0 : Nat) (l1 : Int32) (l2 : Int32) (l3 : Int32) (l4 : Int32) (l5 : Int32) (S : zS), p_X11_bandFor_L79 E K118 Q X m79 a0 l1 l2 l3 l4 l5 S → zJ E (RX11, cX11_bandFor, 6, (some .int), false, [], zTr) ({ frames := 1, cells := 0, slots := 0, locals := 21 } : Room) (zq (qI Q)) (zx X) 79 [(0, .ref a0), (1, .int l1), (2, .int l2), (3, .int l3), (4, .int l4), (5, .int l5)] [] [] S 0 0 := by
  intro m79
  induction m79 with
  | zero => intro a0 l1 l2 l3 l4 l5 S h; exact (show False from h).elim
  | succ m79 ih =>
    intro a0 l1 l2 l3 l4 l5 S h
    unfold p_X11_bandFor_L79 at h
    refine z_iload 5 dX11_bandFor_79 rfl ?_
    refine z_if_lt 118 dX11_bandFor_81 (by decide) (fun c24 => ?_) (fun c24 => ?_)
    · have h := h.1 c24
      refine z_sub [0, 1, 4] rfl ?_
      exact hK118 a0 l1 l4 S h
    · have h := h.2 c24
      refine z_aload_n 0 dX11_bandFor_84 rfl rfl ?_
      obtain ⟨hf17, h⟩ := h
      refine z_getQ (c := 11) (j := 24) (f := 1124) hf17.1 hf17.2 (Nat.le_of_ble_eq_true rfl) rfl zU_X11 (Nat.le_of_ble_eq_true rfl) (Nat.le_of_ble_eq_true rfl) ⟨_, zw_1322, Or.inl rfl⟩ rfl rfl dX11_bandFor_85 ?_
      refine z_iload_n 2 dX11_bandFor_88 rfl rfl ?_
      refine z_iload 5 dX11_bandFor_89 rfl ?_
      refine z_iadd dX11_bandFor_91 ?_
      refine z_iconst (v := 4) dX11_bandFor_92 rfl ?_
      refine z_irem dX11_bandFor_93 (by decide) ?_
      obtain ⟨b18, hb19, h⟩ := h
      rw [show va_rf (gR S 1124 a0) = Value.ref b18 from by rw [hb19]; rfl]
      obtain ⟨hf20, h⟩ := h
      obtain ⟨j21, hj22, h⟩ := h
      refine z_iald (j := j21) hf20.1 hf20.2 hj22.1 hj22.2.1 hj22.2.2 dX11_bandFor_94 ?_
      refine z_iload_n 3 dX11_bandFor_95 rfl rfl ?_
      refine z_icmp_lt 108 dX11_bandFor_96 (by decide) (fun c23 => ?_) (fun c23 => ?_)
      · have h := h.1 c23
        refine z_iload 4 dX11_bandFor_108 rfl ?_
        refine z_istore (lv' := [(4, .int l4), (0, .ref a0), (1, .int l1), (2, .int l2), (3, .int l3), (5, .int l5)]) dX11_bandFor_110 (Nat.le_of_ble_eq_true rfl) rfl ?_
        refine z_iinc (v := (l5 + (-1))) (lv' := [(5, .int (l5 + (-1))), (4, .int l4), (0, .ref a0), (1, .int l1), (2, .int l2), (3, .int l3)]) 5 dX11_bandFor_112 rfl rfl (Nat.le_of_ble_eq_true rfl) rfl ?_
        refine z_goto 79 dX11_bandFor_115 (by decide) ?_
        refine z_sub [2, 3, 4, 5, 1, 0] rfl ?_
        exact ih a0 l1 l2 l3 l4 (l5 + (-1)) S h
      · have h := h.2 c23
        refine z_iload_n 2 dX11_bandFor_99 rfl rfl ?_
        refine z_iload 5 dX11_bandFor_100 rfl ?_
        refine z_iadd dX11_bandFor_102 ?_
        refine z_iconst (v := 4) dX11_bandFor_103 rfl ?_
        refine z_irem dX11_bandFor_104 (by decide) ?_
        refine z_goto 110 dX11_bandFor_105 (by decide) ?_
        refine z_istore (lv' := [(4, .int ((l2 + l5) - (l2 + l5) / 4 * 4)), (0, .ref a0), (1, .int l1), (2, .int l2), (3, .int l3), (5, .int l5)]) dX11_bandFor_110 (Nat.le_of_ble_eq_true rfl) rfl ?_
        refine z_iinc (v := (l5 + (-1))) (lv' := [(5, .int (l5 + (-1))), (4, .int ((l2 + l5) - (l2 + l5) / 4 * 4)), (0, .ref a0), (1, .int l1), (2, .int l2), (3, .int l3)]) 5 dX11_bandFor_112 rfl rfl (Nat.le_of_ble_eq_true rfl) rfl ?_
        refine z_goto 79 dX11_bandFor_115 (by decide) ?_
        refine z_sub [2, 3, 4, 5, 1, 0] rfl ?_
        exact ih a0 l1 l2 l3 ((l2 + l5) - (l2 + l5) / 4 * 4) (l5 + (-1)) S h
set_option maxRecDepth 20000 in
set_option maxHeartbeats 4000000 in
theorem w_X11_bandFor_J21 {E : zE}  {Q : Int32 → zS → Prop} {X : String → zS → Prop}  (a0 : Nat) (l1 : Int32) (l2 : Int32) (S : zS) (h : p_X11_bandFor_J21 E  Q X a0 l1 l2 S) : zJ E (RX11, cX11_bandFor, 6, (some .int), false, [], zTr) ({ frames := 1, cells := 0, slots := 0, locals := 21 } : Room) (zq (qI Q)) (zx X) 21 [(0, .ref a0), (1, .int l1), (2, .int l2)] [] [] S 0 0 := by
  unfold p_X11_bandFor_J21 at h
  refine z_iconst (v := 0) dX11_bandFor_21 rfl ?_
  refine z_istore_n (lv' := [(3, .int 0), (0, .ref a0), (1, .int l1), (2, .int l2)]) dX11_bandFor_22 rfl (Nat.le_of_ble_eq_true rfl) rfl ?_
  refine z_iconst (v := 0) dX11_bandFor_23 rfl ?_
  refine z_istore (lv' := [(4, .int 0), (3, .int 0), (0, .ref a0), (1, .int l1), (2, .int l2)]) dX11_bandFor_24 (Nat.le_of_ble_eq_true rfl) rfl ?_
  obtain ⟨m26, h⟩ := h
  refine z_sub [2, 3, 4, 1, 0] rfl ?_
  refine w_X11_bandFor_L26 (fun a0 l1 l2 l3 S h => ?_) m26 a0 l1 l2 0 0 S h
  refine z_iconst (v := (-1)) dX11_bandFor_73 rfl ?_
  refine z_istore (lv' := [(4, .int (-1)), (0, .ref a0), (1, .int l1), (2, .int l2), (3, .int l3)]) dX11_bandFor_74 (Nat.le_of_ble_eq_true rfl) rfl ?_
  refine z_iconst (v := 3) dX11_bandFor_76 rfl ?_
  refine z_istore (lv' := [(5, .int 3), (4, .int (-1)), (0, .ref a0), (1, .int l1), (2, .int l2), (3, .int l3)]) dX11_bandFor_77 (Nat.le_of_ble_eq_true rfl) rfl ?_
  obtain ⟨m79, h⟩ := h
  refine z_sub [2, 3, 4, 5, 1, 0] rfl ?_
  refine w_X11_bandFor_L79 (fun a0 l1 l4 S h => ?_) m79 a0 l1 l2 l3 (-1) 3 S h
  refine z_aload_n 0 dX11_bandFor_118 rfl rfl ?_
  obtain ⟨hf25, h⟩ := h
  refine z_getQ (c := 11) (j := 21) (f := 1121) hf25.1 hf25.2 (Nat.le_of_ble_eq_true rfl) rfl zU_X11 (Nat.le_of_ble_eq_true rfl) (Nat.le_of_ble_eq_true rfl) ⟨_, zw_1319, Or.inl rfl⟩ rfl rfl dX11_bandFor_119 ?_
  refine z_iload_n 1 dX11_bandFor_122 rfl rfl ?_
  obtain ⟨b26, hb27, h⟩ := h
  rw [show va_rf (gR S 1121 a0) = Value.ref b26 from by rw [hb27]; rfl]
  obtain ⟨hf28, h⟩ := h
  obtain ⟨j29, hj30, h⟩ := h
  refine z_iald (j := j29) hf28.1 hf28.2 hj30.1 hj30.2.1 hj30.2.2 dX11_bandFor_123 ?_
  refine z_if_ne 131 dX11_bandFor_124 (by decide) (fun c31 => ?_) (fun c31 => ?_)
  · have h := h.1 c31
    refine z_iload 2 dX11_bandFor_131 rfl ?_
    exact z_ireturn ⟨rfl, _, rfl, h⟩ rfl (Nat.le_of_ble_eq_true rfl) (Nat.le_of_ble_eq_true rfl) dX11_bandFor_133
  · have h := h.2 c31
    refine z_iconst (v := (-1)) dX11_bandFor_127 rfl ?_
    refine z_goto 133 dX11_bandFor_128 (by decide) ?_
    exact z_ireturn ⟨rfl, _, rfl, h⟩ rfl (Nat.le_of_ble_eq_true rfl) (Nat.le_of_ble_eq_true rfl) dX11_bandFor_133
set_option maxRecDepth 20000 in
set_option maxHeartbeats 4000000 in
theorem w_X11_bandFor {E : zE} {a0 : Nat} {l1 : Int32} {l2 : Int32} {S : zS} {Q : Int32 → zS → Prop} {X : String → zS → Prop} (h : p_X11_bandFor E a0 l1 l2 S Q X) : zM E yX11_bandFor cX11_bandFor 6 (some .int) ({ frames := 1, cells := 0, slots := 0, locals := 21 } : Room) [.ref a0, .int l1, .int l2] S (qI Q) X := by
  unfold p_X11_bandFor at h
  refine zM_of RX11 false (by decide) rfl (fun h => by cases h) (Nat.le_of_ble_eq_true rfl) ?_
  refine z_iload_n 1 dX11_bandFor_0 rfl rfl ?_
  refine z_aload_n 0 dX11_bandFor_1 rfl rfl ?_
  obtain ⟨hf1, h⟩ := h
  refine z_getI (c := 11) (j := 20) (f := 1120) hf1.1 hf1.2 (Nat.le_of_ble_eq_true rfl) rfl zU_X11 (Nat.le_of_ble_eq_true rfl) (Nat.le_of_ble_eq_true rfl) ⟨_, zw_1318, Or.inl rfl⟩ rfl rfl dX11_bandFor_2 ?_
  refine z_icmp_ne 21 dX11_bandFor_5 (by decide) (fun c33 => ?_) (fun c33 => ?_)
  · have h := h.1 c33
    refine w_X11_bandFor_J21 a0 l1 l2 S h
  · have h := h.2 c33
    refine z_aload_n 0 dX11_bandFor_8 rfl rfl ?_
    refine z_getI (c := 11) (j := 26) (f := 1126) hf1.1 hf1.2 (Nat.le_of_ble_eq_true rfl) rfl zU_X11 (Nat.le_of_ble_eq_true rfl) (Nat.le_of_ble_eq_true rfl) ⟨_, zw_1324, Or.inl rfl⟩ rfl rfl dX11_bandFor_9 ?_
    refine z_iconst (v := (-1)) dX11_bandFor_12 rfl ?_
    refine z_icmp_eq 21 dX11_bandFor_13 (by decide) (fun c32 => ?_) (fun c32 => ?_)
    · have h := h.1 c32
      refine w_X11_bandFor_J21 a0 l1 l2 S h
    · have h := h.2 c32
      refine z_aload_n 0 dX11_bandFor_16 rfl rfl ?_
      refine z_getI (c := 11) (j := 26) (f := 1126) hf1.1 hf1.2 (Nat.le_of_ble_eq_true rfl) rfl zU_X11 (Nat.le_of_ble_eq_true rfl) (Nat.le_of_ble_eq_true rfl) ⟨_, zw_1324, Or.inl rfl⟩ rfl rfl dX11_bandFor_17 ?_
      exact z_ireturn ⟨rfl, _, rfl, h⟩ rfl (Nat.le_of_ble_eq_true rfl) (Nat.le_of_ble_eq_true rfl) dX11_bandFor_20
set_option maxRecDepth 20000 in
set_option maxHeartbeats 4000000 in
theorem w_X11_bandOf_L13 {E : zE} {K48 : Int32 → zS → Prop} {Q : Int32 → zS → Prop} {X : String → zS → Prop} (hK48 : ∀ (l3 : Int32) (S : zS), K48 l3 S → zJ E (RX11, cX11_bandOf, 5, (some .int), false, [], zTr) ({ frames := 2, cells := 0, slots := 0, locals := 46 } : Room) (zq (qI Q)) (zx X) 48 [(3, .int l3)] [] [] S 0 0) : ∀ (m13 : Nat) (a0 : Nat) (l1 : Int32) (l2 : Int32) (l3 : Int32) (l4 : Int32) (S : zS), p_X11_bandOf_L13 E K48 Q X m13 a0 l1 l2 l3 l4 S → zJ E (RX11, cX11_bandOf, 5, (some .int), false, [], zTr) ({ frames := 2, cells := 0, slots := 0, locals := 46 } : Room) (zq (qI Q)) (zx X) 13 [(0, .ref a0), (1, .int l1), (2, .int l2), (3, .int l3), (4, .int l4)] [] [] S 0 0 := by
  intro m13
  induction m13 with
  | zero => intro a0 l1 l2 l3 l4 S h; exact (show False from h).elim
  | succ m13 ih =>
    intro a0 l1 l2 l3 l4 S h
    unfold p_X11_bandOf_L13 at h
    refine z_iload 4 dX11_bandOf_13 rfl ?_
    refine z_iload_n 1 dX11_bandOf_15 rfl rfl ?_
    refine z_icmp_gt 48 dX11_bandOf_16 (by decide) (fun c6 => ?_) (fun c6 => ?_)
    · have h := h.1 c6
      refine z_sub [3] rfl ?_
      exact hK48 l3 S h
    · have h := h.2 c6
      refine z_aload_n 0 dX11_bandOf_19 rfl rfl ?_
      refine z_iload 4 dX11_bandOf_20 rfl ?_
      refine z_iload_n 2 dX11_bandOf_22 rfl rfl ?_
      obtain ⟨hf5, h⟩ := h
      refine z_callVI (ci := 11) (st := []) (w_X11_bandFor h) hf5.1 hf5.2 (Nat.le_of_ble_eq_true rfl) rfl zw_1675 zw_1672 zw_1674 zw_50 zw_74 zy_X11_bandFor rfl rfl ⟨Nat.le_of_ble_eq_true rfl, Nat.le_of_ble_eq_true rfl⟩ ⟨(Nat.le_of_ble_eq_true rfl), (Nat.le_of_ble_eq_true rfl)⟩ (Nat.le_of_ble_eq_true rfl) dX11_bandOf_23 (fun _ _ hx => hx.elim) (fun r3 S2 h => ?_)
      refine z_widen (k' := 0) (n' := 0) (Nat.le_refl _) (Nat.le_refl _) ?_
      refine z_istore_n (lv' := [(3, .int r3), (0, .ref a0), (1, .int l1), (2, .int l2), (4, .int l4)]) dX11_bandOf_26 rfl (Nat.le_of_ble_eq_true rfl) rfl ?_
      refine z_iload_n 0 dX11_bandOf_27 rfl rfl ?_
      refine z_iconst (v := (-1)) dX11_bandOf_28 rfl ?_
      refine z_icmp_ne 36 dX11_bandOf_29 (by decide) (fun c4 => ?_) (fun c4 => ?_)
      · have h := h.1 c4
        refine z_iload_n 0 dX11_bandOf_36 rfl rfl ?_
        refine z_iconst (v := 1) dX11_bandOf_37 rfl ?_
        refine z_iadd dX11_bandOf_38 ?_
        refine z_iconst (v := 4) dX11_bandOf_39 rfl ?_
        refine z_irem dX11_bandOf_40 (by decide) ?_
        refine z_istore_n (lv' := [(2, .int ((r3 + 1) - (r3 + 1) / 4 * 4)), (3, .int r3), (0, .ref a0), (1, .int l1), (4, .int l4)]) dX11_bandOf_41 rfl (Nat.le_of_ble_eq_true rfl) rfl ?_
        refine z_iinc (v := (l4 + 1)) (lv' := [(4, .int (l4 + 1)), (2, .int ((r3 + 1) - (r3 + 1) / 4 * 4)), (3, .int r3), (0, .ref a0), (1, .int l1)]) 4 dX11_bandOf_42 rfl rfl (Nat.le_of_ble_eq_true rfl) rfl ?_
        refine z_goto 13 dX11_bandOf_45 (by decide) ?_
        refine z_sub [3, 4, 1, 2, 0] rfl ?_
        exact ih a0 l1 ((r3 + 1) - (r3 + 1) / 4 * 4) r3 (l4 + 1) S2 h
      · have h := h.2 c4
        refine z_iload_n 3 dX11_bandOf_32 rfl rfl ?_
        refine z_goto 41 dX11_bandOf_33 (by decide) ?_
        refine z_istore_n (lv' := [(2, .int l2), (3, .int r3), (0, .ref a0), (1, .int l1), (4, .int l4)]) dX11_bandOf_41 rfl (Nat.le_of_ble_eq_true rfl) rfl ?_
        refine z_iinc (v := (l4 + 1)) (lv' := [(4, .int (l4 + 1)), (2, .int l2), (3, .int r3), (0, .ref a0), (1, .int l1)]) 4 dX11_bandOf_42 rfl rfl (Nat.le_of_ble_eq_true rfl) rfl ?_
        refine z_goto 13 dX11_bandOf_45 (by decide) ?_
        refine z_sub [3, 4, 1, 2, 0] rfl ?_
        exact ih a0 l1 l2 r3 (l4 + 1) S2 h
set_option maxRecDepth 20000 in
set_option maxHeartbeats 4000000 in
theorem w_X11_bandOf {E : zE} {a0 : Nat} {l1 : Int32} {S : zS} {Q : Int32 → zS → Prop} {X : String → zS → Prop} (h : p_X11_bandOf E a0 l1 S Q X) : zM E yX11_bandOf cX11_bandOf 5 (some .int) ({ frames := 2, cells := 0, slots := 0, locals := 46 } : Room) [.ref a0, .int l1] S (qI Q) X := by
  unfold p_X11_bandOf at h
  refine zM_of RX11 false (by decide) rfl (fun h => by cases h) (Nat.le_of_ble_eq_true rfl) ?_
  refine z_aload_n 0 dX11_bandOf_0 rfl rfl ?_
  obtain ⟨hf1, h⟩ := h
  refine z_getI (c := 11) (j := 25) (f := 1125) hf1.1 hf1.2 (Nat.le_of_ble_eq_true rfl) rfl zU_X11 (Nat.le_of_ble_eq_true rfl) (Nat.le_of_ble_eq_true rfl) ⟨_, zw_1323, Or.inl rfl⟩ rfl rfl dX11_bandOf_1 ?_
  refine z_istore_n (lv' := [(2, .int (gI S 1125 a0)), (0, .ref a0), (1, .int l1)]) dX11_bandOf_4 rfl (Nat.le_of_ble_eq_true rfl) rfl ?_
  refine z_iconst (v := (-1)) dX11_bandOf_5 rfl ?_
  refine z_istore_n (lv' := [(3, .int (-1)), (2, .int (gI S 1125 a0)), (0, .ref a0), (1, .int l1)]) dX11_bandOf_6 rfl (Nat.le_of_ble_eq_true rfl) rfl ?_
  refine z_aload_n 2 dX11_bandOf_7 rfl rfl ?_
  refine z_getI (c := 11) (j := 20) (f := 1120) hf1.1 hf1.2 (Nat.le_of_ble_eq_true rfl) rfl zU_X11 (Nat.le_of_ble_eq_true rfl) (Nat.le_of_ble_eq_true rfl) ⟨_, zw_1318, Or.inl rfl⟩ rfl rfl dX11_bandOf_8 ?_
  refine z_istore (lv' := [(4, .int (gI S 1120 a0)), (3, .int (-1)), (2, .int (gI S 1125 a0)), (0, .ref a0), (1, .int l1)]) dX11_bandOf_11 (Nat.le_of_ble_eq_true rfl) rfl ?_
  obtain ⟨m13, h⟩ := h
  refine z_sub [3, 4, 2, 1, 0] rfl ?_
  refine w_X11_bandOf_L13 (fun l3 S h => ?_) m13 a0 l1 (gI S 1125 a0) (-1) (gI S 1120 a0) S h
  refine z_iload_n 0 dX11_bandOf_48 rfl rfl ?_
  exact z_ireturn ⟨rfl, _, rfl, h⟩ rfl (Nat.le_of_ble_eq_true rfl) (Nat.le_of_ble_eq_true rfl) dX11_bandOf_49
set_option maxRecDepth 20000 in
set_option maxHeartbeats 4000000 in
theorem w_X11_rota {E : zE} {a0 : Nat} {l1 : Int32} {S : zS} {Q : Int32 → zS → Prop} {X : String → zS → Prop} (h : p_X11_rota E a0 l1 S Q X) : zM E yX11_rota cX11_rota 2 (some .int) ({ frames := 3, cells := 0, slots := 0, locals := 70 } : Room) [.ref a0, .int l1] S (qI Q) X := by
  unfold p_X11_rota at h
  refine zM_of RX11 false (by decide) rfl (fun h => by cases h) (Nat.le_of_ble_eq_true rfl) ?_
  refine z_aload_n 0 dX11_rota_0 rfl rfl ?_
  refine z_aload_n 0 dX11_rota_1 rfl rfl ?_
  refine z_iload_n 1 dX11_rota_2 rfl rfl ?_
  obtain ⟨hf16, h⟩ := h
  refine z_callVI (ci := 11) (st := [.ref a0]) (w_X11_isDay h) hf16.1 hf16.2 (Nat.le_of_ble_eq_true rfl) rfl zw_1651 zw_1648 zw_1650 zw_47 zw_74 zy_X11_isDay rfl rfl ⟨Nat.le_of_ble_eq_true rfl, Nat.le_of_ble_eq_true rfl⟩ ⟨(Nat.le_of_ble_eq_true rfl), (Nat.le_of_ble_eq_true rfl)⟩ (Nat.le_of_ble_eq_true rfl) dX11_rota_3 (fun _ _ hx => hx.elim) (fun r2 S1 h => ?_)
  refine z_widen (k' := 0) (n' := 0) (Nat.le_refl _) (Nat.le_refl _) ?_
  refine z_if_eq 13 dX11_rota_6 (by decide) (fun c15 => ?_) (fun c15 => ?_)
  · have h := h.1 c15
    refine z_iconst (v := 1) dX11_rota_13 rfl ?_
    obtain ⟨hf3, h⟩ := h
    have h := h _ rfl
    refine z_putV (c := 11) (j := 0) (ty0 := tyX11) (S' := sI S1 1100 a0 1) hf3.1 hf3.2 (Nat.le_of_ble_eq_true rfl) rfl zU_X11 tyX11_ok nmX11 (Nat.le_of_ble_eq_true rfl) (Nat.le_of_ble_eq_true rfl) ⟨_, zw_1298, Or.inl rfl⟩ (.inl rfl) rfl rfl rfl (zUpI (v := 1) hf3.2 (Nat.le_of_ble_eq_true rfl) (Nat.le_of_ble_eq_true rfl) rfl rfl) dX11_rota_14 ?_
    obtain ⟨S4, hS5⟩ : ∃ z, z = sI S1 1100 a0 1 := ⟨_, rfl⟩
    rw [← hS5] at h ⊢
    have hf3 : a0 ∈ gL S4 ∧ gK S4 a0 = 11 := by rw [hS5]; exact hf3
    refine z_aload_n 0 dX11_rota_17 rfl rfl ?_
    refine z_getI (c := 11) (j := 0) (f := 1100) hf3.1 hf3.2 (Nat.le_of_ble_eq_true rfl) rfl zU_X11 (Nat.le_of_ble_eq_true rfl) (Nat.le_of_ble_eq_true rfl) ⟨_, zw_1298, Or.inl rfl⟩ rfl rfl dX11_rota_18 ?_
    refine z_if_le 28 dX11_rota_21 (by decide) (fun c8 => ?_) (fun c8 => ?_)
    · have h := h.1 c8
      refine z_aload_n 0 dX11_rota_28 rfl rfl ?_
      refine z_iload_n 1 dX11_rota_29 rfl rfl ?_
      refine z_callVI (ci := 11) (st := []) (w_X11_bandOf h) hf3.1 hf3.2 (Nat.le_of_ble_eq_true rfl) rfl zw_1671 zw_1668 zw_1670 zw_49 zw_74 zy_X11_bandOf rfl rfl ⟨Nat.le_of_ble_eq_true rfl, Nat.le_of_ble_eq_true rfl⟩ ⟨(Nat.le_of_ble_eq_true rfl), (Nat.le_of_ble_eq_true rfl)⟩ (Nat.le_of_ble_eq_true rfl) dX11_rota_30 (fun _ _ hx => hx.elim) (fun r7 S6 h => ?_)
      refine z_widen (k' := 0) (n' := 0) (Nat.le_refl _) (Nat.le_refl _) ?_
      exact z_ireturn ⟨rfl, _, rfl, h⟩ rfl (Nat.le_of_ble_eq_true rfl) (Nat.le_of_ble_eq_true rfl) dX11_rota_33
    · have h := h.2 c8
      refine z_iconst (v := 0) dX11_rota_24 rfl ?_
      refine z_goto 33 dX11_rota_25 (by decide) ?_
      exact z_ireturn ⟨rfl, _, rfl, h⟩ rfl (Nat.le_of_ble_eq_true rfl) (Nat.le_of_ble_eq_true rfl) dX11_rota_33
  · have h := h.2 c15
    refine z_iconst (v := 0) dX11_rota_9 rfl ?_
    refine z_goto 14 dX11_rota_10 (by decide) ?_
    obtain ⟨hf9, h⟩ := h
    have h := h _ rfl
    refine z_putV (c := 11) (j := 0) (ty0 := tyX11) (S' := sI S1 1100 a0 0) hf9.1 hf9.2 (Nat.le_of_ble_eq_true rfl) rfl zU_X11 tyX11_ok nmX11 (Nat.le_of_ble_eq_true rfl) (Nat.le_of_ble_eq_true rfl) ⟨_, zw_1298, Or.inl rfl⟩ (.inl rfl) rfl rfl rfl (zUpI (v := 0) hf9.2 (Nat.le_of_ble_eq_true rfl) (Nat.le_of_ble_eq_true rfl) rfl rfl) dX11_rota_14 ?_
    obtain ⟨S10, hS11⟩ : ∃ z, z = sI S1 1100 a0 0 := ⟨_, rfl⟩
    rw [← hS11] at h ⊢
    have hf9 : a0 ∈ gL S10 ∧ gK S10 a0 = 11 := by rw [hS11]; exact hf9
    refine z_aload_n 0 dX11_rota_17 rfl rfl ?_
    refine z_getI (c := 11) (j := 0) (f := 1100) hf9.1 hf9.2 (Nat.le_of_ble_eq_true rfl) rfl zU_X11 (Nat.le_of_ble_eq_true rfl) (Nat.le_of_ble_eq_true rfl) ⟨_, zw_1298, Or.inl rfl⟩ rfl rfl dX11_rota_18 ?_
    refine z_if_le 28 dX11_rota_21 (by decide) (fun c14 => ?_) (fun c14 => ?_)
    · have h := h.1 c14
      refine z_aload_n 0 dX11_rota_28 rfl rfl ?_
      refine z_iload_n 1 dX11_rota_29 rfl rfl ?_
      refine z_callVI (ci := 11) (st := []) (w_X11_bandOf h) hf9.1 hf9.2 (Nat.le_of_ble_eq_true rfl) rfl zw_1671 zw_1668 zw_1670 zw_49 zw_74 zy_X11_bandOf rfl rfl ⟨Nat.le_of_ble_eq_true rfl, Nat.le_of_ble_eq_true rfl⟩ ⟨(Nat.le_of_ble_eq_true rfl), (Nat.le_of_ble_eq_true rfl)⟩ (Nat.le_of_ble_eq_true rfl) dX11_rota_30 (fun _ _ hx => hx.elim) (fun r13 S12 h => ?_)
      refine z_widen (k' := 0) (n' := 0) (Nat.le_refl _) (Nat.le_refl _) ?_
      exact z_ireturn ⟨rfl, _, rfl, h⟩ rfl (Nat.le_of_ble_eq_true rfl) (Nat.le_of_ble_eq_true rfl) dX11_rota_33
    · have h := h.2 c14
      refine z_iconst (v := 0) dX11_rota_24 rfl ?_
      refine z_goto 33 dX11_rota_25 (by decide) ?_
      exact z_ireturn ⟨rfl, _, rfl, h⟩ rfl (Nat.le_of_ble_eq_true rfl) (Nat.le_of_ble_eq_true rfl) dX11_rota_33
set_option maxRecDepth 20000 in
set_option maxHeartbeats 4000000 in
theorem w_X11_pass_J61 {E : zE}  {Q : Int32 → zS → Prop} {X : String → zS → Prop}  (a0 : Nat) (l100 : Int32) (a101 : Nat) (S : zS) (h : p_X11_pass_J61 E  Q X a0 l100 a101 S) : zJ E (RX11, cX11_pass, 2, (some .int), false, [], zTr) ({ frames := 3, cells := 0, slots := 0, locals := 70 } : Room) (zq (qI Q)) (zx X) 61 [(0, .ref a0)] [.int l100, .ref a101] [] S 0 0 := by
  unfold p_X11_pass_J61 at h
  obtain ⟨hf8, h⟩ := h
  have h := h _ rfl
  refine z_putV (c := 11) (j := 25) (ty0 := tyX11) (S' := sI S 1125 a101 l100) hf8.1 hf8.2 (Nat.le_of_ble_eq_true rfl) rfl zU_X11 tyX11_ok nmX11 (Nat.le_of_ble_eq_true rfl) (Nat.le_of_ble_eq_true rfl) ⟨_, zw_1323, Or.inl rfl⟩ (.inl rfl) rfl rfl rfl (zUpI (v := l100) hf8.2 (Nat.le_of_ble_eq_true rfl) (Nat.le_of_ble_eq_true rfl) rfl rfl) dX11_pass_61 ?_
  obtain ⟨S9, hS10⟩ : ∃ z, z = sI S 1125 a101 l100 := ⟨_, rfl⟩
  rw [← hS10] at h ⊢
  have hf8 : a101 ∈ gL S9 ∧ gK S9 a101 = 11 := by rw [hS10]; exact hf8
  refine z_aload_n 0 dX11_pass_64 rfl rfl ?_
  refine z_iconst (v := (-1)) dX11_pass_65 rfl ?_
  obtain ⟨hf11, h⟩ := h
  have h := h _ rfl
  refine z_putV (c := 11) (j := 26) (ty0 := tyX11) (S' := sI S9 1126 a0 (-1)) hf11.1 hf11.2 (Nat.le_of_ble_eq_true rfl) rfl zU_X11 tyX11_ok nmX11 (Nat.le_of_ble_eq_true rfl) (Nat.le_of_ble_eq_true rfl) ⟨_, zw_1324, Or.inl rfl⟩ (.inl rfl) rfl rfl rfl (zUpI (v := (-1)) hf11.2 (Nat.le_of_ble_eq_true rfl) (Nat.le_of_ble_eq_true rfl) rfl rfl) dX11_pass_66 ?_
  obtain ⟨S12, hS13⟩ : ∃ z, z = sI S9 1126 a0 (-1) := ⟨_, rfl⟩
  rw [← hS13] at h ⊢
  have hf11 : a0 ∈ gL S12 ∧ gK S12 a0 = 11 := by rw [hS13]; exact hf11
  have hf8 : a101 ∈ gL S12 ∧ gK S12 a101 = 11 := by rw [hS13]; exact hf8
  refine z_aload_n 0 dX11_pass_69 rfl rfl ?_
  refine z_getQ (c := 11) (j := 21) (f := 1121) hf11.1 hf11.2 (Nat.le_of_ble_eq_true rfl) rfl zU_X11 (Nat.le_of_ble_eq_true rfl) (Nat.le_of_ble_eq_true rfl) ⟨_, zw_1319, Or.inl rfl⟩ rfl rfl dX11_pass_70 ?_
  refine z_aload_n 0 dX11_pass_73 rfl rfl ?_
  refine z_getI (c := 11) (j := 20) (f := 1120) hf11.1 hf11.2 (Nat.le_of_ble_eq_true rfl) rfl zU_X11 (Nat.le_of_ble_eq_true rfl) (Nat.le_of_ble_eq_true rfl) ⟨_, zw_1318, Or.inl rfl⟩ rfl rfl dX11_pass_74 ?_
  refine z_iconst (v := 0) dX11_pass_77 rfl ?_
  obtain ⟨b14, hb15, h⟩ := h
  rw [show va_rf (gR S12 1121 a0) = Value.ref b14 from by rw [hb15]; rfl]
  obtain ⟨hf16, h⟩ := h
  obtain ⟨j17, hj18, h⟩ := h
  have h := h _ rfl
  refine z_iast (j := j17) hf16.1 hf16.2 hj18.1 hj18.2.1 hj18.2.2 dX11_pass_78 ?_
  obtain ⟨S19, hS20⟩ : ∃ z, z = sA S12 b14 j17 0 := ⟨_, rfl⟩
  rw [← hS20] at h ⊢
  have hf11 : a0 ∈ gL S19 ∧ gK S19 a0 = 11 := by rw [hS20]; exact hf11
  have hf8 : a101 ∈ gL S19 ∧ gK S19 a101 = 11 := by rw [hS20]; exact hf8
  have hf16 : b14 ∈ gL S19 ∧ gK S19 b14 = 12 := by rw [hS20]; exact hf16
  refine z_aload_n 0 dX11_pass_79 rfl rfl ?_
  refine z_dup dX11_pass_80 rfl ?_
  refine z_getI (c := 11) (j := 20) (f := 1120) hf11.1 hf11.2 (Nat.le_of_ble_eq_true rfl) rfl zU_X11 (Nat.le_of_ble_eq_true rfl) (Nat.le_of_ble_eq_true rfl) ⟨_, zw_1318, Or.inl rfl⟩ rfl rfl dX11_pass_81 ?_
  refine z_iconst (v := 1) dX11_pass_84 rfl ?_
  refine z_iadd dX11_pass_85 ?_
  have h := h _ rfl
  refine z_putV (c := 11) (j := 20) (ty0 := tyX11) (S' := sI S19 1120 a0 ((gI S19 1120 a0) + 1)) hf11.1 hf11.2 (Nat.le_of_ble_eq_true rfl) rfl zU_X11 tyX11_ok nmX11 (Nat.le_of_ble_eq_true rfl) (Nat.le_of_ble_eq_true rfl) ⟨_, zw_1318, Or.inl rfl⟩ (.inl rfl) rfl rfl rfl (zUpI (v := ((gI S19 1120 a0) + 1)) hf11.2 (Nat.le_of_ble_eq_true rfl) (Nat.le_of_ble_eq_true rfl) rfl rfl) dX11_pass_86 ?_
  obtain ⟨S21, hS22⟩ : ∃ z, z = sI S19 1120 a0 ((gI S19 1120 a0) + 1) := ⟨_, rfl⟩
  rw [← hS22] at h ⊢
  have hf11 : a0 ∈ gL S21 ∧ gK S21 a0 = 11 := by rw [hS22]; exact hf11
  have hf8 : a101 ∈ gL S21 ∧ gK S21 a101 = 11 := by rw [hS22]; exact hf8
  have hf16 : b14 ∈ gL S21 ∧ gK S21 b14 = 12 := by rw [hS22]; exact hf16
  refine z_aload_n 0 dX11_pass_89 rfl rfl ?_
  refine z_getI (c := 11) (j := 20) (f := 1120) hf11.1 hf11.2 (Nat.le_of_ble_eq_true rfl) rfl zU_X11 (Nat.le_of_ble_eq_true rfl) (Nat.le_of_ble_eq_true rfl) ⟨_, zw_1318, Or.inl rfl⟩ rfl rfl dX11_pass_90 ?_
  exact z_ireturn ⟨rfl, _, rfl, h⟩ rfl (Nat.le_of_ble_eq_true rfl) (Nat.le_of_ble_eq_true rfl) dX11_pass_93
set_option maxRecDepth 20000 in
set_option maxHeartbeats 4000000 in
theorem w_X11_pass_J22 {E : zE}  {Q : Int32 → zS → Prop} {X : String → zS → Prop}  (a0 : Nat) (l100 : Int32) (a101 : Nat) (S : zS) (h : p_X11_pass_J22 E  Q X a0 l100 a101 S) : zJ E (RX11, cX11_pass, 2, (some .int), false, [], zTr) ({ frames := 3, cells := 0, slots := 0, locals := 70 } : Room) (zq (qI Q)) (zx X) 22 [(0, .ref a0)] [.int l100, .ref a101] [] S 0 0 := by
  unfold p_X11_pass_J22 at h
  obtain ⟨hf2, h⟩ := h
  have h := h _ rfl
  refine z_putV (c := 11) (j := 0) (ty0 := tyX11) (S' := sI S 1100 a101 l100) hf2.1 hf2.2 (Nat.le_of_ble_eq_true rfl) rfl zU_X11 tyX11_ok nmX11 (Nat.le_of_ble_eq_true rfl) (Nat.le_of_ble_eq_true rfl) ⟨_, zw_1298, Or.inl rfl⟩ (.inl rfl) rfl rfl rfl (zUpI (v := l100) hf2.2 (Nat.le_of_ble_eq_true rfl) (Nat.le_of_ble_eq_true rfl) rfl rfl) dX11_pass_22 ?_
  obtain ⟨S3, hS4⟩ : ∃ z, z = sI S 1100 a101 l100 := ⟨_, rfl⟩
  rw [← hS4] at h ⊢
  have hf2 : a101 ∈ gL S3 ∧ gK S3 a101 = 11 := by rw [hS4]; exact hf2
  refine z_aload_n 0 dX11_pass_25 rfl rfl ?_
  obtain ⟨hf5, h⟩ := h
  refine z_getI (c := 11) (j := 0) (f := 1100) hf5.1 hf5.2 (Nat.le_of_ble_eq_true rfl) rfl zU_X11 (Nat.le_of_ble_eq_true rfl) (Nat.le_of_ble_eq_true rfl) ⟨_, zw_1298, Or.inl rfl⟩ rfl rfl dX11_pass_26 ?_
  refine z_if_le 34 dX11_pass_29 (by decide) (fun c26 => ?_) (fun c26 => ?_)
  · have h := h.1 c26
    refine z_aload_n 0 dX11_pass_34 rfl rfl ?_
    refine z_aload_n 0 dX11_pass_35 rfl rfl ?_
    refine z_getI (c := 11) (j := 20) (f := 1120) hf5.1 hf5.2 (Nat.le_of_ble_eq_true rfl) rfl zU_X11 (Nat.le_of_ble_eq_true rfl) (Nat.le_of_ble_eq_true rfl) ⟨_, zw_1318, Or.inl rfl⟩ rfl rfl dX11_pass_36 ?_
    refine z_callVI (ci := 11) (st := []) (w_X11_bandOf h) hf5.1 hf5.2 (Nat.le_of_ble_eq_true rfl) rfl zw_1671 zw_1668 zw_1670 zw_49 zw_74 zy_X11_bandOf rfl rfl ⟨Nat.le_of_ble_eq_true rfl, Nat.le_of_ble_eq_true rfl⟩ ⟨(Nat.le_of_ble_eq_true rfl), (Nat.le_of_ble_eq_true rfl)⟩ (Nat.le_of_ble_eq_true rfl) dX11_pass_39 (fun _ _ hx => hx.elim) (fun r7 S6 h => ?_)
    refine z_widen (k' := 0) (n' := 0) (Nat.le_refl _) (Nat.le_refl _) ?_
    refine z_istore_n (lv' := [(1, .int r7), (0, .ref a0)]) dX11_pass_42 rfl (Nat.le_of_ble_eq_true rfl) rfl ?_
    refine z_aload_n 1 dX11_pass_43 rfl rfl ?_
    refine z_iload_n 0 dX11_pass_44 rfl rfl ?_
    refine z_iconst (v := (-1)) dX11_pass_45 rfl ?_
    refine z_icmp_ne 56 dX11_pass_46 (by decide) (fun c25 => ?_) (fun c25 => ?_)
    · have h := h.1 c25
      refine z_iload_n 0 dX11_pass_56 rfl rfl ?_
      refine z_iconst (v := 1) dX11_pass_57 rfl ?_
      refine z_iadd dX11_pass_58 ?_
      refine z_iconst (v := 4) dX11_pass_59 rfl ?_
      refine z_irem dX11_pass_60 (by decide) ?_
      refine z_sub [1] rfl ?_
      refine w_X11_pass_J61 a0 ((r7 + 1) - (r7 + 1) / 4 * 4) a0 S6 h
    · have h := h.2 c25
      refine z_aload_n 1 dX11_pass_49 rfl rfl ?_
      obtain ⟨hf24, h⟩ := h
      refine z_getI (c := 11) (j := 25) (f := 1125) hf24.1 hf24.2 (Nat.le_of_ble_eq_true rfl) rfl zU_X11 (Nat.le_of_ble_eq_true rfl) (Nat.le_of_ble_eq_true rfl) ⟨_, zw_1323, Or.inl rfl⟩ rfl rfl dX11_pass_50 ?_
      refine z_goto 61 dX11_pass_53 (by decide) ?_
      refine z_sub [1] rfl ?_
      refine w_X11_pass_J61 a0 (gI S6 1125 a0) a0 S6 h
  · have h := h.2 c26
    refine z_iconst (v := 0) dX11_pass_32 rfl ?_
    exact z_ireturn ⟨rfl, _, rfl, h⟩ rfl (Nat.le_of_ble_eq_true rfl) (Nat.le_of_ble_eq_true rfl) dX11_pass_33
set_option maxRecDepth 20000 in
set_option maxHeartbeats 4000000 in
theorem w_X11_pass_J17 {E : zE}  {Q : Int32 → zS → Prop} {X : String → zS → Prop}  (a0 : Nat) (a100 : Nat) (S : zS) (h : p_X11_pass_J17 E  Q X a0 a100 S) : zJ E (RX11, cX11_pass, 2, (some .int), false, [], zTr) ({ frames := 3, cells := 0, slots := 0, locals := 70 } : Room) (zq (qI Q)) (zx X) 17 [(0, .ref a0)] [.ref a100] [] S 0 0 := by
  unfold p_X11_pass_J17 at h
  refine z_iconst (v := 1) dX11_pass_17 rfl ?_
  refine z_goto 22 dX11_pass_18 (by decide) ?_
  refine w_X11_pass_J22 a0 1 a100 S h
set_option maxRecDepth 20000 in
set_option maxHeartbeats 4000000 in
theorem w_X11_pass {E : zE} {a0 : Nat} {S : zS} {Q : Int32 → zS → Prop} {X : String → zS → Prop} (h : p_X11_pass E a0 S Q X) : zM E yX11_pass cX11_pass 2 (some .int) ({ frames := 3, cells := 0, slots := 0, locals := 70 } : Room) [.ref a0] S (qI Q) X := by
  unfold p_X11_pass at h
  refine zM_of RX11 false (by decide) rfl (fun h => by cases h) (Nat.le_of_ble_eq_true rfl) ?_
  refine z_aload_n 0 dX11_pass_0 rfl rfl ?_
  refine z_aload_n 0 dX11_pass_1 rfl rfl ?_
  obtain ⟨hf1, h⟩ := h
  refine z_getI (c := 11) (j := 27) (f := 1127) hf1.1 hf1.2 (Nat.le_of_ble_eq_true rfl) rfl zU_X11 (Nat.le_of_ble_eq_true rfl) (Nat.le_of_ble_eq_true rfl) ⟨_, zw_1325, Or.inl rfl⟩ rfl rfl dX11_pass_2 ?_
  refine z_if_ne 17 dX11_pass_5 (by decide) (fun c28 => ?_) (fun c28 => ?_)
  · have h := h.1 c28
    refine w_X11_pass_J17 a0 a0 S h
  · have h := h.2 c28
    refine z_aload_n 0 dX11_pass_8 rfl rfl ?_
    refine z_getI (c := 11) (j := 20) (f := 1120) hf1.1 hf1.2 (Nat.le_of_ble_eq_true rfl) rfl zU_X11 (Nat.le_of_ble_eq_true rfl) (Nat.le_of_ble_eq_true rfl) ⟨_, zw_1318, Or.inl rfl⟩ rfl rfl dX11_pass_9 ?_
    refine z_bipush (v := 60) dX11_pass_12 rfl ?_
    refine z_icmp_ne 21 dX11_pass_14 (by decide) (fun c27 => ?_) (fun c27 => ?_)
    · have h := h.1 c27
      refine z_iconst (v := 0) dX11_pass_21 rfl ?_
      refine w_X11_pass_J22 a0 0 a0 S h
    · have h := h.2 c27
      refine w_X11_pass_J17 a0 a0 S h
set_option maxRecDepth 20000 in
set_option maxHeartbeats 4000000 in
theorem w_X11_today {E : zE} {a0 : Nat} {S : zS} {Q : Int32 → zS → Prop} {X : String → zS → Prop} (h : p_X11_today E a0 S Q X) : zM E yX11_today cX11_today 1 (some .int) ({ frames := 0, cells := 0, slots := 0, locals := 0 } : Room) [.ref a0] S (qI Q) X := by
  unfold p_X11_today at h
  refine zM_of RX11 false (by decide) rfl (fun h => by cases h) (Nat.le_of_ble_eq_true rfl) ?_
  refine z_aload_n 0 dX11_today_0 rfl rfl ?_
  refine z_iconst (v := 0) dX11_today_1 rfl ?_
  obtain ⟨hf1, h⟩ := h
  have h := h _ rfl
  refine z_putV (c := 11) (j := 0) (ty0 := tyX11) (S' := sI S 1100 a0 0) hf1.1 hf1.2 (Nat.le_of_ble_eq_true rfl) rfl zU_X11 tyX11_ok nmX11 (Nat.le_of_ble_eq_true rfl) (Nat.le_of_ble_eq_true rfl) ⟨_, zw_1298, Or.inl rfl⟩ (.inl rfl) rfl rfl rfl (zUpI (v := 0) hf1.2 (Nat.le_of_ble_eq_true rfl) (Nat.le_of_ble_eq_true rfl) rfl rfl) dX11_today_2 ?_
  obtain ⟨S2, hS3⟩ : ∃ z, z = sI S 1100 a0 0 := ⟨_, rfl⟩
  rw [← hS3] at h ⊢
  have hf1 : a0 ∈ gL S2 ∧ gK S2 a0 = 11 := by rw [hS3]; exact hf1
  refine z_aload_n 0 dX11_today_5 rfl rfl ?_
  refine z_getI (c := 11) (j := 20) (f := 1120) hf1.1 hf1.2 (Nat.le_of_ble_eq_true rfl) rfl zU_X11 (Nat.le_of_ble_eq_true rfl) (Nat.le_of_ble_eq_true rfl) ⟨_, zw_1318, Or.inl rfl⟩ rfl rfl dX11_today_6 ?_
  exact z_ireturn ⟨rfl, _, rfl, h⟩ rfl (Nat.le_of_ble_eq_true rfl) (Nat.le_of_ble_eq_true rfl) dX11_today_9
set_option maxRecDepth 20000 in
set_option maxHeartbeats 4000000 in
theorem w_X11_dropped {E : zE} {a0 : Nat} {S : zS} {Q : Int32 → zS → Prop} {X : String → zS → Prop} (h : p_X11_dropped E a0 S Q X) : zM E yX11_dropped cX11_dropped 1 (some .int) ({ frames := 0, cells := 0, slots := 0, locals := 0 } : Room) [.ref a0] S (qI Q) X := by
  unfold p_X11_dropped at h
  refine zM_of RX11 false (by decide) rfl (fun h => by cases h) (Nat.le_of_ble_eq_true rfl) ?_
  refine z_aload_n 0 dX11_dropped_0 rfl rfl ?_
  refine z_iconst (v := 0) dX11_dropped_1 rfl ?_
  obtain ⟨hf1, h⟩ := h
  have h := h _ rfl
  refine z_putV (c := 11) (j := 0) (ty0 := tyX11) (S' := sI S 1100 a0 0) hf1.1 hf1.2 (Nat.le_of_ble_eq_true rfl) rfl zU_X11 tyX11_ok nmX11 (Nat.le_of_ble_eq_true rfl) (Nat.le_of_ble_eq_true rfl) ⟨_, zw_1298, Or.inl rfl⟩ (.inl rfl) rfl rfl rfl (zUpI (v := 0) hf1.2 (Nat.le_of_ble_eq_true rfl) (Nat.le_of_ble_eq_true rfl) rfl rfl) dX11_dropped_2 ?_
  obtain ⟨S2, hS3⟩ : ∃ z, z = sI S 1100 a0 0 := ⟨_, rfl⟩
  rw [← hS3] at h ⊢
  have hf1 : a0 ∈ gL S2 ∧ gK S2 a0 = 11 := by rw [hS3]; exact hf1
  refine z_aload_n 0 dX11_dropped_5 rfl rfl ?_
  refine z_getI (c := 11) (j := 23) (f := 1123) hf1.1 hf1.2 (Nat.le_of_ble_eq_true rfl) rfl zU_X11 (Nat.le_of_ble_eq_true rfl) (Nat.le_of_ble_eq_true rfl) ⟨_, zw_1321, Or.inl rfl⟩ rfl rfl dX11_dropped_6 ?_
  exact z_ireturn ⟨rfl, _, rfl, h⟩ rfl (Nat.le_of_ble_eq_true rfl) (Nat.le_of_ble_eq_true rfl) dX11_dropped_9
set_option maxRecDepth 20000 in
set_option maxHeartbeats 4000000 in
theorem w_X11_isPeoples {E : zE} {a0 : Nat} {l1 : Int32} {S : zS} {Q : Int32 → zS → Prop} {X : String → zS → Prop} (h : p_X11_isPeoples E a0 l1 S Q X) : zM E yX11_isPeoples cX11_isPeoples 2 (some .boolean) ({ frames := 0, cells := 0, slots := 0, locals := 0 } : Room) [.ref a0, .int l1] S (qI Q) X := by
  unfold p_X11_isPeoples at h
  refine zM_of RX11 false (by decide) rfl (fun h => by cases h) (Nat.le_of_ble_eq_true rfl) ?_
  refine z_aload_n 0 dX11_isPeoples_0 rfl rfl ?_
  obtain ⟨hf1, h⟩ := h
  refine z_getI (c := 11) (j := 29) (f := 1129) hf1.1 hf1.2 (Nat.le_of_ble_eq_true rfl) rfl zU_X11 (Nat.le_of_ble_eq_true rfl) (Nat.le_of_ble_eq_true rfl) ⟨_, zw_1327, Or.inl rfl⟩ rfl rfl dX11_isPeoples_1 ?_
  refine z_iload_n 1 dX11_isPeoples_4 rfl rfl ?_
  refine z_ishr dX11_isPeoples_5 ?_
  refine z_iconst (v := 1) dX11_isPeoples_6 rfl ?_
  refine z_iand dX11_isPeoples_7 ?_
  refine z_iconst (v := 1) dX11_isPeoples_8 rfl ?_
  refine z_icmp_ne 16 dX11_isPeoples_9 (by decide) (fun c4 => ?_) (fun c4 => ?_)
  · have h := h.1 c4
    refine z_iconst (v := 0) dX11_isPeoples_16 rfl ?_
    obtain ⟨hz2, h⟩ := h
    exact z_zreturn ⟨rfl, _, rfl, h⟩ rfl (zbn hz2) (Nat.le_of_ble_eq_true rfl) (Nat.le_of_ble_eq_true rfl) dX11_isPeoples_17
  · have h := h.2 c4
    refine z_iconst (v := 1) dX11_isPeoples_12 rfl ?_
    refine z_goto 17 dX11_isPeoples_13 (by decide) ?_
    obtain ⟨hz3, h⟩ := h
    exact z_zreturn ⟨rfl, _, rfl, h⟩ rfl (zbn hz3) (Nat.le_of_ble_eq_true rfl) (Nat.le_of_ble_eq_true rfl) dX11_isPeoples_17
set_option maxRecDepth 20000 in
set_option maxHeartbeats 4000000 in
theorem w_X11_placeIn_L2 {E : zE} {K17 : Int32 → zS → Prop} {Q : Int32 → zS → Prop} {X : String → zS → Prop} (hK17 : ∀ (l3 : Int32) (S : zS), K17 l3 S → zJ E (RX11, cX11_placeIn, 4, (some .int), false, [], zTr) ({ frames := 1, cells := 0, slots := 0, locals := 21 } : Room) (zq (qI Q)) (zx X) 17 [(3, .int l3)] [] [] S 0 0) : ∀ (m2 : Nat) (l1 : Int32) (l2 : Int32) (l3 : Int32) (S : zS), p_X11_placeIn_L2 E K17 Q X m2 l1 l2 l3 S → zJ E (RX11, cX11_placeIn, 4, (some .int), false, [], zTr) ({ frames := 1, cells := 0, slots := 0, locals := 21 } : Room) (zq (qI Q)) (zx X) 2 [(1, .int l1), (2, .int l2), (3, .int l3)] [] [] S 0 0 := by
  intro m2
  induction m2 with
  | zero => intro l1 l2 l3 S h; exact (show False from h).elim
  | succ m2 ih =>
    intro l1 l2 l3 S h
    unfold p_X11_placeIn_L2 at h
    refine z_iload_n 0 dX11_placeIn_2 rfl rfl ?_
    refine z_iload_n 2 dX11_placeIn_3 rfl rfl ?_
    refine z_callSI (st := []) (w_X11_bell h) zw_1491 zw_1489 zw_1490 zw_74 zy_X11_bell rfl rfl ⟨Nat.le_of_ble_eq_true rfl, Nat.le_of_ble_eq_true rfl⟩ ⟨(Nat.le_of_ble_eq_true rfl), (Nat.le_of_ble_eq_true rfl)⟩ (Nat.le_of_ble_eq_true rfl) dX11_placeIn_4 (fun _ _ hx => hx.elim) (fun r2 S1 h => ?_)
    refine z_widen (k' := 0) (n' := 0) (Nat.le_refl _) (Nat.le_refl _) ?_
    refine z_iload_n 1 dX11_placeIn_7 rfl rfl ?_
    refine z_icmp_eq 17 dX11_placeIn_8 (by decide) (fun c3 => ?_) (fun c3 => ?_)
    · have h := h.1 c3
      refine z_sub [2] rfl ?_
      exact hK17 l3 S1 h
    · have h := h.2 c3
      refine z_iinc (v := (l3 + 1)) (lv' := [(3, .int (l3 + 1)), (1, .int l1), (2, .int l2)]) 2 dX11_placeIn_11 rfl rfl (Nat.le_of_ble_eq_true rfl) rfl ?_
      refine z_goto 2 dX11_placeIn_14 (by decide) ?_
      refine z_sub [1, 2, 0] rfl ?_
      exact ih l1 l2 (l3 + 1) S1 h
set_option maxRecDepth 20000 in
set_option maxHeartbeats 4000000 in
theorem w_X11_placeIn {E : zE} {a0 : Nat} {l1 : Int32} {l2 : Int32} {S : zS} {Q : Int32 → zS → Prop} {X : String → zS → Prop} (h : p_X11_placeIn E a0 l1 l2 S Q X) : zM E yX11_placeIn cX11_placeIn 4 (some .int) ({ frames := 1, cells := 0, slots := 0, locals := 21 } : Room) [.ref a0, .int l1, .int l2] S (qI Q) X := by
  unfold p_X11_placeIn at h
  refine zM_of RX11 false (by decide) rfl (fun h => by cases h) (Nat.le_of_ble_eq_true rfl) ?_
  refine z_iconst (v := 0) dX11_placeIn_0 rfl ?_
  refine z_istore_n (lv' := [(3, .int 0), (0, .ref a0), (1, .int l1), (2, .int l2)]) dX11_placeIn_1 rfl (Nat.le_of_ble_eq_true rfl) rfl ?_
  obtain ⟨m2, h⟩ := h
  refine z_sub [2, 3, 0] rfl ?_
  refine w_X11_placeIn_L2 (fun l3 S h => ?_) m2 l1 l2 0 S h
  refine z_iload_n 0 dX11_placeIn_17 rfl rfl ?_
  exact z_ireturn ⟨rfl, _, rfl, h⟩ rfl (Nat.le_of_ble_eq_true rfl) (Nat.le_of_ble_eq_true rfl) dX11_placeIn_18
set_option maxRecDepth 20000 in
set_option maxHeartbeats 4000000 in
theorem w_X11_dueAt {E : zE} {a0 : Nat} {l1 : Int32} {l2 : Int32} {S : zS} {Q : Int32 → zS → Prop} {X : String → zS → Prop} (h : p_X11_dueAt E a0 l1 l2 S Q X) : zM E yX11_dueAt cX11_dueAt 3 (some .int) ({ frames := 1, cells := 0, slots := 0, locals := 21 } : Room) [.ref a0, .int l1, .int l2] S (qI Q) X := by
  unfold p_X11_dueAt at h
  refine zM_of RX11 false (by decide) rfl (fun h => by cases h) (Nat.le_of_ble_eq_true rfl) ?_
  refine z_aload_n 0 dX11_dueAt_0 rfl rfl ?_
  obtain ⟨hf1, h⟩ := h
  refine z_getI (c := 11) (j := 30) (f := 1130) hf1.1 hf1.2 (Nat.le_of_ble_eq_true rfl) rfl zU_X11 (Nat.le_of_ble_eq_true rfl) (Nat.le_of_ble_eq_true rfl) ⟨_, zw_1328, Or.inl rfl⟩ rfl rfl dX11_dueAt_1 ?_
  refine z_aload_n 0 dX11_dueAt_4 rfl rfl ?_
  refine z_aload_n 0 dX11_dueAt_5 rfl rfl ?_
  refine z_getI (c := 11) (j := 28) (f := 1128) hf1.1 hf1.2 (Nat.le_of_ble_eq_true rfl) rfl zU_X11 (Nat.le_of_ble_eq_true rfl) (Nat.le_of_ble_eq_true rfl) ⟨_, zw_1326, Or.inl rfl⟩ rfl rfl dX11_dueAt_6 ?_
  refine z_callVI (ci := 11) (st := [.int (gI S 1130 a0)]) (w_X11_stageOf h) hf1.1 hf1.2 (Nat.le_of_ble_eq_true rfl) rfl zw_1462 zw_1459 zw_1461 zw_31 zw_74 zy_X11_stageOf rfl rfl ⟨Nat.le_of_ble_eq_true rfl, Nat.le_of_ble_eq_true rfl⟩ ⟨(Nat.le_of_ble_eq_true rfl), (Nat.le_of_ble_eq_true rfl)⟩ (Nat.le_of_ble_eq_true rfl) dX11_dueAt_9 (fun _ _ hx => hx.elim) (fun r3 S2 h => ?_)
  refine z_widen (k' := 0) (n' := 0) (Nat.le_refl _) (Nat.le_refl _) ?_
  refine z_iload_n 1 dX11_dueAt_12 rfl rfl ?_
  refine z_imul dX11_dueAt_13 ?_
  refine z_iload_n 2 dX11_dueAt_14 rfl rfl ?_
  refine z_iadd dX11_dueAt_15 ?_
  refine z_iload_n 1 dX11_dueAt_16 rfl rfl ?_
  refine z_iconst (v := 2) dX11_dueAt_17 rfl ?_
  refine z_idiv dX11_dueAt_18 (by decide) ?_
  refine z_iadd dX11_dueAt_19 ?_
  refine z_imul dX11_dueAt_20 ?_
  refine z_aload_n 0 dX11_dueAt_21 rfl rfl ?_
  obtain ⟨hf4, h⟩ := h
  refine z_getI (c := 11) (j := 32) (f := 1132) hf4.1 hf4.2 (Nat.le_of_ble_eq_true rfl) rfl zU_X11 (Nat.le_of_ble_eq_true rfl) (Nat.le_of_ble_eq_true rfl) ⟨_, zw_1330, Or.inl rfl⟩ rfl rfl dX11_dueAt_22 ?_
  refine z_iadd dX11_dueAt_25 ?_
  exact z_ireturn ⟨rfl, _, rfl, h⟩ rfl (Nat.le_of_ble_eq_true rfl) (Nat.le_of_ble_eq_true rfl) dX11_dueAt_26
set_option maxRecDepth 20000 in
set_option maxHeartbeats 4000000 in
theorem w_X11_isReady_L19 {E : zE} {K62 : Int32 → zS → Prop} {Q : Int32 → zS → Prop} {X : String → zS → Prop} (hK62 : ∀ (l1 : Int32) (S : zS), K62 l1 S → zJ E (RX11, cX11_isReady, 3, (some .boolean), false, [], zTr) ({ frames := 1, cells := 0, slots := 0, locals := 21 } : Room) (zq (qI Q)) (zx X) 62 [(1, .int l1)] [] [] S 0 0) : ∀ (m19 : Nat) (a0 : Nat) (l1 : Int32) (l2 : Int32) (S : zS), p_X11_isReady_L19 E K62 Q X m19 a0 l1 l2 S → zJ E (RX11, cX11_isReady, 3, (some .boolean), false, [], zTr) ({ frames := 1, cells := 0, slots := 0, locals := 21 } : Room) (zq (qI Q)) (zx X) 19 [(0, .ref a0), (1, .int l1), (2, .int l2)] [] [] S 0 0 := by
  intro m19
  induction m19 with
  | zero => intro a0 l1 l2 S h; exact (show False from h).elim
  | succ m19 ih =>
    intro a0 l1 l2 S h
    unfold p_X11_isReady_L19 at h
    refine z_iload_n 2 dX11_isReady_19 rfl rfl ?_
    refine z_bipush (v := 6) dX11_isReady_20 rfl ?_
    refine z_icmp_ge 62 dX11_isReady_22 (by decide) (fun c14 => ?_) (fun c14 => ?_)
    · have h := h.1 c14
      refine z_sub [1] rfl ?_
      exact hK62 l1 S h
    · have h := h.2 c14
      refine z_iload_n 1 dX11_isReady_25 rfl rfl ?_
      refine z_if_eq 54 dX11_isReady_26 (by decide) (fun c13 => ?_) (fun c13 => ?_)
      · have h := h.1 c13
        refine z_iconst (v := 0) dX11_isReady_54 rfl ?_
        refine z_istore_n (lv' := [(1, .int 0), (0, .ref a0), (2, .int l2)]) dX11_isReady_55 rfl (Nat.le_of_ble_eq_true rfl) rfl ?_
        refine z_iinc (v := (l2 + 1)) (lv' := [(2, .int (l2 + 1)), (1, .int 0), (0, .ref a0)]) 2 dX11_isReady_56 rfl rfl (Nat.le_of_ble_eq_true rfl) rfl ?_
        refine z_goto 19 dX11_isReady_59 (by decide) ?_
        refine z_sub [2, 1, 0] rfl ?_
        exact ih a0 0 (l2 + 1) S h
      · have h := h.2 c13
        refine z_aload_n 0 dX11_isReady_29 rfl rfl ?_
        refine z_iload_n 2 dX11_isReady_30 rfl rfl ?_
        obtain ⟨hf12, h⟩ := h
        refine z_callVI (ci := 11) (st := []) (w_X11_isPeoples h) hf12.1 hf12.2 (Nat.le_of_ble_eq_true rfl) rfl zw_1703 zw_1700 zw_1702 zw_53 zw_74 zy_X11_isPeoples rfl rfl ⟨Nat.le_of_ble_eq_true rfl, Nat.le_of_ble_eq_true rfl⟩ ⟨(Nat.le_of_ble_eq_true rfl), (Nat.le_of_ble_eq_true rfl)⟩ (Nat.le_of_ble_eq_true rfl) dX11_isReady_31 (fun _ _ hx => hx.elim) (fun r3 S2 h => ?_)
        refine z_widen (k' := 0) (n' := 0) (Nat.le_refl _) (Nat.le_refl _) ?_
        refine z_if_eq 50 dX11_isReady_34 (by decide) (fun c11 => ?_) (fun c11 => ?_)
        · have h := h.1 c11
          refine z_iconst (v := 1) dX11_isReady_50 rfl ?_
          refine z_goto 55 dX11_isReady_51 (by decide) ?_
          refine z_istore_n (lv' := [(1, .int 1), (0, .ref a0), (2, .int l2)]) dX11_isReady_55 rfl (Nat.le_of_ble_eq_true rfl) rfl ?_
          refine z_iinc (v := (l2 + 1)) (lv' := [(2, .int (l2 + 1)), (1, .int 1), (0, .ref a0)]) 2 dX11_isReady_56 rfl rfl (Nat.le_of_ble_eq_true rfl) rfl ?_
          refine z_goto 19 dX11_isReady_59 (by decide) ?_
          refine z_sub [2, 1, 0] rfl ?_
          exact ih a0 1 (l2 + 1) S2 h
        · have h := h.2 c11
          refine z_aload_n 0 dX11_isReady_37 rfl rfl ?_
          obtain ⟨hf4, h⟩ := h
          refine z_getQ (c := 11) (j := 34) (f := 1134) hf4.1 hf4.2 (Nat.le_of_ble_eq_true rfl) rfl zU_X11 (Nat.le_of_ble_eq_true rfl) (Nat.le_of_ble_eq_true rfl) ⟨_, zw_1332, Or.inl rfl⟩ rfl rfl dX11_isReady_38 ?_
          refine z_iload_n 2 dX11_isReady_41 rfl rfl ?_
          obtain ⟨b5, hb6, h⟩ := h
          rw [show va_rf (gR S2 1134 a0) = Value.ref b5 from by rw [hb6]; rfl]
          obtain ⟨hf7, h⟩ := h
          obtain ⟨j8, hj9, h⟩ := h
          refine z_iald (j := j8) hf7.1 hf7.2 hj9.1 hj9.2.1 hj9.2.2 dX11_isReady_42 ?_
          refine z_aload_n 0 dX11_isReady_43 rfl rfl ?_
          refine z_getI (c := 11) (j := 31) (f := 1131) hf4.1 hf4.2 (Nat.le_of_ble_eq_true rfl) rfl zU_X11 (Nat.le_of_ble_eq_true rfl) (Nat.le_of_ble_eq_true rfl) ⟨_, zw_1329, Or.inl rfl⟩ rfl rfl dX11_isReady_44 ?_
          refine z_icmp_le 54 dX11_isReady_47 (by decide) (fun c10 => ?_) (fun c10 => ?_)
          · have h := h.1 c10
            refine z_iconst (v := 0) dX11_isReady_54 rfl ?_
            refine z_istore_n (lv' := [(1, .int 0), (0, .ref a0), (2, .int l2)]) dX11_isReady_55 rfl (Nat.le_of_ble_eq_true rfl) rfl ?_
            refine z_iinc (v := (l2 + 1)) (lv' := [(2, .int (l2 + 1)), (1, .int 0), (0, .ref a0)]) 2 dX11_isReady_56 rfl rfl (Nat.le_of_ble_eq_true rfl) rfl ?_
            refine z_goto 19 dX11_isReady_59 (by decide) ?_
            refine z_sub [2, 1, 0] rfl ?_
            exact ih a0 0 (l2 + 1) S2 h
          · have h := h.2 c10
            refine z_iconst (v := 1) dX11_isReady_50 rfl ?_
            refine z_goto 55 dX11_isReady_51 (by decide) ?_
            refine z_istore_n (lv' := [(1, .int 1), (0, .ref a0), (2, .int l2)]) dX11_isReady_55 rfl (Nat.le_of_ble_eq_true rfl) rfl ?_
            refine z_iinc (v := (l2 + 1)) (lv' := [(2, .int (l2 + 1)), (1, .int 1), (0, .ref a0)]) 2 dX11_isReady_56 rfl rfl (Nat.le_of_ble_eq_true rfl) rfl ?_
            refine z_goto 19 dX11_isReady_59 (by decide) ?_
            refine z_sub [2, 1, 0] rfl ?_
            exact ih a0 1 (l2 + 1) S2 h
set_option maxRecDepth 20000 in
set_option maxHeartbeats 4000000 in
theorem w_X11_isReady_J16 {E : zE}  {Q : Int32 → zS → Prop} {X : String → zS → Prop}  (a0 : Nat) (l100 : Int32) (S : zS) (h : p_X11_isReady_J16 E  Q X a0 l100 S) : zJ E (RX11, cX11_isReady, 3, (some .boolean), false, [], zTr) ({ frames := 1, cells := 0, slots := 0, locals := 21 } : Room) (zq (qI Q)) (zx X) 16 [(0, .ref a0)] [.int l100] [] S 0 0 := by
  unfold p_X11_isReady_J16 at h
  refine z_istore_n (lv' := [(1, .int l100), (0, .ref a0)]) dX11_isReady_16 rfl (Nat.le_of_ble_eq_true rfl) rfl ?_
  refine z_iconst (v := 0) dX11_isReady_17 rfl ?_
  refine z_istore_n (lv' := [(2, .int 0), (1, .int l100), (0, .ref a0)]) dX11_isReady_18 rfl (Nat.le_of_ble_eq_true rfl) rfl ?_
  obtain ⟨m19, h⟩ := h
  refine z_sub [2, 1, 0] rfl ?_
  refine w_X11_isReady_L19 (fun l1 S h => ?_) m19 a0 l100 0 S h
  refine z_iload_n 0 dX11_isReady_62 rfl rfl ?_
  obtain ⟨hz15, h⟩ := h
  exact z_zreturn ⟨rfl, _, rfl, h⟩ rfl (zbn hz15) (Nat.le_of_ble_eq_true rfl) (Nat.le_of_ble_eq_true rfl) dX11_isReady_63
set_option maxRecDepth 20000 in
set_option maxHeartbeats 4000000 in
theorem w_X11_isReady {E : zE} {a0 : Nat} {S : zS} {Q : Int32 → zS → Prop} {X : String → zS → Prop} (h : p_X11_isReady E a0 S Q X) : zM E yX11_isReady cX11_isReady 3 (some .boolean) ({ frames := 1, cells := 0, slots := 0, locals := 21 } : Room) [.ref a0] S (qI Q) X := by
  unfold p_X11_isReady at h
  refine zM_of RX11 false (by decide) rfl (fun h => by cases h) (Nat.le_of_ble_eq_true rfl) ?_
  refine z_aload_n 0 dX11_isReady_0 rfl rfl ?_
  obtain ⟨hf1, h⟩ := h
  refine z_getI (c := 11) (j := 31) (f := 1131) hf1.1 hf1.2 (Nat.le_of_ble_eq_true rfl) rfl zU_X11 (Nat.le_of_ble_eq_true rfl) (Nat.le_of_ble_eq_true rfl) ⟨_, zw_1329, Or.inl rfl⟩ rfl rfl dX11_isReady_1 ?_
  refine z_aload_n 0 dX11_isReady_4 rfl rfl ?_
  refine z_getI (c := 11) (j := 13) (f := 1113) hf1.1 hf1.2 (Nat.le_of_ble_eq_true rfl) rfl zU_X11 (Nat.le_of_ble_eq_true rfl) (Nat.le_of_ble_eq_true rfl) ⟨_, zw_1311, Or.inl rfl⟩ rfl rfl dX11_isReady_5 ?_
  refine z_icmp_ge 15 dX11_isReady_8 (by decide) (fun c16 => ?_) (fun c16 => ?_)
  · have h := h.1 c16
    refine z_iconst (v := 0) dX11_isReady_15 rfl ?_
    refine w_X11_isReady_J16 a0 0 S h
  · have h := h.2 c16
    refine z_iconst (v := 1) dX11_isReady_11 rfl ?_
    refine z_goto 16 dX11_isReady_12 (by decide) ?_
    refine w_X11_isReady_J16 a0 1 S h
set_option maxRecDepth 20000 in
set_option maxHeartbeats 4000000 in
theorem w_X11_doesRow_J93 {E : zE} {B16 : Nat → Int32 → Int32 → Int32 → Int32 → zS → Prop} {Q : zS → Prop} {X : String → zS → Prop} (hB16 : ∀ (a0 : Nat) (l1 : Int32) (l2 : Int32) (l3 : Int32) (l4 : Int32) (S : zS), B16 a0 l1 l2 l3 l4 S → zJ E (RX11, cX11_doesRow, 7, none, false, [], zTr) ({ frames := 6, cells := 0, slots := 0, locals := 139 } : Room) (zq (qV Q)) (zx X) 16 [(0, .ref a0), (1, .int l1), (2, .int l2), (3, .int l3), (4, .int l4)] [] [] S 0 0) (a0 : Nat) (l1 : Int32) (l4 : Int32) (l5 : Int32) (l6 : Int32) (S : zS) (h : p_X11_doesRow_J93 E B16 Q X a0 l1 l4 l5 l6 S) : zJ E (RX11, cX11_doesRow, 7, none, false, [], zTr) ({ frames := 6, cells := 0, slots := 0, locals := 139 } : Room) (zq (qV Q)) (zx X) 93 [(0, .ref a0), (1, .int l1), (4, .int l4), (5, .int l5), (6, .int l6)] [] [] S 0 0 := by
  unfold p_X11_doesRow_J93 at h
  refine z_iconst (v := 1) dX11_doesRow_93 rfl ?_
  refine z_goto 98 dX11_doesRow_94 (by decide) ?_
  refine z_istore_n (lv' := [(3, .int 1), (0, .ref a0), (1, .int l1), (4, .int l4), (5, .int l5), (6, .int l6)]) dX11_doesRow_98 rfl (Nat.le_of_ble_eq_true rfl) rfl ?_
  refine z_iload 5 dX11_doesRow_99 rfl ?_
  refine z_istore_n (lv' := [(2, .int l6), (3, .int 1), (0, .ref a0), (1, .int l1), (4, .int l4), (5, .int l5), (6, .int l6)]) dX11_doesRow_101 rfl (Nat.le_of_ble_eq_true rfl) rfl ?_
  refine z_aload_n 2 dX11_doesRow_102 rfl rfl ?_
  refine z_iload 5 dX11_doesRow_103 rfl ?_
  obtain ⟨hf23, h⟩ := h
  refine z_callVI (ci := 11) (st := []) (w_X11_isPeoples h) hf23.1 hf23.2 (Nat.le_of_ble_eq_true rfl) rfl zw_1703 zw_1700 zw_1702 zw_53 zw_74 zy_X11_isPeoples rfl rfl ⟨Nat.le_of_ble_eq_true rfl, Nat.le_of_ble_eq_true rfl⟩ ⟨(Nat.le_of_ble_eq_true rfl), (Nat.le_of_ble_eq_true rfl)⟩ (Nat.le_of_ble_eq_true rfl) dX11_doesRow_105 (fun _ _ hx => hx.elim) (fun r18 S17 h => ?_)
  refine z_widen (k' := 0) (n' := 0) (Nat.le_refl _) (Nat.le_refl _) ?_
  refine z_if_ne 121 dX11_doesRow_108 (by decide) (fun c22 => ?_) (fun c22 => ?_)
  · have h := h.1 c22
    refine z_iinc (v := (l4 + 1)) (lv' := [(4, .int (l4 + 1)), (2, .int l6), (3, .int 1), (0, .ref a0), (1, .int l1), (5, .int l5), (6, .int l6)]) 4 dX11_doesRow_121 rfl rfl (Nat.le_of_ble_eq_true rfl) rfl ?_
    refine z_goto 16 dX11_doesRow_124 (by decide) ?_
    refine z_sub [3, 4, 1, 2, 0] rfl ?_
    exact hB16 a0 l1 l6 1 (l4 + 1) S17 h
  · have h := h.2 c22
    refine z_aload_n 2 dX11_doesRow_111 rfl rfl ?_
    refine z_iload 5 dX11_doesRow_112 rfl ?_
    refine z_aload_n 2 dX11_doesRow_114 rfl rfl ?_
    obtain ⟨hf19, h⟩ := h
    refine z_getI (c := 11) (j := 31) (f := 1131) hf19.1 hf19.2 (Nat.le_of_ble_eq_true rfl) rfl zU_X11 (Nat.le_of_ble_eq_true rfl) (Nat.le_of_ble_eq_true rfl) ⟨_, zw_1329, Or.inl rfl⟩ rfl rfl dX11_doesRow_115 ?_
    refine z_callVV (ci := 11) (st := []) (w_X11_blows h) hf19.1 hf19.2 (Nat.le_of_ble_eq_true rfl) rfl zw_1715 zw_1712 zw_1714 zw_56 zw_74 zy_X11_blows rfl rfl ⟨Nat.le_of_ble_eq_true rfl, Nat.le_of_ble_eq_true rfl⟩ ⟨(Nat.le_of_ble_eq_true rfl), (Nat.le_of_ble_eq_true rfl)⟩ (Nat.le_of_ble_eq_true rfl) dX11_doesRow_118 (fun _ _ hx => hx.elim) (fun S20 h => ?_)
    refine z_widen (k' := 0) (n' := 0) (Nat.le_refl _) (Nat.le_refl _) ?_
    refine z_iinc (v := (l4 + 1)) (lv' := [(4, .int (l4 + 1)), (2, .int l6), (3, .int 1), (0, .ref a0), (1, .int l1), (5, .int l5), (6, .int l6)]) 4 dX11_doesRow_121 rfl rfl (Nat.le_of_ble_eq_true rfl) rfl ?_
    refine z_goto 16 dX11_doesRow_124 (by decide) ?_
    refine z_sub [3, 4, 1, 2, 0] rfl ?_
    exact hB16 a0 l1 l6 1 (l4 + 1) S20 h
set_option maxRecDepth 20000 in
set_option maxHeartbeats 4000000 in
theorem w_X11_doesRow_J97 {E : zE} {B16 : Nat → Int32 → Int32 → Int32 → Int32 → zS → Prop} {Q : zS → Prop} {X : String → zS → Prop} (hB16 : ∀ (a0 : Nat) (l1 : Int32) (l2 : Int32) (l3 : Int32) (l4 : Int32) (S : zS), B16 a0 l1 l2 l3 l4 S → zJ E (RX11, cX11_doesRow, 7, none, false, [], zTr) ({ frames := 6, cells := 0, slots := 0, locals := 139 } : Room) (zq (qV Q)) (zx X) 16 [(0, .ref a0), (1, .int l1), (2, .int l2), (3, .int l3), (4, .int l4)] [] [] S 0 0) (a0 : Nat) (l1 : Int32) (l4 : Int32) (l5 : Int32) (l6 : Int32) (S : zS) (h : p_X11_doesRow_J97 E B16 Q X a0 l1 l4 l5 l6 S) : zJ E (RX11, cX11_doesRow, 7, none, false, [], zTr) ({ frames := 6, cells := 0, slots := 0, locals := 139 } : Room) (zq (qV Q)) (zx X) 97 [(0, .ref a0), (1, .int l1), (4, .int l4), (5, .int l5), (6, .int l6)] [] [] S 0 0 := by
  unfold p_X11_doesRow_J97 at h
  refine z_iconst (v := 0) dX11_doesRow_97 rfl ?_
  refine z_istore_n (lv' := [(3, .int 0), (0, .ref a0), (1, .int l1), (4, .int l4), (5, .int l5), (6, .int l6)]) dX11_doesRow_98 rfl (Nat.le_of_ble_eq_true rfl) rfl ?_
  refine z_iload 5 dX11_doesRow_99 rfl ?_
  refine z_istore_n (lv' := [(2, .int l6), (3, .int 0), (0, .ref a0), (1, .int l1), (4, .int l4), (5, .int l5), (6, .int l6)]) dX11_doesRow_101 rfl (Nat.le_of_ble_eq_true rfl) rfl ?_
  refine z_aload_n 2 dX11_doesRow_102 rfl rfl ?_
  refine z_iload 5 dX11_doesRow_103 rfl ?_
  obtain ⟨hf30, h⟩ := h
  refine z_callVI (ci := 11) (st := []) (w_X11_isPeoples h) hf30.1 hf30.2 (Nat.le_of_ble_eq_true rfl) rfl zw_1703 zw_1700 zw_1702 zw_53 zw_74 zy_X11_isPeoples rfl rfl ⟨Nat.le_of_ble_eq_true rfl, Nat.le_of_ble_eq_true rfl⟩ ⟨(Nat.le_of_ble_eq_true rfl), (Nat.le_of_ble_eq_true rfl)⟩ (Nat.le_of_ble_eq_true rfl) dX11_doesRow_105 (fun _ _ hx => hx.elim) (fun r25 S24 h => ?_)
  refine z_widen (k' := 0) (n' := 0) (Nat.le_refl _) (Nat.le_refl _) ?_
  refine z_if_ne 121 dX11_doesRow_108 (by decide) (fun c29 => ?_) (fun c29 => ?_)
  · have h := h.1 c29
    refine z_iinc (v := (l4 + 1)) (lv' := [(4, .int (l4 + 1)), (2, .int l6), (3, .int 0), (0, .ref a0), (1, .int l1), (5, .int l5), (6, .int l6)]) 4 dX11_doesRow_121 rfl rfl (Nat.le_of_ble_eq_true rfl) rfl ?_
    refine z_goto 16 dX11_doesRow_124 (by decide) ?_
    refine z_sub [3, 4, 1, 2, 0] rfl ?_
    exact hB16 a0 l1 l6 0 (l4 + 1) S24 h
  · have h := h.2 c29
    refine z_aload_n 2 dX11_doesRow_111 rfl rfl ?_
    refine z_iload 5 dX11_doesRow_112 rfl ?_
    refine z_aload_n 2 dX11_doesRow_114 rfl rfl ?_
    obtain ⟨hf26, h⟩ := h
    refine z_getI (c := 11) (j := 31) (f := 1131) hf26.1 hf26.2 (Nat.le_of_ble_eq_true rfl) rfl zU_X11 (Nat.le_of_ble_eq_true rfl) (Nat.le_of_ble_eq_true rfl) ⟨_, zw_1329, Or.inl rfl⟩ rfl rfl dX11_doesRow_115 ?_
    refine z_callVV (ci := 11) (st := []) (w_X11_blows h) hf26.1 hf26.2 (Nat.le_of_ble_eq_true rfl) rfl zw_1715 zw_1712 zw_1714 zw_56 zw_74 zy_X11_blows rfl rfl ⟨Nat.le_of_ble_eq_true rfl, Nat.le_of_ble_eq_true rfl⟩ ⟨(Nat.le_of_ble_eq_true rfl), (Nat.le_of_ble_eq_true rfl)⟩ (Nat.le_of_ble_eq_true rfl) dX11_doesRow_118 (fun _ _ hx => hx.elim) (fun S27 h => ?_)
    refine z_widen (k' := 0) (n' := 0) (Nat.le_refl _) (Nat.le_refl _) ?_
    refine z_iinc (v := (l4 + 1)) (lv' := [(4, .int (l4 + 1)), (2, .int l6), (3, .int 0), (0, .ref a0), (1, .int l1), (5, .int l5), (6, .int l6)]) 4 dX11_doesRow_121 rfl rfl (Nat.le_of_ble_eq_true rfl) rfl ?_
    refine z_goto 16 dX11_doesRow_124 (by decide) ?_
    refine z_sub [3, 4, 1, 2, 0] rfl ?_
    exact hB16 a0 l1 l6 0 (l4 + 1) S27 h
set_option maxRecDepth 20000 in
set_option maxHeartbeats 4000000 in
theorem w_X11_doesRow_J76 {E : zE} {B16 : Nat → Int32 → Int32 → Int32 → Int32 → zS → Prop} {Q : zS → Prop} {X : String → zS → Prop} (hB16 : ∀ (a0 : Nat) (l1 : Int32) (l2 : Int32) (l3 : Int32) (l4 : Int32) (S : zS), B16 a0 l1 l2 l3 l4 S → zJ E (RX11, cX11_doesRow, 7, none, false, [], zTr) ({ frames := 6, cells := 0, slots := 0, locals := 139 } : Room) (zq (qV Q)) (zx X) 16 [(0, .ref a0), (1, .int l1), (2, .int l2), (3, .int l3), (4, .int l4)] [] [] S 0 0) (a0 : Nat) (l1 : Int32) (l2 : Int32) (l3 : Int32) (l4 : Int32) (l5 : Int32) (l100 : Int32) (S : zS) (h : p_X11_doesRow_J76 E B16 Q X a0 l1 l2 l3 l4 l5 l100 S) : zJ E (RX11, cX11_doesRow, 7, none, false, [], zTr) ({ frames := 6, cells := 0, slots := 0, locals := 139 } : Room) (zq (qV Q)) (zx X) 76 [(0, .ref a0), (1, .int l1), (2, .int l2), (3, .int l3), (4, .int l4), (5, .int l5)] [.int l100] [] S 0 0 := by
  unfold p_X11_doesRow_J76 at h
  refine z_istore (lv' := [(6, .int l100), (0, .ref a0), (1, .int l1), (2, .int l2), (3, .int l3), (4, .int l4), (5, .int l5)]) dX11_doesRow_76 (Nat.le_of_ble_eq_true rfl) rfl ?_
  refine z_iload_n 4 dX11_doesRow_78 rfl rfl ?_
  refine z_if_ne 93 dX11_doesRow_79 (by decide) (fun c33 => ?_) (fun c33 => ?_)
  · have h := h.1 c33
    refine z_sub [1, 2, 5, 6, 0] rfl ?_
    refine w_X11_doesRow_J93 (fun a0 l1 l2 l3 l4 S h => ?_) a0 l1 l4 l5 l100 S h
    exact hB16 a0 l1 l2 l3 l4 S h
  · have h := h.2 c33
    refine z_iload 5 dX11_doesRow_82 rfl ?_
    refine z_if_le 97 dX11_doesRow_84 (by decide) (fun c32 => ?_) (fun c32 => ?_)
    · have h := h.1 c32
      refine z_sub [1, 2, 5, 6, 0] rfl ?_
      refine w_X11_doesRow_J97 (fun a0 l1 l2 l3 l4 S h => ?_) a0 l1 l4 l5 l100 S h
      exact hB16 a0 l1 l2 l3 l4 S h
    · have h := h.2 c32
      refine z_iload 0 dX11_doesRow_87 rfl ?_
      refine z_iload_n 3 dX11_doesRow_89 rfl rfl ?_
      refine z_icmp_gt 97 dX11_doesRow_90 (by decide) (fun c31 => ?_) (fun c31 => ?_)
      · have h := h.1 c31
        refine z_sub [1, 2, 5, 6, 0] rfl ?_
        refine w_X11_doesRow_J97 (fun a0 l1 l2 l3 l4 S h => ?_) a0 l1 l4 l5 l100 S h
        exact hB16 a0 l1 l2 l3 l4 S h
      · have h := h.2 c31
        refine z_sub [1, 2, 5, 6, 0] rfl ?_
        refine w_X11_doesRow_J93 (fun a0 l1 l2 l3 l4 S h => ?_) a0 l1 l4 l5 l100 S h
        exact hB16 a0 l1 l2 l3 l4 S h
set_option maxRecDepth 20000 in
set_option maxHeartbeats 4000000 in
theorem w_X11_doesRow_L16 {E : zE} {K127 : Nat → Int32 → Int32 → zS → Prop} {Q : zS → Prop} {X : String → zS → Prop} (hK127 : ∀ (a0 : Nat) (l1 : Int32) (l3 : Int32) (S : zS), K127 a0 l1 l3 S → zJ E (RX11, cX11_doesRow, 7, none, false, [], zTr) ({ frames := 6, cells := 0, slots := 0, locals := 139 } : Room) (zq (qV Q)) (zx X) 127 [(0, .ref a0), (1, .int l1), (3, .int l3)] [] [] S 0 0) : ∀ (m16 : Nat) (a0 : Nat) (l1 : Int32) (l2 : Int32) (l3 : Int32) (l4 : Int32) (S : zS), p_X11_doesRow_L16 E K127 Q X m16 a0 l1 l2 l3 l4 S → zJ E (RX11, cX11_doesRow, 7, none, false, [], zTr) ({ frames := 6, cells := 0, slots := 0, locals := 139 } : Room) (zq (qV Q)) (zx X) 16 [(0, .ref a0), (1, .int l1), (2, .int l2), (3, .int l3), (4, .int l4)] [] [] S 0 0 := by
  intro m16
  induction m16 with
  | zero => intro a0 l1 l2 l3 l4 S h; exact (show False from h).elim
  | succ m16 ih =>
    intro a0 l1 l2 l3 l4 S h
    unfold p_X11_doesRow_L16 at h
    refine z_iload 4 dX11_doesRow_16 rfl ?_
    refine z_iload_n 1 dX11_doesRow_18 rfl rfl ?_
    refine z_icmp_ge 127 dX11_doesRow_19 (by decide) (fun c42 => ?_) (fun c42 => ?_)
    · have h := h.1 c42
      refine z_sub [0, 1, 3] rfl ?_
      exact hK127 a0 l1 l3 S h
    · have h := h.2 c42
      refine z_aload_n 0 dX11_doesRow_22 rfl rfl ?_
      obtain ⟨hf4, h⟩ := h
      refine z_getQ (c := 11) (j := 14) (f := 1114) hf4.1 hf4.2 (Nat.le_of_ble_eq_true rfl) rfl zU_X11 (Nat.le_of_ble_eq_true rfl) (Nat.le_of_ble_eq_true rfl) ⟨_, zw_1312, Or.inl rfl⟩ rfl rfl dX11_doesRow_23 ?_
      refine z_aload_n 0 dX11_doesRow_26 rfl rfl ?_
      refine z_getI (c := 11) (j := 31) (f := 1131) hf4.1 hf4.2 (Nat.le_of_ble_eq_true rfl) rfl zU_X11 (Nat.le_of_ble_eq_true rfl) (Nat.le_of_ble_eq_true rfl) ⟨_, zw_1329, Or.inl rfl⟩ rfl rfl dX11_doesRow_27 ?_
      obtain ⟨b5, hb6, h⟩ := h
      rw [show va_rf (gR S 1114 a0) = Value.ref b5 from by rw [hb6]; rfl]
      obtain ⟨hf7, h⟩ := h
      obtain ⟨j8, hj9, h⟩ := h
      refine z_iald (j := j8) hf7.1 hf7.2 hj9.1 hj9.2.1 hj9.2.2 dX11_doesRow_30 ?_
      refine z_iload 4 dX11_doesRow_31 rfl ?_
      refine z_callSI (st := []) (w_X11_bell h) zw_1491 zw_1489 zw_1490 zw_74 zy_X11_bell rfl rfl ⟨Nat.le_of_ble_eq_true rfl, Nat.le_of_ble_eq_true rfl⟩ ⟨(Nat.le_of_ble_eq_true rfl), (Nat.le_of_ble_eq_true rfl)⟩ (Nat.le_of_ble_eq_true rfl) dX11_doesRow_33 (fun _ _ hx => hx.elim) (fun r11 S10 h => ?_)
      refine z_widen (k' := 0) (n' := 0) (Nat.le_refl _) (Nat.le_refl _) ?_
      refine z_istore (lv' := [(5, .int r11), (0, .ref a0), (1, .int l1), (2, .int l2), (3, .int l3), (4, .int l4)]) dX11_doesRow_36 (Nat.le_of_ble_eq_true rfl) rfl ?_
      refine z_aload_n 1 dX11_doesRow_38 rfl rfl ?_
      refine z_iload 0 dX11_doesRow_39 rfl ?_
      obtain ⟨hf41, h⟩ := h
      refine z_callVI (ci := 11) (st := []) (w_X11_isPeoples h) hf41.1 hf41.2 (Nat.le_of_ble_eq_true rfl) rfl zw_1703 zw_1700 zw_1702 zw_53 zw_74 zy_X11_isPeoples rfl rfl ⟨Nat.le_of_ble_eq_true rfl, Nat.le_of_ble_eq_true rfl⟩ ⟨(Nat.le_of_ble_eq_true rfl), (Nat.le_of_ble_eq_true rfl)⟩ (Nat.le_of_ble_eq_true rfl) dX11_doesRow_41 (fun _ _ hx => hx.elim) (fun r13 S12 h => ?_)
      refine z_widen (k' := 0) (n' := 0) (Nat.le_refl _) (Nat.le_refl _) ?_
      refine z_if_eq 66 dX11_doesRow_44 (by decide) (fun c40 => ?_) (fun c40 => ?_)
      · have h := h.1 c40
        refine z_aload_n 1 dX11_doesRow_66 rfl rfl ?_
        refine z_aload_n 1 dX11_doesRow_67 rfl rfl ?_
        obtain ⟨hf14, h⟩ := h
        refine z_getI (c := 11) (j := 31) (f := 1131) hf14.1 hf14.2 (Nat.le_of_ble_eq_true rfl) rfl zU_X11 (Nat.le_of_ble_eq_true rfl) (Nat.le_of_ble_eq_true rfl) ⟨_, zw_1329, Or.inl rfl⟩ rfl rfl dX11_doesRow_68 ?_
        refine z_iload 5 dX11_doesRow_71 rfl ?_
        refine z_callVI (ci := 11) (st := []) (w_X11_dueAt h) hf14.1 hf14.2 (Nat.le_of_ble_eq_true rfl) rfl zw_1711 zw_1708 zw_1710 zw_55 zw_74 zy_X11_dueAt rfl rfl ⟨Nat.le_of_ble_eq_true rfl, Nat.le_of_ble_eq_true rfl⟩ ⟨(Nat.le_of_ble_eq_true rfl), (Nat.le_of_ble_eq_true rfl)⟩ (Nat.le_of_ble_eq_true rfl) dX11_doesRow_73 (fun _ _ hx => hx.elim) (fun r16 S15 h => ?_)
        refine z_widen (k' := 0) (n' := 0) (Nat.le_refl _) (Nat.le_refl _) ?_
        refine z_sub [1, 2, 3, 4, 5, 0] rfl ?_
        refine w_X11_doesRow_J76 (fun a0 l1 l2 l3 l4 S h => ?_) a0 l1 l2 l3 l4 r11 r16 S15 h
        exact ih a0 l1 l2 l3 l4 S h
      · have h := h.2 c40
        refine z_aload_n 1 dX11_doesRow_47 rfl rfl ?_
        obtain ⟨hf34, h⟩ := h
        refine z_getQ (c := 11) (j := 35) (f := 1135) hf34.1 hf34.2 (Nat.le_of_ble_eq_true rfl) rfl zU_X11 (Nat.le_of_ble_eq_true rfl) (Nat.le_of_ble_eq_true rfl) ⟨_, zw_1333, Or.inl rfl⟩ rfl rfl dX11_doesRow_48 ?_
        refine z_sipush (v := 240) dX11_doesRow_51 rfl ?_
        refine z_iload 0 dX11_doesRow_54 rfl ?_
        refine z_imul dX11_doesRow_56 ?_
        refine z_aload_n 1 dX11_doesRow_57 rfl rfl ?_
        refine z_getI (c := 11) (j := 31) (f := 1131) hf34.1 hf34.2 (Nat.le_of_ble_eq_true rfl) rfl zU_X11 (Nat.le_of_ble_eq_true rfl) (Nat.le_of_ble_eq_true rfl) ⟨_, zw_1329, Or.inl rfl⟩ rfl rfl dX11_doesRow_58 ?_
        refine z_iadd dX11_doesRow_61 ?_
        obtain ⟨b35, hb36, h⟩ := h
        rw [show va_rf (gR S12 1135 a0) = Value.ref b35 from by rw [hb36]; rfl]
        obtain ⟨hf37, h⟩ := h
        obtain ⟨j38, hj39, h⟩ := h
        refine z_iald (j := j38) hf37.1 hf37.2 hj39.1 hj39.2.1 hj39.2.2 dX11_doesRow_62 ?_
        refine z_goto 76 dX11_doesRow_63 (by decide) ?_
        refine z_sub [1, 2, 3, 4, 5, 0] rfl ?_
        refine w_X11_doesRow_J76 (fun a0 l1 l2 l3 l4 S h => ?_) a0 l1 l2 l3 l4 r11 (gA S12 b35 j38) S12 h
        exact ih a0 l1 l2 l3 l4 S h
set_option maxRecDepth 20000 in
set_option maxHeartbeats 4000000 in
theorem w_X11_doesRow_J141 {E : zE}  {Q : zS → Prop} {X : String → zS → Prop}  (a0 : Nat) (l1 : Int32) (l100 : Int32) (l101 : Int32) (a102 : Nat) (S : zS) (h : p_X11_doesRow_J141 E  Q X a0 l1 l100 l101 a102 S) : zJ E (RX11, cX11_doesRow, 7, none, false, [], zTr) ({ frames := 6, cells := 0, slots := 0, locals := 139 } : Room) (zq (qV Q)) (zx X) 141 [(0, .ref a0), (1, .int l1)] [.int l100, .int l101, .ref a102] [] S 0 0 := by
  unfold p_X11_doesRow_J141 at h
  refine z_iadd dX11_doesRow_141 ?_
  obtain ⟨hf44, h⟩ := h
  have h := h _ rfl
  refine z_putV (c := 11) (j := 39) (ty0 := tyX11) (S' := sI S 1139 a102 (l101 + l100)) hf44.1 hf44.2 (Nat.le_of_ble_eq_true rfl) rfl zU_X11 tyX11_ok nmX11 (Nat.le_of_ble_eq_true rfl) (Nat.le_of_ble_eq_true rfl) ⟨_, zw_1337, Or.inl rfl⟩ (.inl rfl) rfl rfl rfl (zUpI (v := (l101 + l100)) hf44.2 (Nat.le_of_ble_eq_true rfl) (Nat.le_of_ble_eq_true rfl) rfl rfl) dX11_doesRow_142 ?_
  obtain ⟨S45, hS46⟩ : ∃ z, z = sI S 1139 a102 (l101 + l100) := ⟨_, rfl⟩
  rw [← hS46] at h ⊢
  have hf44 : a102 ∈ gL S45 ∧ gK S45 a102 = 11 := by rw [hS46]; exact hf44
  refine z_aload_n 0 dX11_doesRow_145 rfl rfl ?_
  refine z_dup dX11_doesRow_146 rfl ?_
  obtain ⟨hf47, h⟩ := h
  refine z_getI (c := 11) (j := 31) (f := 1131) hf47.1 hf47.2 (Nat.le_of_ble_eq_true rfl) rfl zU_X11 (Nat.le_of_ble_eq_true rfl) (Nat.le_of_ble_eq_true rfl) ⟨_, zw_1329, Or.inl rfl⟩ rfl rfl dX11_doesRow_147 ?_
  refine z_iconst (v := 1) dX11_doesRow_150 rfl ?_
  refine z_iadd dX11_doesRow_151 ?_
  have h := h _ rfl
  refine z_putV (c := 11) (j := 31) (ty0 := tyX11) (S' := sI S45 1131 a0 ((gI S45 1131 a0) + 1)) hf47.1 hf47.2 (Nat.le_of_ble_eq_true rfl) rfl zU_X11 tyX11_ok nmX11 (Nat.le_of_ble_eq_true rfl) (Nat.le_of_ble_eq_true rfl) ⟨_, zw_1329, Or.inl rfl⟩ (.inl rfl) rfl rfl rfl (zUpI (v := ((gI S45 1131 a0) + 1)) hf47.2 (Nat.le_of_ble_eq_true rfl) (Nat.le_of_ble_eq_true rfl) rfl rfl) dX11_doesRow_152 ?_
  obtain ⟨S48, hS49⟩ : ∃ z, z = sI S45 1131 a0 ((gI S45 1131 a0) + 1) := ⟨_, rfl⟩
  rw [← hS49] at h ⊢
  have hf47 : a0 ∈ gL S48 ∧ gK S48 a0 = 11 := by rw [hS49]; exact hf47
  have hf44 : a102 ∈ gL S48 ∧ gK S48 a102 = 11 := by rw [hS49]; exact hf44
  refine z_aload_n 0 dX11_doesRow_155 rfl rfl ?_
  refine z_callVV (ci := 11) (st := []) (w_X11_looks h) hf47.1 hf47.2 (Nat.le_of_ble_eq_true rfl) rfl zw_1719 zw_1716 zw_1718 zw_57 zw_74 zy_X11_looks rfl rfl ⟨Nat.le_of_ble_eq_true rfl, Nat.le_of_ble_eq_true rfl⟩ ⟨(Nat.le_of_ble_eq_true rfl), (Nat.le_of_ble_eq_true rfl)⟩ (Nat.le_of_ble_eq_true rfl) dX11_doesRow_156 (fun _ _ hx => hx.elim) (fun S50 h => ?_)
  refine z_widen (k' := 0) (n' := 0) (Nat.le_refl _) (Nat.le_refl _) ?_
  refine z_aload_n 0 dX11_doesRow_159 rfl rfl ?_
  refine z_aload_n 0 dX11_doesRow_160 rfl rfl ?_
  obtain ⟨hf52, h⟩ := h
  refine z_getI (c := 11) (j := 28) (f := 1128) hf52.1 hf52.2 (Nat.le_of_ble_eq_true rfl) rfl zU_X11 (Nat.le_of_ble_eq_true rfl) (Nat.le_of_ble_eq_true rfl) ⟨_, zw_1326, Or.inl rfl⟩ rfl rfl dX11_doesRow_161 ?_
  refine z_callVV (ci := 11) (st := []) (w_X11_writes h) hf52.1 hf52.2 (Nat.le_of_ble_eq_true rfl) rfl zw_1478 zw_1475 zw_1477 zw_35 zw_74 zy_X11_writes rfl rfl ⟨Nat.le_of_ble_eq_true rfl, Nat.le_of_ble_eq_true rfl⟩ ⟨(Nat.le_of_ble_eq_true rfl), (Nat.le_of_ble_eq_true rfl)⟩ (Nat.le_of_ble_eq_true rfl) dX11_doesRow_164 (fun _ _ hx => hx.elim) (fun S53 h => ?_)
  refine z_widen (k' := 0) (n' := 0) (Nat.le_refl _) (Nat.le_refl _) ?_
  refine z_aload_n 0 dX11_doesRow_167 rfl rfl ?_
  refine z_iload_n 1 dX11_doesRow_168 rfl rfl ?_
  obtain ⟨hf76, h⟩ := h
  refine z_callVI (ci := 11) (st := []) (w_X11_areIn h) hf76.1 hf76.2 (Nat.le_of_ble_eq_true rfl) rfl zw_1466 zw_1463 zw_1465 zw_32 zw_74 zy_X11_areIn rfl rfl ⟨Nat.le_of_ble_eq_true rfl, Nat.le_of_ble_eq_true rfl⟩ ⟨(Nat.le_of_ble_eq_true rfl), (Nat.le_of_ble_eq_true rfl)⟩ (Nat.le_of_ble_eq_true rfl) dX11_doesRow_169 (fun _ _ hx => hx.elim) (fun r56 S55 h => ?_)
  refine z_widen (k' := 0) (n' := 0) (Nat.le_refl _) (Nat.le_refl _) ?_
  refine z_if_ne 183 dX11_doesRow_172 (by decide) (fun c75 => ?_) (fun c75 => ?_)
  · have h := h.1 c75
    refine z_aload_n 0 dX11_doesRow_183 rfl rfl ?_
    obtain ⟨hf57, h⟩ := h
    refine z_getI (c := 11) (j := 31) (f := 1131) hf57.1 hf57.2 (Nat.le_of_ble_eq_true rfl) rfl zU_X11 (Nat.le_of_ble_eq_true rfl) (Nat.le_of_ble_eq_true rfl) ⟨_, zw_1329, Or.inl rfl⟩ rfl rfl dX11_doesRow_184 ?_
    refine z_aload_n 0 dX11_doesRow_187 rfl rfl ?_
    refine z_getI (c := 11) (j := 13) (f := 1113) hf57.1 hf57.2 (Nat.le_of_ble_eq_true rfl) rfl zU_X11 (Nat.le_of_ble_eq_true rfl) (Nat.le_of_ble_eq_true rfl) ⟨_, zw_1311, Or.inl rfl⟩ rfl rfl dX11_doesRow_188 ?_
    refine z_icmp_ne 237 dX11_doesRow_191 (by decide) (fun c70 => ?_) (fun c70 => ?_)
    · have h := h.1 c70
      exact z_return ⟨rfl, rfl, h⟩ rfl (Nat.le_of_ble_eq_true rfl) (Nat.le_of_ble_eq_true rfl) dX11_doesRow_237
    · have h := h.2 c70
      refine z_aload_n 0 dX11_doesRow_194 rfl rfl ?_
      refine z_iconst (v := 0) dX11_doesRow_195 rfl ?_
      obtain ⟨hz69, h⟩ := h
      have h := h _ rfl
      refine z_putV (c := 11) (j := 27) (ty0 := tyX11) (S' := sI S55 1127 a0 0) hf57.1 hf57.2 (Nat.le_of_ble_eq_true rfl) rfl zU_X11 tyX11_ok nmX11 (Nat.le_of_ble_eq_true rfl) (Nat.le_of_ble_eq_true rfl) ⟨_, zw_1325, Or.inl rfl⟩ (.inl rfl) (zbn hz69) (zbf hz69) rfl (zUpI (v := 0) hf57.2 (Nat.le_of_ble_eq_true rfl) (Nat.le_of_ble_eq_true rfl) rfl rfl) dX11_doesRow_196 ?_
      obtain ⟨S58, hS59⟩ : ∃ z, z = sI S55 1127 a0 0 := ⟨_, rfl⟩
      rw [← hS59] at h ⊢
      have hf57 : a0 ∈ gL S58 ∧ gK S58 a0 = 11 := by rw [hS59]; exact hf57
      refine z_aload_n 0 dX11_doesRow_199 rfl rfl ?_
      refine z_dup dX11_doesRow_200 rfl ?_
      refine z_getI (c := 11) (j := 40) (f := 1140) hf57.1 hf57.2 (Nat.le_of_ble_eq_true rfl) rfl zU_X11 (Nat.le_of_ble_eq_true rfl) (Nat.le_of_ble_eq_true rfl) ⟨_, zw_1338, Or.inl rfl⟩ rfl rfl dX11_doesRow_201 ?_
      refine z_iconst (v := 1) dX11_doesRow_204 rfl ?_
      refine z_iadd dX11_doesRow_205 ?_
      have h := h _ rfl
      refine z_putV (c := 11) (j := 40) (ty0 := tyX11) (S' := sI S58 1140 a0 ((gI S58 1140 a0) + 1)) hf57.1 hf57.2 (Nat.le_of_ble_eq_true rfl) rfl zU_X11 tyX11_ok nmX11 (Nat.le_of_ble_eq_true rfl) (Nat.le_of_ble_eq_true rfl) ⟨_, zw_1338, Or.inl rfl⟩ (.inl rfl) rfl rfl rfl (zUpI (v := ((gI S58 1140 a0) + 1)) hf57.2 (Nat.le_of_ble_eq_true rfl) (Nat.le_of_ble_eq_true rfl) rfl rfl) dX11_doesRow_206 ?_
      obtain ⟨S60, hS61⟩ : ∃ z, z = sI S58 1140 a0 ((gI S58 1140 a0) + 1) := ⟨_, rfl⟩
      rw [← hS61] at h ⊢
      have hf57 : a0 ∈ gL S60 ∧ gK S60 a0 = 11 := by rw [hS61]; exact hf57
      refine z_aload_n 0 dX11_doesRow_209 rfl rfl ?_
      refine z_aload_n 0 dX11_doesRow_210 rfl rfl ?_
      refine z_getI (c := 11) (j := 28) (f := 1128) hf57.1 hf57.2 (Nat.le_of_ble_eq_true rfl) rfl zU_X11 (Nat.le_of_ble_eq_true rfl) (Nat.le_of_ble_eq_true rfl) ⟨_, zw_1326, Or.inl rfl⟩ rfl rfl dX11_doesRow_211 ?_
      have h := h _ rfl
      refine z_putV (c := 11) (j := 41) (ty0 := tyX11) (S' := sI S60 1141 a0 (gI S60 1128 a0)) hf57.1 hf57.2 (Nat.le_of_ble_eq_true rfl) rfl zU_X11 tyX11_ok nmX11 (Nat.le_of_ble_eq_true rfl) (Nat.le_of_ble_eq_true rfl) ⟨_, zw_1339, Or.inl rfl⟩ (.inl rfl) rfl rfl rfl (zUpI (v := (gI S60 1128 a0)) hf57.2 (Nat.le_of_ble_eq_true rfl) (Nat.le_of_ble_eq_true rfl) rfl rfl) dX11_doesRow_214 ?_
      obtain ⟨S62, hS63⟩ : ∃ z, z = sI S60 1141 a0 (gI S60 1128 a0) := ⟨_, rfl⟩
      rw [← hS63] at h ⊢
      have hf57 : a0 ∈ gL S62 ∧ gK S62 a0 = 11 := by rw [hS63]; exact hf57
      refine z_aload_n 0 dX11_doesRow_217 rfl rfl ?_
      refine z_aload_n 0 dX11_doesRow_218 rfl rfl ?_
      refine z_getI (c := 11) (j := 20) (f := 1120) hf57.1 hf57.2 (Nat.le_of_ble_eq_true rfl) rfl zU_X11 (Nat.le_of_ble_eq_true rfl) (Nat.le_of_ble_eq_true rfl) ⟨_, zw_1318, Or.inl rfl⟩ rfl rfl dX11_doesRow_219 ?_
      refine z_aload_n 0 dX11_doesRow_222 rfl rfl ?_
      refine z_aload_n 0 dX11_doesRow_223 rfl rfl ?_
      refine z_getI (c := 11) (j := 20) (f := 1120) hf57.1 hf57.2 (Nat.le_of_ble_eq_true rfl) rfl zU_X11 (Nat.le_of_ble_eq_true rfl) (Nat.le_of_ble_eq_true rfl) ⟨_, zw_1318, Or.inl rfl⟩ rfl rfl dX11_doesRow_224 ?_
      refine z_aload_n 0 dX11_doesRow_227 rfl rfl ?_
      refine z_getI (c := 11) (j := 28) (f := 1128) hf57.1 hf57.2 (Nat.le_of_ble_eq_true rfl) rfl zU_X11 (Nat.le_of_ble_eq_true rfl) (Nat.le_of_ble_eq_true rfl) ⟨_, zw_1326, Or.inl rfl⟩ rfl rfl dX11_doesRow_228 ?_
      refine z_callVI (ci := 11) (st := [.int (gI S62 1120 a0), .ref a0]) (w_X11_placeOf h) hf57.1 hf57.2 (Nat.le_of_ble_eq_true rfl) rfl zw_1655 zw_1652 zw_1654 zw_48 zw_74 zy_X11_placeOf rfl rfl ⟨Nat.le_of_ble_eq_true rfl, Nat.le_of_ble_eq_true rfl⟩ ⟨(Nat.le_of_ble_eq_true rfl), (Nat.le_of_ble_eq_true rfl)⟩ (Nat.le_of_ble_eq_true rfl) dX11_doesRow_231 (fun _ _ hx => hx.elim) (fun r65 S64 h => ?_)
      refine z_widen (k' := 0) (n' := 0) (Nat.le_refl _) (Nat.le_refl _) ?_
      obtain ⟨hf68, h⟩ := h
      refine z_callVV (ci := 11) (st := []) (w_X11_takesPlan h) hf68.1 hf68.2 (Nat.le_of_ble_eq_true rfl) rfl zw_1499 zw_1496 zw_1498 zw_38 zw_74 zy_X11_takesPlan rfl rfl ⟨Nat.le_of_ble_eq_true rfl, Nat.le_of_ble_eq_true rfl⟩ ⟨(Nat.le_of_ble_eq_true rfl), (Nat.le_of_ble_eq_true rfl)⟩ (Nat.le_of_ble_eq_true rfl) dX11_doesRow_234 (fun _ _ hx => hx.elim) (fun S66 h => ?_)
      refine z_widen (k' := 0) (n' := 0) (Nat.le_refl _) (Nat.le_refl _) ?_
      exact z_return ⟨rfl, rfl, h⟩ rfl (Nat.le_of_ble_eq_true rfl) (Nat.le_of_ble_eq_true rfl) dX11_doesRow_237
  · have h := h.2 c75
    refine z_aload_n 0 dX11_doesRow_175 rfl rfl ?_
    refine z_iconst (v := 0) dX11_doesRow_176 rfl ?_
    obtain ⟨hf71, h⟩ := h
    obtain ⟨hz74, h⟩ := h
    have h := h _ rfl
    refine z_putV (c := 11) (j := 27) (ty0 := tyX11) (S' := sI S55 1127 a0 0) hf71.1 hf71.2 (Nat.le_of_ble_eq_true rfl) rfl zU_X11 tyX11_ok nmX11 (Nat.le_of_ble_eq_true rfl) (Nat.le_of_ble_eq_true rfl) ⟨_, zw_1325, Or.inl rfl⟩ (.inl rfl) (zbn hz74) (zbf hz74) rfl (zUpI (v := 0) hf71.2 (Nat.le_of_ble_eq_true rfl) (Nat.le_of_ble_eq_true rfl) rfl rfl) dX11_doesRow_177 ?_
    obtain ⟨S72, hS73⟩ : ∃ z, z = sI S55 1127 a0 0 := ⟨_, rfl⟩
    rw [← hS73] at h ⊢
    have hf71 : a0 ∈ gL S72 ∧ gK S72 a0 = 11 := by rw [hS73]; exact hf71
    refine z_goto 237 dX11_doesRow_180 (by decide) ?_
    exact z_return ⟨rfl, rfl, h⟩ rfl (Nat.le_of_ble_eq_true rfl) (Nat.le_of_ble_eq_true rfl) dX11_doesRow_237
set_option maxRecDepth 20000 in
set_option maxHeartbeats 4000000 in
theorem w_X11_doesRow {E : zE} {a0 : Nat} {S : zS} {Q : zS → Prop} {X : String → zS → Prop} (h : p_X11_doesRow E a0 S Q X) : zM E yX11_doesRow cX11_doesRow 7 none ({ frames := 6, cells := 0, slots := 0, locals := 139 } : Room) [.ref a0] S (qV Q) X := by
  unfold p_X11_doesRow at h
  refine zM_of RX11 false (by decide) rfl (fun h => by cases h) (Nat.le_of_ble_eq_true rfl) ?_
  refine z_aload_n 0 dX11_doesRow_0 rfl rfl ?_
  refine z_aload_n 0 dX11_doesRow_1 rfl rfl ?_
  obtain ⟨hf1, h⟩ := h
  refine z_getI (c := 11) (j := 28) (f := 1128) hf1.1 hf1.2 (Nat.le_of_ble_eq_true rfl) rfl zU_X11 (Nat.le_of_ble_eq_true rfl) (Nat.le_of_ble_eq_true rfl) ⟨_, zw_1326, Or.inl rfl⟩ rfl rfl dX11_doesRow_2 ?_
  refine z_callVI (ci := 11) (st := []) (w_X11_stageOf h) hf1.1 hf1.2 (Nat.le_of_ble_eq_true rfl) rfl zw_1462 zw_1459 zw_1461 zw_31 zw_74 zy_X11_stageOf rfl rfl ⟨Nat.le_of_ble_eq_true rfl, Nat.le_of_ble_eq_true rfl⟩ ⟨(Nat.le_of_ble_eq_true rfl), (Nat.le_of_ble_eq_true rfl)⟩ (Nat.le_of_ble_eq_true rfl) dX11_doesRow_5 (fun _ _ hx => hx.elim) (fun r3 S2 h => ?_)
  refine z_widen (k' := 0) (n' := 0) (Nat.le_refl _) (Nat.le_refl _) ?_
  refine z_istore_n (lv' := [(1, .int r3), (0, .ref a0)]) dX11_doesRow_8 rfl (Nat.le_of_ble_eq_true rfl) rfl ?_
  refine z_iconst (v := 0) dX11_doesRow_9 rfl ?_
  refine z_istore_n (lv' := [(2, .int 0), (1, .int r3), (0, .ref a0)]) dX11_doesRow_10 rfl (Nat.le_of_ble_eq_true rfl) rfl ?_
  refine z_iconst (v := 0) dX11_doesRow_11 rfl ?_
  refine z_istore_n (lv' := [(3, .int 0), (2, .int 0), (1, .int r3), (0, .ref a0)]) dX11_doesRow_12 rfl (Nat.le_of_ble_eq_true rfl) rfl ?_
  refine z_iconst (v := 0) dX11_doesRow_13 rfl ?_
  refine z_istore (lv' := [(4, .int 0), (3, .int 0), (2, .int 0), (1, .int r3), (0, .ref a0)]) dX11_doesRow_14 (Nat.le_of_ble_eq_true rfl) rfl ?_
  obtain ⟨m16, h⟩ := h
  refine z_sub [4, 3, 2, 1, 0] rfl ?_
  refine w_X11_doesRow_L16 (fun a0 l1 l3 S h => ?_) m16 a0 r3 0 0 0 S2 h
  refine z_aload_n 0 dX11_doesRow_127 rfl rfl ?_
  refine z_dup dX11_doesRow_128 rfl ?_
  obtain ⟨hf43, h⟩ := h
  refine z_getI (c := 11) (j := 39) (f := 1139) hf43.1 hf43.2 (Nat.le_of_ble_eq_true rfl) rfl zU_X11 (Nat.le_of_ble_eq_true rfl) (Nat.le_of_ble_eq_true rfl) ⟨_, zw_1337, Or.inl rfl⟩ rfl rfl dX11_doesRow_129 ?_
  refine z_iload_n 2 dX11_doesRow_132 rfl rfl ?_
  refine z_if_eq 140 dX11_doesRow_133 (by decide) (fun c77 => ?_) (fun c77 => ?_)
  · have h := h.1 c77
    refine z_iconst (v := 0) dX11_doesRow_140 rfl ?_
    refine z_sub [0, 1] rfl ?_
    refine w_X11_doesRow_J141 a0 l1 0 (gI S 1139 a0) a0 S h
  · have h := h.2 c77
    refine z_iconst (v := 1) dX11_doesRow_136 rfl ?_
    refine z_goto 141 dX11_doesRow_137 (by decide) ?_
    refine z_sub [0, 1] rfl ?_
    refine w_X11_doesRow_J141 a0 l1 1 (gI S 1139 a0) a0 S h
set_option maxRecDepth 20000 in
set_option maxHeartbeats 4000000 in
theorem w_X11_goesOn_L8 {E : zE} {K29 : Nat → zS → Prop} {Q : Int32 → zS → Prop} {X : String → zS → Prop} (hK29 : ∀ (a0 : Nat) (S : zS), K29 a0 S → zJ E (RX11, cX11_goesOn, 1, (some .int), false, [], zTr) ({ frames := 7, cells := 0, slots := 0, locals := 165 } : Room) (zq (qI Q)) (zx X) 29 [(0, .ref a0)] [] [] S 0 0) : ∀ (m8 : Nat) (a0 : Nat) (S : zS), p_X11_goesOn_L8 E K29 Q X m8 a0 S → zJ E (RX11, cX11_goesOn, 1, (some .int), false, [], zTr) ({ frames := 7, cells := 0, slots := 0, locals := 165 } : Room) (zq (qI Q)) (zx X) 8 [(0, .ref a0)] [] [] S 0 0 := by
  intro m8
  induction m8 with
  | zero => intro a0 S h; exact (show False from h).elim
  | succ m8 ih =>
    intro a0 S h
    unfold p_X11_goesOn_L8 at h
    refine z_aload_n 0 dX11_goesOn_8 rfl rfl ?_
    obtain ⟨hf4, h⟩ := h
    refine z_getI (c := 11) (j := 27) (f := 1127) hf4.1 hf4.2 (Nat.le_of_ble_eq_true rfl) rfl zU_X11 (Nat.le_of_ble_eq_true rfl) (Nat.le_of_ble_eq_true rfl) ⟨_, zw_1325, Or.inl rfl⟩ rfl rfl dX11_goesOn_9 ?_
    refine z_if_eq 29 dX11_goesOn_12 (by decide) (fun c11 => ?_) (fun c11 => ?_)
    · have h := h.1 c11
      exact hK29 a0 S h
    · have h := h.2 c11
      refine z_aload_n 0 dX11_goesOn_15 rfl rfl ?_
      refine z_callVI (ci := 11) (st := []) (w_X11_isReady h) hf4.1 hf4.2 (Nat.le_of_ble_eq_true rfl) rfl zw_1699 zw_1696 zw_1698 zw_52 zw_74 zy_X11_isReady rfl rfl ⟨Nat.le_of_ble_eq_true rfl, Nat.le_of_ble_eq_true rfl⟩ ⟨(Nat.le_of_ble_eq_true rfl), (Nat.le_of_ble_eq_true rfl)⟩ (Nat.le_of_ble_eq_true rfl) dX11_goesOn_16 (fun _ _ hx => hx.elim) (fun r6 S5 h => ?_)
      refine z_widen (k' := 0) (n' := 0) (Nat.le_refl _) (Nat.le_refl _) ?_
      refine z_if_eq 29 dX11_goesOn_19 (by decide) (fun c10 => ?_) (fun c10 => ?_)
      · have h := h.1 c10
        exact hK29 a0 S5 h
      · have h := h.2 c10
        refine z_aload_n 0 dX11_goesOn_22 rfl rfl ?_
        obtain ⟨hf9, h⟩ := h
        refine z_callVV (ci := 11) (st := []) (w_X11_doesRow h) hf9.1 hf9.2 (Nat.le_of_ble_eq_true rfl) rfl zw_1707 zw_1704 zw_1706 zw_54 zw_74 zy_X11_doesRow rfl rfl ⟨Nat.le_of_ble_eq_true rfl, Nat.le_of_ble_eq_true rfl⟩ ⟨(Nat.le_of_ble_eq_true rfl), (Nat.le_of_ble_eq_true rfl)⟩ (Nat.le_of_ble_eq_true rfl) dX11_goesOn_23 (fun _ _ hx => hx.elim) (fun S7 h => ?_)
        refine z_widen (k' := 0) (n' := 0) (Nat.le_refl _) (Nat.le_refl _) ?_
        refine z_goto 8 dX11_goesOn_26 (by decide) ?_
        exact ih a0 S7 h
set_option maxRecDepth 20000 in
set_option maxHeartbeats 4000000 in
theorem w_X11_goesOn {E : zE} {a0 : Nat} {S : zS} {Q : Int32 → zS → Prop} {X : String → zS → Prop} (h : p_X11_goesOn E a0 S Q X) : zM E yX11_goesOn cX11_goesOn 1 (some .int) ({ frames := 7, cells := 0, slots := 0, locals := 165 } : Room) [.ref a0] S (qI Q) X := by
  unfold p_X11_goesOn at h
  refine zM_of RX11 false (by decide) rfl (fun h => by cases h) (Nat.le_of_ble_eq_true rfl) ?_
  refine z_aload_n 0 dX11_goesOn_0 rfl rfl ?_
  refine z_aload_n 0 dX11_goesOn_1 rfl rfl ?_
  obtain ⟨hf1, h⟩ := h
  refine z_getI (c := 11) (j := 28) (f := 1128) hf1.1 hf1.2 (Nat.le_of_ble_eq_true rfl) rfl zU_X11 (Nat.le_of_ble_eq_true rfl) (Nat.le_of_ble_eq_true rfl) ⟨_, zw_1326, Or.inl rfl⟩ rfl rfl dX11_goesOn_2 ?_
  refine z_callVV (ci := 11) (st := []) (w_X11_writes h) hf1.1 hf1.2 (Nat.le_of_ble_eq_true rfl) rfl zw_1478 zw_1475 zw_1477 zw_35 zw_74 zy_X11_writes rfl rfl ⟨Nat.le_of_ble_eq_true rfl, Nat.le_of_ble_eq_true rfl⟩ ⟨(Nat.le_of_ble_eq_true rfl), (Nat.le_of_ble_eq_true rfl)⟩ (Nat.le_of_ble_eq_true rfl) dX11_goesOn_5 (fun _ _ hx => hx.elim) (fun S2 h => ?_)
  refine z_widen (k' := 0) (n' := 0) (Nat.le_refl _) (Nat.le_refl _) ?_
  obtain ⟨m8, h⟩ := h
  refine w_X11_goesOn_L8 (fun a0 S h => ?_) m8 a0 S2 h
  refine z_aload_n 0 dX11_goesOn_29 rfl rfl ?_
  obtain ⟨hf12, h⟩ := h
  refine z_getI (c := 11) (j := 31) (f := 1131) hf12.1 hf12.2 (Nat.le_of_ble_eq_true rfl) rfl zU_X11 (Nat.le_of_ble_eq_true rfl) (Nat.le_of_ble_eq_true rfl) ⟨_, zw_1329, Or.inl rfl⟩ rfl rfl dX11_goesOn_30 ?_
  exact z_ireturn ⟨rfl, _, rfl, h⟩ rfl (Nat.le_of_ble_eq_true rfl) (Nat.le_of_ble_eq_true rfl) dX11_goesOn_33
set_option maxRecDepth 20000 in
set_option maxHeartbeats 4000000 in
theorem w_X11_ring_L191 {E : zE} {K212 : Nat → zS → Prop} {Q : Int32 → zS → Prop} {X : String → zS → Prop} (hK212 : ∀ (a0 : Nat) (S : zS), K212 a0 S → zJ E (RX11, cX11_ring, 6, (some .int), false, [], zTr) ({ frames := 8, cells := 0, slots := 0, locals := 185 } : Room) (zq (qI Q)) (zx X) 212 [(0, .ref a0)] [] [] S 0 0) : ∀ (m191 : Nat) (a0 : Nat) (l4 : Int32) (S : zS), p_X11_ring_L191 E K212 Q X m191 a0 l4 S → zJ E (RX11, cX11_ring, 6, (some .int), false, [], zTr) ({ frames := 8, cells := 0, slots := 0, locals := 185 } : Room) (zq (qI Q)) (zx X) 191 [(0, .ref a0), (4, .int l4)] [] [] S 0 0 := by
  intro m191
  induction m191 with
  | zero => intro a0 l4 S h; exact (show False from h).elim
  | succ m191 ih =>
    intro a0 l4 S h
    unfold p_X11_ring_L191 at h
    refine z_iload 1 dX11_ring_191 rfl ?_
    refine z_bipush (v := 6) dX11_ring_193 rfl ?_
    refine z_icmp_ge 212 dX11_ring_195 (by decide) (fun c38 => ?_) (fun c38 => ?_)
    · have h := h.1 c38
      refine z_sub [0] rfl ?_
      exact hK212 a0 S h
    · have h := h.2 c38
      refine z_aload_n 0 dX11_ring_198 rfl rfl ?_
      obtain ⟨hf29, h⟩ := h
      refine z_getQ (c := 11) (j := 34) (f := 1134) hf29.1 hf29.2 (Nat.le_of_ble_eq_true rfl) rfl zU_X11 (Nat.le_of_ble_eq_true rfl) (Nat.le_of_ble_eq_true rfl) ⟨_, zw_1332, Or.inl rfl⟩ rfl rfl dX11_ring_199 ?_
      refine z_iload 1 dX11_ring_202 rfl ?_
      refine z_iconst (v := 0) dX11_ring_204 rfl ?_
      obtain ⟨b30, hb31, h⟩ := h
      rw [show va_rf (gR S 1134 a0) = Value.ref b30 from by rw [hb31]; rfl]
      obtain ⟨hf32, h⟩ := h
      obtain ⟨j33, hj34, h⟩ := h
      have h := h _ rfl
      refine z_iast (j := j33) hf32.1 hf32.2 hj34.1 hj34.2.1 hj34.2.2 dX11_ring_205 ?_
      obtain ⟨S35, hS36⟩ : ∃ z, z = sA S b30 j33 0 := ⟨_, rfl⟩
      rw [← hS36] at h ⊢
      have hf29 : a0 ∈ gL S35 ∧ gK S35 a0 = 11 := by rw [hS36]; exact hf29
      have hf32 : b30 ∈ gL S35 ∧ gK S35 b30 = 12 := by rw [hS36]; exact hf32
      refine z_iinc (v := (l4 + 1)) (lv' := [(4, .int (l4 + 1)), (0, .ref a0)]) 1 dX11_ring_206 rfl rfl (Nat.le_of_ble_eq_true rfl) rfl ?_
      refine z_goto 191 dX11_ring_209 (by decide) ?_
      refine z_sub [1, 0] rfl ?_
      exact ih a0 (l4 + 1) S35 h
set_option maxRecDepth 20000 in
set_option maxHeartbeats 4000000 in
theorem w_X11_ring_J137 {E : zE}  {Q : Int32 → zS → Prop} {X : String → zS → Prop}  (a0 : Nat) (l1 : Int32) (l2 : Int32) (l3 : Int32) (S : zS) (h : p_X11_ring_J137 E  Q X a0 l1 l2 l3 S) : zJ E (RX11, cX11_ring, 6, (some .int), false, [], zTr) ({ frames := 8, cells := 0, slots := 0, locals := 185 } : Room) (zq (qI Q)) (zx X) 137 [(0, .ref a0), (1, .int l1), (2, .int l2), (3, .int l3)] [] [] S 0 0 := by
  unfold p_X11_ring_J137 at h
  refine z_aload_n 0 dX11_ring_137 rfl rfl ?_
  obtain ⟨hf11, h⟩ := h
  refine z_getI (c := 11) (j := 0) (f := 1100) hf11.1 hf11.2 (Nat.le_of_ble_eq_true rfl) rfl zU_X11 (Nat.le_of_ble_eq_true rfl) (Nat.le_of_ble_eq_true rfl) ⟨_, zw_1298, Or.inl rfl⟩ rfl rfl dX11_ring_138 ?_
  refine z_if_le 146 dX11_ring_141 (by decide) (fun c43 => ?_) (fun c43 => ?_)
  · have h := h.1 c43
    refine z_aload_n 0 dX11_ring_146 rfl rfl ?_
    refine z_aload_n 0 dX11_ring_147 rfl rfl ?_
    refine z_aload_n 0 dX11_ring_148 rfl rfl ?_
    refine z_getI (c := 11) (j := 20) (f := 1120) hf11.1 hf11.2 (Nat.le_of_ble_eq_true rfl) rfl zU_X11 (Nat.le_of_ble_eq_true rfl) (Nat.le_of_ble_eq_true rfl) ⟨_, zw_1318, Or.inl rfl⟩ rfl rfl dX11_ring_149 ?_
    refine z_callVI (ci := 11) (st := [.ref a0]) (w_X11_bandOf h) hf11.1 hf11.2 (Nat.le_of_ble_eq_true rfl) rfl zw_1671 zw_1668 zw_1670 zw_49 zw_74 zy_X11_bandOf rfl rfl ⟨Nat.le_of_ble_eq_true rfl, Nat.le_of_ble_eq_true rfl⟩ ⟨(Nat.le_of_ble_eq_true rfl), (Nat.le_of_ble_eq_true rfl)⟩ (Nat.le_of_ble_eq_true rfl) dX11_ring_152 (fun _ _ hx => hx.elim) (fun r13 S12 h => ?_)
    refine z_widen (k' := 0) (n' := 0) (Nat.le_refl _) (Nat.le_refl _) ?_
    obtain ⟨hf14, h⟩ := h
    have h := h _ rfl
    refine z_putV (c := 11) (j := 26) (ty0 := tyX11) (S' := sI S12 1126 a0 r13) hf14.1 hf14.2 (Nat.le_of_ble_eq_true rfl) rfl zU_X11 tyX11_ok nmX11 (Nat.le_of_ble_eq_true rfl) (Nat.le_of_ble_eq_true rfl) ⟨_, zw_1324, Or.inl rfl⟩ (.inl rfl) rfl rfl rfl (zUpI (v := r13) hf14.2 (Nat.le_of_ble_eq_true rfl) (Nat.le_of_ble_eq_true rfl) rfl rfl) dX11_ring_155 ?_
    obtain ⟨S15, hS16⟩ : ∃ z, z = sI S12 1126 a0 r13 := ⟨_, rfl⟩
    rw [← hS16] at h ⊢
    have hf14 : a0 ∈ gL S15 ∧ gK S15 a0 = 11 := by rw [hS16]; exact hf14
    refine z_aload_n 0 dX11_ring_158 rfl rfl ?_
    refine z_iconst (v := 1) dX11_ring_159 rfl ?_
    obtain ⟨hz42, h⟩ := h
    have h := h _ rfl
    refine z_putV (c := 11) (j := 27) (ty0 := tyX11) (S' := sI S15 1127 a0 1) hf14.1 hf14.2 (Nat.le_of_ble_eq_true rfl) rfl zU_X11 tyX11_ok nmX11 (Nat.le_of_ble_eq_true rfl) (Nat.le_of_ble_eq_true rfl) ⟨_, zw_1325, Or.inl rfl⟩ (.inl rfl) (zbn hz42) (zbf hz42) rfl (zUpI (v := 1) hf14.2 (Nat.le_of_ble_eq_true rfl) (Nat.le_of_ble_eq_true rfl) rfl rfl) dX11_ring_160 ?_
    obtain ⟨S17, hS18⟩ : ∃ z, z = sI S15 1127 a0 1 := ⟨_, rfl⟩
    rw [← hS18] at h ⊢
    have hf14 : a0 ∈ gL S17 ∧ gK S17 a0 = 11 := by rw [hS18]; exact hf14
    refine z_aload_n 0 dX11_ring_163 rfl rfl ?_
    refine z_iload_n 1 dX11_ring_164 rfl rfl ?_
    have h := h _ rfl
    refine z_putV (c := 11) (j := 28) (ty0 := tyX11) (S' := sI S17 1128 a0 l1) hf14.1 hf14.2 (Nat.le_of_ble_eq_true rfl) rfl zU_X11 tyX11_ok nmX11 (Nat.le_of_ble_eq_true rfl) (Nat.le_of_ble_eq_true rfl) ⟨_, zw_1326, Or.inl rfl⟩ (.inl rfl) rfl rfl rfl (zUpI (v := l1) hf14.2 (Nat.le_of_ble_eq_true rfl) (Nat.le_of_ble_eq_true rfl) rfl rfl) dX11_ring_165 ?_
    obtain ⟨S19, hS20⟩ : ∃ z, z = sI S17 1128 a0 l1 := ⟨_, rfl⟩
    rw [← hS20] at h ⊢
    have hf14 : a0 ∈ gL S19 ∧ gK S19 a0 = 11 := by rw [hS20]; exact hf14
    refine z_aload_n 0 dX11_ring_168 rfl rfl ?_
    refine z_iload_n 2 dX11_ring_169 rfl rfl ?_
    have h := h _ rfl
    refine z_putV (c := 11) (j := 29) (ty0 := tyX11) (S' := sI S19 1129 a0 l2) hf14.1 hf14.2 (Nat.le_of_ble_eq_true rfl) rfl zU_X11 tyX11_ok nmX11 (Nat.le_of_ble_eq_true rfl) (Nat.le_of_ble_eq_true rfl) ⟨_, zw_1327, Or.inl rfl⟩ (.inl rfl) rfl rfl rfl (zUpI (v := l2) hf14.2 (Nat.le_of_ble_eq_true rfl) (Nat.le_of_ble_eq_true rfl) rfl rfl) dX11_ring_170 ?_
    obtain ⟨S21, hS22⟩ : ∃ z, z = sI S19 1129 a0 l2 := ⟨_, rfl⟩
    rw [← hS22] at h ⊢
    have hf14 : a0 ∈ gL S21 ∧ gK S21 a0 = 11 := by rw [hS22]; exact hf14
    refine z_aload_n 0 dX11_ring_173 rfl rfl ?_
    refine z_iload_n 3 dX11_ring_174 rfl rfl ?_
    have h := h _ rfl
    refine z_putV (c := 11) (j := 30) (ty0 := tyX11) (S' := sI S21 1130 a0 l3) hf14.1 hf14.2 (Nat.le_of_ble_eq_true rfl) rfl zU_X11 tyX11_ok nmX11 (Nat.le_of_ble_eq_true rfl) (Nat.le_of_ble_eq_true rfl) ⟨_, zw_1328, Or.inl rfl⟩ (.inl rfl) rfl rfl rfl (zUpI (v := l3) hf14.2 (Nat.le_of_ble_eq_true rfl) (Nat.le_of_ble_eq_true rfl) rfl rfl) dX11_ring_175 ?_
    obtain ⟨S23, hS24⟩ : ∃ z, z = sI S21 1130 a0 l3 := ⟨_, rfl⟩
    rw [← hS24] at h ⊢
    have hf14 : a0 ∈ gL S23 ∧ gK S23 a0 = 11 := by rw [hS24]; exact hf14
    refine z_aload_n 0 dX11_ring_178 rfl rfl ?_
    refine z_iconst (v := 0) dX11_ring_179 rfl ?_
    have h := h _ rfl
    refine z_putV (c := 11) (j := 31) (ty0 := tyX11) (S' := sI S23 1131 a0 0) hf14.1 hf14.2 (Nat.le_of_ble_eq_true rfl) rfl zU_X11 tyX11_ok nmX11 (Nat.le_of_ble_eq_true rfl) (Nat.le_of_ble_eq_true rfl) ⟨_, zw_1329, Or.inl rfl⟩ (.inl rfl) rfl rfl rfl (zUpI (v := 0) hf14.2 (Nat.le_of_ble_eq_true rfl) (Nat.le_of_ble_eq_true rfl) rfl rfl) dX11_ring_180 ?_
    obtain ⟨S25, hS26⟩ : ∃ z, z = sI S23 1131 a0 0 := ⟨_, rfl⟩
    rw [← hS26] at h ⊢
    have hf14 : a0 ∈ gL S25 ∧ gK S25 a0 = 11 := by rw [hS26]; exact hf14
    refine z_aload_n 0 dX11_ring_183 rfl rfl ?_
    refine z_iconst (v := 0) dX11_ring_184 rfl ?_
    have h := h _ rfl
    refine z_putV (c := 11) (j := 32) (ty0 := tyX11) (S' := sI S25 1132 a0 0) hf14.1 hf14.2 (Nat.le_of_ble_eq_true rfl) rfl zU_X11 tyX11_ok nmX11 (Nat.le_of_ble_eq_true rfl) (Nat.le_of_ble_eq_true rfl) ⟨_, zw_1330, Or.inl rfl⟩ (.inl rfl) rfl rfl rfl (zUpI (v := 0) hf14.2 (Nat.le_of_ble_eq_true rfl) (Nat.le_of_ble_eq_true rfl) rfl rfl) dX11_ring_185 ?_
    obtain ⟨S27, hS28⟩ : ∃ z, z = sI S25 1132 a0 0 := ⟨_, rfl⟩
    rw [← hS28] at h ⊢
    have hf14 : a0 ∈ gL S27 ∧ gK S27 a0 = 11 := by rw [hS28]; exact hf14
    refine z_iconst (v := 0) dX11_ring_188 rfl ?_
    refine z_istore (lv' := [(4, .int 0), (0, .ref a0), (1, .int l1), (2, .int l2), (3, .int l3)]) dX11_ring_189 (Nat.le_of_ble_eq_true rfl) rfl ?_
    obtain ⟨m191, h⟩ := h
    refine z_sub [1, 0] rfl ?_
    refine w_X11_ring_L191 (fun a0 S h => ?_) m191 a0 0 S27 h
    refine z_aload_n 0 dX11_ring_212 rfl rfl ?_
    obtain ⟨hf41, h⟩ := h
    refine z_callVI (ci := 11) (st := []) (w_X11_goesOn h) hf41.1 hf41.2 (Nat.le_of_ble_eq_true rfl) rfl zw_1695 zw_1692 zw_1694 zw_51 zw_74 zy_X11_goesOn rfl rfl ⟨Nat.le_of_ble_eq_true rfl, Nat.le_of_ble_eq_true rfl⟩ ⟨(Nat.le_of_ble_eq_true rfl), (Nat.le_of_ble_eq_true rfl)⟩ (Nat.le_of_ble_eq_true rfl) dX11_ring_213 (fun _ _ hx => hx.elim) (fun r40 S39 h => ?_)
    refine z_widen (k' := 0) (n' := 0) (Nat.le_refl _) (Nat.le_refl _) ?_
    exact z_ireturn ⟨rfl, _, rfl, h⟩ rfl (Nat.le_of_ble_eq_true rfl) (Nat.le_of_ble_eq_true rfl) dX11_ring_216
  · have h := h.2 c43
    refine z_iconst (v := 0) dX11_ring_144 rfl ?_
    exact z_ireturn ⟨rfl, _, rfl, h⟩ rfl (Nat.le_of_ble_eq_true rfl) (Nat.le_of_ble_eq_true rfl) dX11_ring_145
set_option maxRecDepth 20000 in
set_option maxHeartbeats 4000000 in
theorem w_X11_ring_J134 {E : zE}  {Q : Int32 → zS → Prop} {X : String → zS → Prop}  (a0 : Nat) (l1 : Int32) (l2 : Int32) (l3 : Int32) (l100 : Int32) (a101 : Nat) (S : zS) (h : p_X11_ring_J134 E  Q X a0 l1 l2 l3 l100 a101 S) : zJ E (RX11, cX11_ring, 6, (some .int), false, [], zTr) ({ frames := 8, cells := 0, slots := 0, locals := 185 } : Room) (zq (qI Q)) (zx X) 134 [(0, .ref a0), (1, .int l1), (2, .int l2), (3, .int l3)] [.int l100, .ref a101] [] S 0 0 := by
  unfold p_X11_ring_J134 at h
  obtain ⟨hf47, h⟩ := h
  have h := h _ rfl
  refine z_putV (c := 11) (j := 0) (ty0 := tyX11) (S' := sI S 1100 a101 l100) hf47.1 hf47.2 (Nat.le_of_ble_eq_true rfl) rfl zU_X11 tyX11_ok nmX11 (Nat.le_of_ble_eq_true rfl) (Nat.le_of_ble_eq_true rfl) ⟨_, zw_1298, Or.inl rfl⟩ (.inl rfl) rfl rfl rfl (zUpI (v := l100) hf47.2 (Nat.le_of_ble_eq_true rfl) (Nat.le_of_ble_eq_true rfl) rfl rfl) dX11_ring_134 ?_
  obtain ⟨S48, hS49⟩ : ∃ z, z = sI S 1100 a101 l100 := ⟨_, rfl⟩
  rw [← hS49] at h ⊢
  have hf47 : a101 ∈ gL S48 ∧ gK S48 a101 = 11 := by rw [hS49]; exact hf47
  refine w_X11_ring_J137 a0 l1 l2 l3 S48 h
set_option maxRecDepth 20000 in
set_option maxHeartbeats 4000000 in
theorem w_X11_ring_J133 {E : zE}  {Q : Int32 → zS → Prop} {X : String → zS → Prop}  (a0 : Nat) (l1 : Int32) (l2 : Int32) (l3 : Int32) (a100 : Nat) (S : zS) (h : p_X11_ring_J133 E  Q X a0 l1 l2 l3 a100 S) : zJ E (RX11, cX11_ring, 6, (some .int), false, [], zTr) ({ frames := 8, cells := 0, slots := 0, locals := 185 } : Room) (zq (qI Q)) (zx X) 133 [(0, .ref a0), (1, .int l1), (2, .int l2), (3, .int l3)] [.ref a100] [] S 0 0 := by
  unfold p_X11_ring_J133 at h
  refine z_iconst (v := 3) dX11_ring_133 rfl ?_
  refine w_X11_ring_J134 a0 l1 l2 l3 3 a100 S h
set_option maxRecDepth 20000 in
set_option maxHeartbeats 4000000 in
theorem w_X11_ring_J106 {E : zE}  {Q : Int32 → zS → Prop} {X : String → zS → Prop}  (a0 : Nat) (l1 : Int32) (l2 : Int32) (l3 : Int32) (l4 : Int32) (l100 : Int32) (S : zS) (h : p_X11_ring_J106 E  Q X a0 l1 l2 l3 l4 l100 S) : zJ E (RX11, cX11_ring, 6, (some .int), false, [], zTr) ({ frames := 8, cells := 0, slots := 0, locals := 185 } : Room) (zq (qI Q)) (zx X) 106 [(0, .ref a0), (1, .int l1), (2, .int l2), (3, .int l3), (4, .int l4)] [.int l100] [] S 0 0 := by
  unfold p_X11_ring_J106 at h
  refine z_istore (lv' := [(5, .int l100), (0, .ref a0), (1, .int l1), (2, .int l2), (3, .int l3), (4, .int l4)]) dX11_ring_106 (Nat.le_of_ble_eq_true rfl) rfl ?_
  refine z_aload_n 1 dX11_ring_108 rfl rfl ?_
  refine z_iload 0 dX11_ring_109 rfl ?_
  refine z_if_eq 133 dX11_ring_111 (by decide) (fun c59 => ?_) (fun c59 => ?_)
  · have h := h.1 c59
    refine z_sub [1, 2, 3, 4] rfl ?_
    refine w_X11_ring_J133 a0 l1 l2 l3 a0 S h
  · have h := h.2 c59
    refine z_aload_n 1 dX11_ring_114 rfl rfl ?_
    obtain ⟨hf50, h⟩ := h
    refine z_getQ (c := 11) (j := 24) (f := 1124) hf50.1 hf50.2 (Nat.le_of_ble_eq_true rfl) rfl zU_X11 (Nat.le_of_ble_eq_true rfl) (Nat.le_of_ble_eq_true rfl) ⟨_, zw_1322, Or.inl rfl⟩ rfl rfl dX11_ring_115 ?_
    refine z_iload 5 dX11_ring_118 rfl ?_
    obtain ⟨b51, hb52, h⟩ := h
    rw [show va_rf (gR S 1124 a0) = Value.ref b51 from by rw [hb52]; rfl]
    obtain ⟨hf53, h⟩ := h
    obtain ⟨j54, hj55, h⟩ := h
    refine z_iald (j := j54) hf53.1 hf53.2 hj55.1 hj55.2.1 hj55.2.2 dX11_ring_120 ?_
    refine z_aload_n 1 dX11_ring_121 rfl rfl ?_
    refine z_iload_n 2 dX11_ring_122 rfl rfl ?_
    refine z_callVI (ci := 11) (st := [.int (gA S b51 j54), .ref a0]) (w_X11_stageOf h) hf50.1 hf50.2 (Nat.le_of_ble_eq_true rfl) rfl zw_1462 zw_1459 zw_1461 zw_31 zw_74 zy_X11_stageOf rfl rfl ⟨Nat.le_of_ble_eq_true rfl, Nat.le_of_ble_eq_true rfl⟩ ⟨(Nat.le_of_ble_eq_true rfl), (Nat.le_of_ble_eq_true rfl)⟩ (Nat.le_of_ble_eq_true rfl) dX11_ring_123 (fun _ _ hx => hx.elim) (fun r57 S56 h => ?_)
    refine z_widen (k' := 0) (n' := 0) (Nat.le_refl _) (Nat.le_refl _) ?_
    refine z_icmp_lt 133 dX11_ring_126 (by decide) (fun c58 => ?_) (fun c58 => ?_)
    · have h := h.1 c58
      refine z_sub [1, 2, 3, 4] rfl ?_
      refine w_X11_ring_J133 a0 l1 l2 l3 a0 S56 h
    · have h := h.2 c58
      refine z_iconst (v := 0) dX11_ring_129 rfl ?_
      refine z_goto 134 dX11_ring_130 (by decide) ?_
      refine z_sub [1, 2, 3, 4] rfl ?_
      refine w_X11_ring_J134 a0 l1 l2 l3 0 a0 S56 h
set_option maxRecDepth 20000 in
set_option maxHeartbeats 4000000 in
theorem w_X11_ring_J105 {E : zE}  {Q : Int32 → zS → Prop} {X : String → zS → Prop}  (a0 : Nat) (l1 : Int32) (l2 : Int32) (l3 : Int32) (l4 : Int32) (S : zS) (h : p_X11_ring_J105 E  Q X a0 l1 l2 l3 l4 S) : zJ E (RX11, cX11_ring, 6, (some .int), false, [], zTr) ({ frames := 8, cells := 0, slots := 0, locals := 185 } : Room) (zq (qI Q)) (zx X) 105 [(0, .ref a0), (1, .int l1), (2, .int l2), (3, .int l3), (4, .int l4)] [] [] S 0 0 := by
  unfold p_X11_ring_J105 at h
  refine z_iconst (v := 0) dX11_ring_105 rfl ?_
  refine w_X11_ring_J106 a0 l1 l2 l3 l4 0 S h
set_option maxRecDepth 20000 in
set_option maxHeartbeats 4000000 in
theorem w_X11_ring_J47 {E : zE}  {Q : Int32 → zS → Prop} {X : String → zS → Prop}  (a0 : Nat) (l1 : Int32) (l2 : Int32) (l3 : Int32) (l100 : Int32) (a101 : Nat) (S : zS) (h : p_X11_ring_J47 E  Q X a0 l1 l2 l3 l100 a101 S) : zJ E (RX11, cX11_ring, 6, (some .int), false, [], zTr) ({ frames := 8, cells := 0, slots := 0, locals := 185 } : Room) (zq (qI Q)) (zx X) 47 [(0, .ref a0), (1, .int l1), (2, .int l2), (3, .int l3)] [.int l100, .ref a101] [] S 0 0 := by
  unfold p_X11_ring_J47 at h
  obtain ⟨hf7, h⟩ := h
  have h := h _ rfl
  refine z_putV (c := 11) (j := 0) (ty0 := tyX11) (S' := sI S 1100 a101 l100) hf7.1 hf7.2 (Nat.le_of_ble_eq_true rfl) rfl zU_X11 tyX11_ok nmX11 (Nat.le_of_ble_eq_true rfl) (Nat.le_of_ble_eq_true rfl) ⟨_, zw_1298, Or.inl rfl⟩ (.inl rfl) rfl rfl rfl (zUpI (v := l100) hf7.2 (Nat.le_of_ble_eq_true rfl) (Nat.le_of_ble_eq_true rfl) rfl rfl) dX11_ring_47 ?_
  obtain ⟨S8, hS9⟩ : ∃ z, z = sI S 1100 a101 l100 := ⟨_, rfl⟩
  rw [← hS9] at h ⊢
  have hf7 : a101 ∈ gL S8 ∧ gK S8 a101 = 11 := by rw [hS9]; exact hf7
  refine z_aload_n 0 dX11_ring_50 rfl rfl ?_
  obtain ⟨hf10, h⟩ := h
  refine z_getI (c := 11) (j := 0) (f := 1100) hf10.1 hf10.2 (Nat.le_of_ble_eq_true rfl) rfl zU_X11 (Nat.le_of_ble_eq_true rfl) (Nat.le_of_ble_eq_true rfl) ⟨_, zw_1298, Or.inl rfl⟩ rfl rfl dX11_ring_51 ?_
  refine z_if_ne 137 dX11_ring_54 (by decide) (fun c67 => ?_) (fun c67 => ?_)
  · have h := h.1 c67
    refine w_X11_ring_J137 a0 l1 l2 l3 S8 h
  · have h := h.2 c67
    refine z_aload_n 0 dX11_ring_57 rfl rfl ?_
    refine z_aload_n 0 dX11_ring_58 rfl rfl ?_
    refine z_getI (c := 11) (j := 20) (f := 1120) hf10.1 hf10.2 (Nat.le_of_ble_eq_true rfl) rfl zU_X11 (Nat.le_of_ble_eq_true rfl) (Nat.le_of_ble_eq_true rfl) ⟨_, zw_1318, Or.inl rfl⟩ rfl rfl dX11_ring_59 ?_
    refine z_callVI (ci := 11) (st := []) (w_X11_bandOf h) hf10.1 hf10.2 (Nat.le_of_ble_eq_true rfl) rfl zw_1671 zw_1668 zw_1670 zw_49 zw_74 zy_X11_bandOf rfl rfl ⟨Nat.le_of_ble_eq_true rfl, Nat.le_of_ble_eq_true rfl⟩ ⟨(Nat.le_of_ble_eq_true rfl), (Nat.le_of_ble_eq_true rfl)⟩ (Nat.le_of_ble_eq_true rfl) dX11_ring_62 (fun _ _ hx => hx.elim) (fun r45 S44 h => ?_)
    refine z_widen (k' := 0) (n' := 0) (Nat.le_refl _) (Nat.le_refl _) ?_
    refine z_istore (lv' := [(4, .int r45), (0, .ref a0), (1, .int l1), (2, .int l2), (3, .int l3)]) dX11_ring_65 (Nat.le_of_ble_eq_true rfl) rfl ?_
    refine z_aload_n 1 dX11_ring_67 rfl rfl ?_
    obtain ⟨hf46, h⟩ := h
    refine z_getI (c := 11) (j := 27) (f := 1127) hf46.1 hf46.2 (Nat.le_of_ble_eq_true rfl) rfl zU_X11 (Nat.le_of_ble_eq_true rfl) (Nat.le_of_ble_eq_true rfl) ⟨_, zw_1325, Or.inl rfl⟩ rfl rfl dX11_ring_68 ?_
    refine z_if_ne 105 dX11_ring_71 (by decide) (fun c66 => ?_) (fun c66 => ?_)
    · have h := h.1 c66
      refine z_sub [1, 2, 3, 4, 0] rfl ?_
      refine w_X11_ring_J105 a0 l1 l2 l3 r45 S44 h
    · have h := h.2 c66
      refine z_aload_n 1 dX11_ring_74 rfl rfl ?_
      refine z_aload_n 1 dX11_ring_75 rfl rfl ?_
      refine z_getI (c := 11) (j := 20) (f := 1120) hf46.1 hf46.2 (Nat.le_of_ble_eq_true rfl) rfl zU_X11 (Nat.le_of_ble_eq_true rfl) (Nat.le_of_ble_eq_true rfl) ⟨_, zw_1318, Or.inl rfl⟩ rfl rfl dX11_ring_76 ?_
      refine z_iload_n 2 dX11_ring_79 rfl rfl ?_
      refine z_callVI (ci := 11) (st := []) (w_X11_placeOf h) hf46.1 hf46.2 (Nat.le_of_ble_eq_true rfl) rfl zw_1655 zw_1652 zw_1654 zw_48 zw_74 zy_X11_placeOf rfl rfl ⟨Nat.le_of_ble_eq_true rfl, Nat.le_of_ble_eq_true rfl⟩ ⟨(Nat.le_of_ble_eq_true rfl), (Nat.le_of_ble_eq_true rfl)⟩ (Nat.le_of_ble_eq_true rfl) dX11_ring_80 (fun _ _ hx => hx.elim) (fun r61 S60 h => ?_)
      refine z_widen (k' := 0) (n' := 0) (Nat.le_refl _) (Nat.le_refl _) ?_
      refine z_iconst (v := (-1)) dX11_ring_83 rfl ?_
      refine z_icmp_eq 105 dX11_ring_84 (by decide) (fun c65 => ?_) (fun c65 => ?_)
      · have h := h.1 c65
        refine z_sub [1, 2, 3, 4, 0] rfl ?_
        refine w_X11_ring_J105 a0 l1 l2 l3 r45 S60 h
      · have h := h.2 c65
        refine z_iload_n 2 dX11_ring_87 rfl rfl ?_
        refine z_aload_n 1 dX11_ring_88 rfl rfl ?_
        obtain ⟨hf62, h⟩ := h
        refine z_getI (c := 11) (j := 41) (f := 1141) hf62.1 hf62.2 (Nat.le_of_ble_eq_true rfl) rfl zU_X11 (Nat.le_of_ble_eq_true rfl) (Nat.le_of_ble_eq_true rfl) ⟨_, zw_1339, Or.inl rfl⟩ rfl rfl dX11_ring_89 ?_
        refine z_icmp_eq 105 dX11_ring_92 (by decide) (fun c64 => ?_) (fun c64 => ?_)
        · have h := h.1 c64
          refine z_sub [1, 2, 3, 4, 0] rfl ?_
          refine w_X11_ring_J105 a0 l1 l2 l3 r45 S60 h
        · have h := h.2 c64
          refine z_iload 0 dX11_ring_95 rfl ?_
          refine z_iconst (v := (-1)) dX11_ring_97 rfl ?_
          refine z_icmp_eq 105 dX11_ring_98 (by decide) (fun c63 => ?_) (fun c63 => ?_)
          · have h := h.1 c63
            refine z_sub [1, 2, 3, 4, 0] rfl ?_
            refine w_X11_ring_J105 a0 l1 l2 l3 r45 S60 h
          · have h := h.2 c63
            refine z_iconst (v := 1) dX11_ring_101 rfl ?_
            refine z_goto 106 dX11_ring_102 (by decide) ?_
            refine z_sub [1, 2, 3, 4, 0] rfl ?_
            refine w_X11_ring_J106 a0 l1 l2 l3 r45 1 S60 h
set_option maxRecDepth 20000 in
set_option maxHeartbeats 4000000 in
theorem w_X11_ring_J42 {E : zE}  {Q : Int32 → zS → Prop} {X : String → zS → Prop}  (a0 : Nat) (l1 : Int32) (l2 : Int32) (l3 : Int32) (a100 : Nat) (S : zS) (h : p_X11_ring_J42 E  Q X a0 l1 l2 l3 a100 S) : zJ E (RX11, cX11_ring, 6, (some .int), false, [], zTr) ({ frames := 8, cells := 0, slots := 0, locals := 185 } : Room) (zq (qI Q)) (zx X) 42 [(0, .ref a0), (1, .int l1), (2, .int l2), (3, .int l3)] [.ref a100] [] S 0 0 := by
  unfold p_X11_ring_J42 at h
  refine z_iconst (v := 2) dX11_ring_42 rfl ?_
  refine z_goto 47 dX11_ring_43 (by decide) ?_
  refine w_X11_ring_J47 a0 l1 l2 l3 2 a100 S h
set_option maxRecDepth 20000 in
set_option maxHeartbeats 4000000 in
theorem w_X11_ring {E : zE} {a0 : Nat} {l1 : Int32} {l2 : Int32} {l3 : Int32} {S : zS} {Q : Int32 → zS → Prop} {X : String → zS → Prop} (h : p_X11_ring E a0 l1 l2 l3 S Q X) : zM E yX11_ring cX11_ring 6 (some .int) ({ frames := 8, cells := 0, slots := 0, locals := 185 } : Room) [.ref a0, .int l1, .int l2, .int l3] S (qI Q) X := by
  unfold p_X11_ring at h
  refine zM_of RX11 false (by decide) rfl (fun h => by cases h) (Nat.le_of_ble_eq_true rfl) ?_
  refine z_aload_n 0 dX11_ring_0 rfl rfl ?_
  refine z_aload_n 0 dX11_ring_1 rfl rfl ?_
  refine z_iload_n 1 dX11_ring_2 rfl rfl ?_
  obtain ⟨hf74, h⟩ := h
  refine z_callVI (ci := 11) (st := [.ref a0]) (w_X11_isTouch h) hf74.1 hf74.2 (Nat.le_of_ble_eq_true rfl) rfl zw_1584 zw_1581 zw_1583 zw_45 zw_74 zy_X11_isTouch rfl rfl ⟨Nat.le_of_ble_eq_true rfl, Nat.le_of_ble_eq_true rfl⟩ ⟨(Nat.le_of_ble_eq_true rfl), (Nat.le_of_ble_eq_true rfl)⟩ (Nat.le_of_ble_eq_true rfl) dX11_ring_3 (fun _ _ hx => hx.elim) (fun r2 S1 h => ?_)
  refine z_widen (k' := 0) (n' := 0) (Nat.le_refl _) (Nat.le_refl _) ?_
  refine z_if_ne 13 dX11_ring_6 (by decide) (fun c73 => ?_) (fun c73 => ?_)
  · have h := h.1 c73
    refine z_iload_n 2 dX11_ring_13 rfl rfl ?_
    refine z_iconst (v := 0) dX11_ring_14 rfl ?_
    refine z_iconst (v := 1) dX11_ring_15 rfl ?_
    refine z_aload_n 0 dX11_ring_16 rfl rfl ?_
    refine z_iload_n 1 dX11_ring_17 rfl rfl ?_
    obtain ⟨hf72, h⟩ := h
    refine z_callVI (ci := 11) (st := [.int 1, .int 0, .int l2, .ref a0]) (w_X11_stageOf h) hf72.1 hf72.2 (Nat.le_of_ble_eq_true rfl) rfl zw_1462 zw_1459 zw_1461 zw_31 zw_74 zy_X11_stageOf rfl rfl ⟨Nat.le_of_ble_eq_true rfl, Nat.le_of_ble_eq_true rfl⟩ ⟨(Nat.le_of_ble_eq_true rfl), (Nat.le_of_ble_eq_true rfl)⟩ (Nat.le_of_ble_eq_true rfl) dX11_ring_18 (fun _ _ hx => hx.elim) (fun r4 S3 h => ?_)
    refine z_widen (k' := 0) (n' := 0) (Nat.le_refl _) (Nat.le_refl _) ?_
    refine z_ishl dX11_ring_21 ?_
    refine z_iconst (v := 1) dX11_ring_22 rfl ?_
    refine z_isub dX11_ring_23 ?_
    refine z_callSI (st := [.ref a0]) (w_X11_in h) zw_1435 zw_1433 zw_1434 zw_74 zy_X11_in rfl rfl ⟨Nat.le_of_ble_eq_true rfl, Nat.le_of_ble_eq_true rfl⟩ ⟨(Nat.le_of_ble_eq_true rfl), (Nat.le_of_ble_eq_true rfl)⟩ (Nat.le_of_ble_eq_true rfl) dX11_ring_24 (fun _ _ hx => hx.elim) (fun r6 S5 h => ?_)
    refine z_widen (k' := 0) (n' := 0) (Nat.le_refl _) (Nat.le_refl _) ?_
    refine z_if_eq 42 dX11_ring_27 (by decide) (fun c71 => ?_) (fun c71 => ?_)
    · have h := h.1 c71
      refine w_X11_ring_J42 a0 l1 l2 l3 a0 S5 h
    · have h := h.2 c71
      refine z_iload_n 3 dX11_ring_30 rfl rfl ?_
      refine z_bipush (v := 100) dX11_ring_31 rfl ?_
      refine z_sipush (v := 1000) dX11_ring_33 rfl ?_
      refine z_callSI (st := [.ref a0]) (w_X11_in h) zw_1435 zw_1433 zw_1434 zw_74 zy_X11_in rfl rfl ⟨Nat.le_of_ble_eq_true rfl, Nat.le_of_ble_eq_true rfl⟩ ⟨(Nat.le_of_ble_eq_true rfl), (Nat.le_of_ble_eq_true rfl)⟩ (Nat.le_of_ble_eq_true rfl) dX11_ring_36 (fun _ _ hx => hx.elim) (fun r69 S68 h => ?_)
      refine z_widen (k' := 0) (n' := 0) (Nat.le_refl _) (Nat.le_refl _) ?_
      refine z_if_ne 46 dX11_ring_39 (by decide) (fun c70 => ?_) (fun c70 => ?_)
      · have h := h.1 c70
        refine z_iconst (v := 0) dX11_ring_46 rfl ?_
        refine w_X11_ring_J47 a0 l1 l2 l3 0 a0 S68 h
      · have h := h.2 c70
        refine w_X11_ring_J42 a0 l1 l2 l3 a0 S68 h
  · have h := h.2 c73
    refine z_iconst (v := 1) dX11_ring_9 rfl ?_
    refine z_goto 47 dX11_ring_10 (by decide) ?_
    refine w_X11_ring_J47 a0 l1 l2 l3 1 a0 S1 h
set_option maxRecDepth 20000 in
set_option maxHeartbeats 4000000 in
theorem w_X11_stand {E : zE} {a0 : Nat} {S : zS} {Q : Int32 → zS → Prop} {X : String → zS → Prop} (h : p_X11_stand E a0 S Q X) : zM E yX11_stand cX11_stand 1 (some .int) ({ frames := 6, cells := 0, slots := 0, locals := 139 } : Room) [.ref a0] S (qI Q) X := by
  unfold p_X11_stand at h
  refine zM_of RX11 false (by decide) rfl (fun h => by cases h) (Nat.le_of_ble_eq_true rfl) ?_
  refine z_aload_n 0 dX11_stand_0 rfl rfl ?_
  refine z_aload_n 0 dX11_stand_1 rfl rfl ?_
  obtain ⟨hf1, h⟩ := h
  refine z_getI (c := 11) (j := 27) (f := 1127) hf1.1 hf1.2 (Nat.le_of_ble_eq_true rfl) rfl zU_X11 (Nat.le_of_ble_eq_true rfl) (Nat.le_of_ble_eq_true rfl) ⟨_, zw_1325, Or.inl rfl⟩ rfl rfl dX11_stand_2 ?_
  refine z_if_eq 12 dX11_stand_5 (by decide) (fun c20 => ?_) (fun c20 => ?_)
  · have h := h.1 c20
    refine z_iconst (v := 1) dX11_stand_12 rfl ?_
    have h := h _ rfl
    refine z_putV (c := 11) (j := 0) (ty0 := tyX11) (S' := sI S 1100 a0 1) hf1.1 hf1.2 (Nat.le_of_ble_eq_true rfl) rfl zU_X11 tyX11_ok nmX11 (Nat.le_of_ble_eq_true rfl) (Nat.le_of_ble_eq_true rfl) ⟨_, zw_1298, Or.inl rfl⟩ (.inl rfl) rfl rfl rfl (zUpI (v := 1) hf1.2 (Nat.le_of_ble_eq_true rfl) (Nat.le_of_ble_eq_true rfl) rfl rfl) dX11_stand_13 ?_
    obtain ⟨S2, hS3⟩ : ∃ z, z = sI S 1100 a0 1 := ⟨_, rfl⟩
    rw [← hS3] at h ⊢
    have hf1 : a0 ∈ gL S2 ∧ gK S2 a0 = 11 := by rw [hS3]; exact hf1
    refine z_aload_n 0 dX11_stand_16 rfl rfl ?_
    refine z_getI (c := 11) (j := 0) (f := 1100) hf1.1 hf1.2 (Nat.le_of_ble_eq_true rfl) rfl zU_X11 (Nat.le_of_ble_eq_true rfl) (Nat.le_of_ble_eq_true rfl) ⟨_, zw_1298, Or.inl rfl⟩ rfl rfl dX11_stand_17 ?_
    refine z_if_le 25 dX11_stand_20 (by decide) (fun c10 => ?_) (fun c10 => ?_)
    · have h := h.1 c10
      refine z_aload_n 0 dX11_stand_25 rfl rfl ?_
      refine z_iconst (v := 0) dX11_stand_26 rfl ?_
      obtain ⟨hz9, h⟩ := h
      have h := h _ rfl
      refine z_putV (c := 11) (j := 27) (ty0 := tyX11) (S' := sI S2 1127 a0 0) hf1.1 hf1.2 (Nat.le_of_ble_eq_true rfl) rfl zU_X11 tyX11_ok nmX11 (Nat.le_of_ble_eq_true rfl) (Nat.le_of_ble_eq_true rfl) ⟨_, zw_1325, Or.inl rfl⟩ (.inl rfl) (zbn hz9) (zbf hz9) rfl (zUpI (v := 0) hf1.2 (Nat.le_of_ble_eq_true rfl) (Nat.le_of_ble_eq_true rfl) rfl rfl) dX11_stand_27 ?_
      obtain ⟨S4, hS5⟩ : ∃ z, z = sI S2 1127 a0 0 := ⟨_, rfl⟩
      rw [← hS5] at h ⊢
      have hf1 : a0 ∈ gL S4 ∧ gK S4 a0 = 11 := by rw [hS5]; exact hf1
      refine z_aload_n 0 dX11_stand_30 rfl rfl ?_
      refine z_callVV (ci := 11) (st := []) (w_X11_looks h) hf1.1 hf1.2 (Nat.le_of_ble_eq_true rfl) rfl zw_1719 zw_1716 zw_1718 zw_57 zw_74 zy_X11_looks rfl rfl ⟨Nat.le_of_ble_eq_true rfl, Nat.le_of_ble_eq_true rfl⟩ ⟨(Nat.le_of_ble_eq_true rfl), (Nat.le_of_ble_eq_true rfl)⟩ (Nat.le_of_ble_eq_true rfl) dX11_stand_31 (fun _ _ hx => hx.elim) (fun S6 h => ?_)
      refine z_widen (k' := 0) (n' := 0) (Nat.le_refl _) (Nat.le_refl _) ?_
      refine z_aload_n 0 dX11_stand_34 rfl rfl ?_
      obtain ⟨hf8, h⟩ := h
      refine z_getI (c := 11) (j := 31) (f := 1131) hf8.1 hf8.2 (Nat.le_of_ble_eq_true rfl) rfl zU_X11 (Nat.le_of_ble_eq_true rfl) (Nat.le_of_ble_eq_true rfl) ⟨_, zw_1329, Or.inl rfl⟩ rfl rfl dX11_stand_35 ?_
      exact z_ireturn ⟨rfl, _, rfl, h⟩ rfl (Nat.le_of_ble_eq_true rfl) (Nat.le_of_ble_eq_true rfl) dX11_stand_38
    · have h := h.2 c10
      refine z_iconst (v := 0) dX11_stand_23 rfl ?_
      exact z_ireturn ⟨rfl, _, rfl, h⟩ rfl (Nat.le_of_ble_eq_true rfl) (Nat.le_of_ble_eq_true rfl) dX11_stand_24
  · have h := h.2 c20
    refine z_iconst (v := 0) dX11_stand_8 rfl ?_
    refine z_goto 13 dX11_stand_9 (by decide) ?_
    have h := h _ rfl
    refine z_putV (c := 11) (j := 0) (ty0 := tyX11) (S' := sI S 1100 a0 0) hf1.1 hf1.2 (Nat.le_of_ble_eq_true rfl) rfl zU_X11 tyX11_ok nmX11 (Nat.le_of_ble_eq_true rfl) (Nat.le_of_ble_eq_true rfl) ⟨_, zw_1298, Or.inl rfl⟩ (.inl rfl) rfl rfl rfl (zUpI (v := 0) hf1.2 (Nat.le_of_ble_eq_true rfl) (Nat.le_of_ble_eq_true rfl) rfl rfl) dX11_stand_13 ?_
    obtain ⟨S11, hS12⟩ : ∃ z, z = sI S 1100 a0 0 := ⟨_, rfl⟩
    rw [← hS12] at h ⊢
    have hf1 : a0 ∈ gL S11 ∧ gK S11 a0 = 11 := by rw [hS12]; exact hf1
    refine z_aload_n 0 dX11_stand_16 rfl rfl ?_
    refine z_getI (c := 11) (j := 0) (f := 1100) hf1.1 hf1.2 (Nat.le_of_ble_eq_true rfl) rfl zU_X11 (Nat.le_of_ble_eq_true rfl) (Nat.le_of_ble_eq_true rfl) ⟨_, zw_1298, Or.inl rfl⟩ rfl rfl dX11_stand_17 ?_
    refine z_if_le 25 dX11_stand_20 (by decide) (fun c19 => ?_) (fun c19 => ?_)
    · have h := h.1 c19
      refine z_aload_n 0 dX11_stand_25 rfl rfl ?_
      refine z_iconst (v := 0) dX11_stand_26 rfl ?_
      obtain ⟨hz18, h⟩ := h
      have h := h _ rfl
      refine z_putV (c := 11) (j := 27) (ty0 := tyX11) (S' := sI S11 1127 a0 0) hf1.1 hf1.2 (Nat.le_of_ble_eq_true rfl) rfl zU_X11 tyX11_ok nmX11 (Nat.le_of_ble_eq_true rfl) (Nat.le_of_ble_eq_true rfl) ⟨_, zw_1325, Or.inl rfl⟩ (.inl rfl) (zbn hz18) (zbf hz18) rfl (zUpI (v := 0) hf1.2 (Nat.le_of_ble_eq_true rfl) (Nat.le_of_ble_eq_true rfl) rfl rfl) dX11_stand_27 ?_
      obtain ⟨S13, hS14⟩ : ∃ z, z = sI S11 1127 a0 0 := ⟨_, rfl⟩
      rw [← hS14] at h ⊢
      have hf1 : a0 ∈ gL S13 ∧ gK S13 a0 = 11 := by rw [hS14]; exact hf1
      refine z_aload_n 0 dX11_stand_30 rfl rfl ?_
      refine z_callVV (ci := 11) (st := []) (w_X11_looks h) hf1.1 hf1.2 (Nat.le_of_ble_eq_true rfl) rfl zw_1719 zw_1716 zw_1718 zw_57 zw_74 zy_X11_looks rfl rfl ⟨Nat.le_of_ble_eq_true rfl, Nat.le_of_ble_eq_true rfl⟩ ⟨(Nat.le_of_ble_eq_true rfl), (Nat.le_of_ble_eq_true rfl)⟩ (Nat.le_of_ble_eq_true rfl) dX11_stand_31 (fun _ _ hx => hx.elim) (fun S15 h => ?_)
      refine z_widen (k' := 0) (n' := 0) (Nat.le_refl _) (Nat.le_refl _) ?_
      refine z_aload_n 0 dX11_stand_34 rfl rfl ?_
      obtain ⟨hf17, h⟩ := h
      refine z_getI (c := 11) (j := 31) (f := 1131) hf17.1 hf17.2 (Nat.le_of_ble_eq_true rfl) rfl zU_X11 (Nat.le_of_ble_eq_true rfl) (Nat.le_of_ble_eq_true rfl) ⟨_, zw_1329, Or.inl rfl⟩ rfl rfl dX11_stand_35 ?_
      exact z_ireturn ⟨rfl, _, rfl, h⟩ rfl (Nat.le_of_ble_eq_true rfl) (Nat.le_of_ble_eq_true rfl) dX11_stand_38
    · have h := h.2 c19
      refine z_iconst (v := 0) dX11_stand_23 rfl ?_
      exact z_ireturn ⟨rfl, _, rfl, h⟩ rfl (Nat.le_of_ble_eq_true rfl) (Nat.le_of_ble_eq_true rfl) dX11_stand_24
set_option maxRecDepth 20000 in
set_option maxHeartbeats 4000000 in
theorem w_X11_isRinging {E : zE} {a0 : Nat} {S : zS} {Q : Int32 → zS → Prop} {X : String → zS → Prop} (h : p_X11_isRinging E a0 S Q X) : zM E yX11_isRinging cX11_isRinging 1 (some .boolean) ({ frames := 0, cells := 0, slots := 0, locals := 0 } : Room) [.ref a0] S (qI Q) X := by
  unfold p_X11_isRinging at h
  refine zM_of RX11 false (by decide) rfl (fun h => by cases h) (Nat.le_of_ble_eq_true rfl) ?_
  refine z_aload_n 0 dX11_isRinging_0 rfl rfl ?_
  refine z_iconst (v := 0) dX11_isRinging_1 rfl ?_
  obtain ⟨hf1, h⟩ := h
  have h := h _ rfl
  refine z_putV (c := 11) (j := 0) (ty0 := tyX11) (S' := sI S 1100 a0 0) hf1.1 hf1.2 (Nat.le_of_ble_eq_true rfl) rfl zU_X11 tyX11_ok nmX11 (Nat.le_of_ble_eq_true rfl) (Nat.le_of_ble_eq_true rfl) ⟨_, zw_1298, Or.inl rfl⟩ (.inl rfl) rfl rfl rfl (zUpI (v := 0) hf1.2 (Nat.le_of_ble_eq_true rfl) (Nat.le_of_ble_eq_true rfl) rfl rfl) dX11_isRinging_2 ?_
  obtain ⟨S2, hS3⟩ : ∃ z, z = sI S 1100 a0 0 := ⟨_, rfl⟩
  rw [← hS3] at h ⊢
  have hf1 : a0 ∈ gL S2 ∧ gK S2 a0 = 11 := by rw [hS3]; exact hf1
  refine z_aload_n 0 dX11_isRinging_5 rfl rfl ?_
  refine z_getI (c := 11) (j := 27) (f := 1127) hf1.1 hf1.2 (Nat.le_of_ble_eq_true rfl) rfl zU_X11 (Nat.le_of_ble_eq_true rfl) (Nat.le_of_ble_eq_true rfl) ⟨_, zw_1325, Or.inl rfl⟩ rfl rfl dX11_isRinging_6 ?_
  obtain ⟨hz4, h⟩ := h
  exact z_zreturn ⟨rfl, _, rfl, h⟩ rfl (zbn hz4) (Nat.le_of_ble_eq_true rfl) (Nat.le_of_ble_eq_true rfl) dX11_isRinging_9
set_option maxRecDepth 20000 in
set_option maxHeartbeats 4000000 in
theorem w_X11_hasPull_J15 {E : zE}  {Q : Int32 → zS → Prop} {X : String → zS → Prop}  (a0 : Nat) (l1 : Int32) (S : zS) (h : p_X11_hasPull_J15 E  Q X a0 l1 S) : zJ E (RX11, cX11_hasPull, 2, (some .boolean), false, [], zTr) ({ frames := 3, cells := 0, slots := 0, locals := 70 } : Room) (zq (qI Q)) (zx X) 15 [(0, .ref a0), (1, .int l1)] [] [] S 0 0 := by
  unfold p_X11_hasPull_J15 at h
  refine z_aload_n 0 dX11_hasPull_15 rfl rfl ?_
  obtain ⟨hf2, h⟩ := h
  refine z_getI (c := 11) (j := 27) (f := 1127) hf2.1 hf2.2 (Nat.le_of_ble_eq_true rfl) rfl zU_X11 (Nat.le_of_ble_eq_true rfl) (Nat.le_of_ble_eq_true rfl) ⟨_, zw_1325, Or.inl rfl⟩ rfl rfl dX11_hasPull_16 ?_
  refine z_if_eq 47 dX11_hasPull_19 (by decide) (fun c17 => ?_) (fun c17 => ?_)
  · have h := h.1 c17
    refine z_iconst (v := 0) dX11_hasPull_47 rfl ?_
    obtain ⟨hz3, h⟩ := h
    exact z_zreturn ⟨rfl, _, rfl, h⟩ rfl (zbn hz3) (Nat.le_of_ble_eq_true rfl) (Nat.le_of_ble_eq_true rfl) dX11_hasPull_48
  · have h := h.2 c17
    refine z_aload_n 0 dX11_hasPull_22 rfl rfl ?_
    refine z_iload_n 1 dX11_hasPull_23 rfl rfl ?_
    refine z_callVI (ci := 11) (st := []) (w_X11_isPeoples h) hf2.1 hf2.2 (Nat.le_of_ble_eq_true rfl) rfl zw_1703 zw_1700 zw_1702 zw_53 zw_74 zy_X11_isPeoples rfl rfl ⟨Nat.le_of_ble_eq_true rfl, Nat.le_of_ble_eq_true rfl⟩ ⟨(Nat.le_of_ble_eq_true rfl), (Nat.le_of_ble_eq_true rfl)⟩ (Nat.le_of_ble_eq_true rfl) dX11_hasPull_24 (fun _ _ hx => hx.elim) (fun r5 S4 h => ?_)
    refine z_widen (k' := 0) (n' := 0) (Nat.le_refl _) (Nat.le_refl _) ?_
    refine z_if_eq 47 dX11_hasPull_27 (by decide) (fun c16 => ?_) (fun c16 => ?_)
    · have h := h.1 c16
      refine z_iconst (v := 0) dX11_hasPull_47 rfl ?_
      obtain ⟨hz6, h⟩ := h
      exact z_zreturn ⟨rfl, _, rfl, h⟩ rfl (zbn hz6) (Nat.le_of_ble_eq_true rfl) (Nat.le_of_ble_eq_true rfl) dX11_hasPull_48
    · have h := h.2 c16
      refine z_aload_n 0 dX11_hasPull_30 rfl rfl ?_
      obtain ⟨hf7, h⟩ := h
      refine z_getQ (c := 11) (j := 34) (f := 1134) hf7.1 hf7.2 (Nat.le_of_ble_eq_true rfl) rfl zU_X11 (Nat.le_of_ble_eq_true rfl) (Nat.le_of_ble_eq_true rfl) ⟨_, zw_1332, Or.inl rfl⟩ rfl rfl dX11_hasPull_31 ?_
      refine z_iload_n 1 dX11_hasPull_34 rfl rfl ?_
      obtain ⟨b8, hb9, h⟩ := h
      rw [show va_rf (gR S4 1134 a0) = Value.ref b8 from by rw [hb9]; rfl]
      obtain ⟨hf10, h⟩ := h
      obtain ⟨j11, hj12, h⟩ := h
      refine z_iald (j := j11) hf10.1 hf10.2 hj12.1 hj12.2.1 hj12.2.2 dX11_hasPull_35 ?_
      refine z_aload_n 0 dX11_hasPull_36 rfl rfl ?_
      refine z_getI (c := 11) (j := 13) (f := 1113) hf7.1 hf7.2 (Nat.le_of_ble_eq_true rfl) rfl zU_X11 (Nat.le_of_ble_eq_true rfl) (Nat.le_of_ble_eq_true rfl) ⟨_, zw_1311, Or.inl rfl⟩ rfl rfl dX11_hasPull_37 ?_
      refine z_icmp_ge 47 dX11_hasPull_40 (by decide) (fun c15 => ?_) (fun c15 => ?_)
      · have h := h.1 c15
        refine z_iconst (v := 0) dX11_hasPull_47 rfl ?_
        obtain ⟨hz13, h⟩ := h
        exact z_zreturn ⟨rfl, _, rfl, h⟩ rfl (zbn hz13) (Nat.le_of_ble_eq_true rfl) (Nat.le_of_ble_eq_true rfl) dX11_hasPull_48
      · have h := h.2 c15
        refine z_iconst (v := 1) dX11_hasPull_43 rfl ?_
        refine z_goto 48 dX11_hasPull_44 (by decide) ?_
        obtain ⟨hz14, h⟩ := h
        exact z_zreturn ⟨rfl, _, rfl, h⟩ rfl (zbn hz14) (Nat.le_of_ble_eq_true rfl) (Nat.le_of_ble_eq_true rfl) dX11_hasPull_48
set_option maxRecDepth 20000 in
set_option maxHeartbeats 4000000 in
theorem w_X11_hasPull {E : zE} {a0 : Nat} {l1 : Int32} {S : zS} {Q : Int32 → zS → Prop} {X : String → zS → Prop} (h : p_X11_hasPull E a0 l1 S Q X) : zM E yX11_hasPull cX11_hasPull 2 (some .boolean) ({ frames := 3, cells := 0, slots := 0, locals := 70 } : Room) [.ref a0, .int l1] S (qI Q) X := by
  unfold p_X11_hasPull at h
  refine zM_of RX11 false (by decide) rfl (fun h => by cases h) (Nat.le_of_ble_eq_true rfl) ?_
  refine z_aload_n 0 dX11_hasPull_0 rfl rfl ?_
  obtain ⟨hf1, h⟩ := h
  refine z_getI (c := 11) (j := 27) (f := 1127) hf1.1 hf1.2 (Nat.le_of_ble_eq_true rfl) rfl zU_X11 (Nat.le_of_ble_eq_true rfl) (Nat.le_of_ble_eq_true rfl) ⟨_, zw_1325, Or.inl rfl⟩ rfl rfl dX11_hasPull_1 ?_
  refine z_if_eq 15 dX11_hasPull_4 (by decide) (fun c20 => ?_) (fun c20 => ?_)
  · have h := h.1 c20
    refine w_X11_hasPull_J15 a0 l1 S h
  · have h := h.2 c20
    refine z_aload_n 0 dX11_hasPull_7 rfl rfl ?_
    refine z_aload_n 0 dX11_hasPull_8 rfl rfl ?_
    refine z_getI (c := 11) (j := 28) (f := 1128) hf1.1 hf1.2 (Nat.le_of_ble_eq_true rfl) rfl zU_X11 (Nat.le_of_ble_eq_true rfl) (Nat.le_of_ble_eq_true rfl) ⟨_, zw_1326, Or.inl rfl⟩ rfl rfl dX11_hasPull_9 ?_
    refine z_callVV (ci := 11) (st := []) (w_X11_writes h) hf1.1 hf1.2 (Nat.le_of_ble_eq_true rfl) rfl zw_1478 zw_1475 zw_1477 zw_35 zw_74 zy_X11_writes rfl rfl ⟨Nat.le_of_ble_eq_true rfl, Nat.le_of_ble_eq_true rfl⟩ ⟨(Nat.le_of_ble_eq_true rfl), (Nat.le_of_ble_eq_true rfl)⟩ (Nat.le_of_ble_eq_true rfl) dX11_hasPull_12 (fun _ _ hx => hx.elim) (fun S18 h => ?_)
    refine z_widen (k' := 0) (n' := 0) (Nat.le_refl _) (Nat.le_refl _) ?_
    refine w_X11_hasPull_J15 a0 l1 S18 h
set_option maxRecDepth 20000 in
set_option maxHeartbeats 4000000 in
theorem w_X11_dueOf {E : zE} {a0 : Nat} {l1 : Int32} {S : zS} {Q : Int32 → zS → Prop} {X : String → zS → Prop} (h : p_X11_dueOf E a0 l1 S Q X) : zM E yX11_dueOf cX11_dueOf 2 (some .int) ({ frames := 2, cells := 0, slots := 0, locals := 44 } : Room) [.ref a0, .int l1] S (qI Q) X := by
  unfold p_X11_dueOf at h
  refine zM_of RX11 false (by decide) rfl (fun h => by cases h) (Nat.le_of_ble_eq_true rfl) ?_
  refine z_aload_n 0 dX11_dueOf_0 rfl rfl ?_
  refine z_aload_n 0 dX11_dueOf_1 rfl rfl ?_
  obtain ⟨hf1, h⟩ := h
  refine z_getQ (c := 11) (j := 34) (f := 1134) hf1.1 hf1.2 (Nat.le_of_ble_eq_true rfl) rfl zU_X11 (Nat.le_of_ble_eq_true rfl) (Nat.le_of_ble_eq_true rfl) ⟨_, zw_1332, Or.inl rfl⟩ rfl rfl dX11_dueOf_2 ?_
  refine z_iload_n 1 dX11_dueOf_5 rfl rfl ?_
  obtain ⟨b2, hb3, h⟩ := h
  rw [show va_rf (gR S 1134 a0) = Value.ref b2 from by rw [hb3]; rfl]
  obtain ⟨hf4, h⟩ := h
  obtain ⟨j5, hj6, h⟩ := h
  refine z_iald (j := j5) hf4.1 hf4.2 hj6.1 hj6.2.1 hj6.2.2 dX11_dueOf_6 ?_
  refine z_aload_n 0 dX11_dueOf_7 rfl rfl ?_
  refine z_aload_n 0 dX11_dueOf_8 rfl rfl ?_
  refine z_getQ (c := 11) (j := 14) (f := 1114) hf1.1 hf1.2 (Nat.le_of_ble_eq_true rfl) rfl zU_X11 (Nat.le_of_ble_eq_true rfl) (Nat.le_of_ble_eq_true rfl) ⟨_, zw_1312, Or.inl rfl⟩ rfl rfl dX11_dueOf_9 ?_
  refine z_aload_n 0 dX11_dueOf_12 rfl rfl ?_
  refine z_getQ (c := 11) (j := 34) (f := 1134) hf1.1 hf1.2 (Nat.le_of_ble_eq_true rfl) rfl zU_X11 (Nat.le_of_ble_eq_true rfl) (Nat.le_of_ble_eq_true rfl) ⟨_, zw_1332, Or.inl rfl⟩ rfl rfl dX11_dueOf_13 ?_
  refine z_iload_n 1 dX11_dueOf_16 rfl rfl ?_
  obtain ⟨b7, hb8, h⟩ := h
  rw [show va_rf (gR S 1134 a0) = Value.ref b7 from by rw [hb8]; rfl]
  obtain ⟨hf9, h⟩ := h
  obtain ⟨j10, hj11, h⟩ := h
  refine z_iald (j := j10) hf9.1 hf9.2 hj11.1 hj11.2.1 hj11.2.2 dX11_dueOf_17 ?_
  obtain ⟨b12, hb13, h⟩ := h
  rw [show va_rf (gR S 1114 a0) = Value.ref b12 from by rw [hb13]; rfl]
  obtain ⟨hf14, h⟩ := h
  obtain ⟨j15, hj16, h⟩ := h
  refine z_iald (j := j15) hf14.1 hf14.2 hj16.1 hj16.2.1 hj16.2.2 dX11_dueOf_18 ?_
  refine z_iload_n 1 dX11_dueOf_19 rfl rfl ?_
  refine z_callVI (ci := 11) (st := [.int (gA S b2 j5), .ref a0]) (w_X11_placeIn h) hf1.1 hf1.2 (Nat.le_of_ble_eq_true rfl) rfl zw_1744 zw_1741 zw_1743 zw_60 zw_74 zy_X11_placeIn rfl rfl ⟨Nat.le_of_ble_eq_true rfl, Nat.le_of_ble_eq_true rfl⟩ ⟨(Nat.le_of_ble_eq_true rfl), (Nat.le_of_ble_eq_true rfl)⟩ (Nat.le_of_ble_eq_true rfl) dX11_dueOf_20 (fun _ _ hx => hx.elim) (fun r18 S17 h => ?_)
  refine z_widen (k' := 0) (n' := 0) (Nat.le_refl _) (Nat.le_refl _) ?_
  obtain ⟨hf21, h⟩ := h
  refine z_callVI (ci := 11) (st := []) (w_X11_dueAt h) hf21.1 hf21.2 (Nat.le_of_ble_eq_true rfl) rfl zw_1711 zw_1708 zw_1710 zw_55 zw_74 zy_X11_dueAt rfl rfl ⟨Nat.le_of_ble_eq_true rfl, Nat.le_of_ble_eq_true rfl⟩ ⟨(Nat.le_of_ble_eq_true rfl), (Nat.le_of_ble_eq_true rfl)⟩ (Nat.le_of_ble_eq_true rfl) dX11_dueOf_23 (fun _ _ hx => hx.elim) (fun r20 S19 h => ?_)
  refine z_widen (k' := 0) (n' := 0) (Nat.le_refl _) (Nat.le_refl _) ?_
  exact z_ireturn ⟨rfl, _, rfl, h⟩ rfl (Nat.le_of_ble_eq_true rfl) (Nat.le_of_ble_eq_true rfl) dX11_dueOf_26
set_option maxRecDepth 20000 in
set_option maxHeartbeats 4000000 in
theorem w_X11_pull_J205 {E : zE}  {Q : Int32 → zS → Prop} {X : String → zS → Prop}  (a0 : Nat) (l1 : Int32) (l2 : Int32) (l3 : Int32) (g6 : Int64) (l100 : Int32) (l101 : Int32) (l102 : Int32) (a103 : Nat) (S : zS) (h : p_X11_pull_J205 E  Q X a0 l1 l2 l3 g6 l100 l101 l102 a103 S) : zJ E (RX11, cX11_pull, 9, (some .int), false, [], zTr) ({ frames := 8, cells := 0, slots := 0, locals := 185 } : Room) (zq (qI Q)) (zx X) 205 [(0, .ref a0), (1, .int l1), (2, .int l2), (3, .int l3), (6, .long g6)] [.int l100, .int l101, .int l102, .ref a103] [] S 0 0 := by
  unfold p_X11_pull_J205 at h
  refine z_iadd dX11_pull_205 ?_
  obtain ⟨hf46, h⟩ := h
  obtain ⟨j47, hj48, h⟩ := h
  have h := h _ rfl
  refine z_iast (j := j47) hf46.1 hf46.2 hj48.1 hj48.2.1 hj48.2.2 dX11_pull_206 ?_
  obtain ⟨S49, hS50⟩ : ∃ z, z = sA S a103 j47 (l101 + l100) := ⟨_, rfl⟩
  rw [← hS50] at h ⊢
  have hf46 : a103 ∈ gL S49 ∧ gK S49 a103 = 12 := by rw [hS50]; exact hf46
  refine z_aload_n 0 dX11_pull_207 rfl rfl ?_
  refine z_lload 4 dX11_pull_208 rfl ?_
  refine z_l2i dX11_pull_210 rfl ?_
  obtain ⟨hf51, h⟩ := h
  have h := h _ rfl
  refine z_putV (c := 11) (j := 32) (ty0 := tyX11) (S' := sI S49 1132 a0 (g6).toInt32) hf51.1 hf51.2 (Nat.le_of_ble_eq_true rfl) rfl zU_X11 tyX11_ok nmX11 (Nat.le_of_ble_eq_true rfl) (Nat.le_of_ble_eq_true rfl) ⟨_, zw_1330, Or.inl rfl⟩ (.inl rfl) rfl rfl rfl (zUpI (v := (g6).toInt32) hf51.2 (Nat.le_of_ble_eq_true rfl) (Nat.le_of_ble_eq_true rfl) rfl rfl) dX11_pull_211 ?_
  obtain ⟨S52, hS53⟩ : ∃ z, z = sI S49 1132 a0 (g6).toInt32 := ⟨_, rfl⟩
  rw [← hS53] at h ⊢
  have hf51 : a0 ∈ gL S52 ∧ gK S52 a0 = 11 := by rw [hS53]; exact hf51
  have hf46 : a103 ∈ gL S52 ∧ gK S52 a103 = 12 := by rw [hS53]; exact hf46
  refine z_aload_n 0 dX11_pull_214 rfl rfl ?_
  refine z_getQ (c := 11) (j := 35) (f := 1135) hf51.1 hf51.2 (Nat.le_of_ble_eq_true rfl) rfl zU_X11 (Nat.le_of_ble_eq_true rfl) (Nat.le_of_ble_eq_true rfl) ⟨_, zw_1333, Or.inl rfl⟩ rfl rfl dX11_pull_215 ?_
  refine z_sipush (v := 240) dX11_pull_218 rfl ?_
  refine z_iload_n 1 dX11_pull_221 rfl rfl ?_
  refine z_imul dX11_pull_222 ?_
  refine z_aload_n 0 dX11_pull_223 rfl rfl ?_
  refine z_getQ (c := 11) (j := 34) (f := 1134) hf51.1 hf51.2 (Nat.le_of_ble_eq_true rfl) rfl zU_X11 (Nat.le_of_ble_eq_true rfl) (Nat.le_of_ble_eq_true rfl) ⟨_, zw_1332, Or.inl rfl⟩ rfl rfl dX11_pull_224 ?_
  refine z_iload_n 1 dX11_pull_227 rfl rfl ?_
  obtain ⟨b54, hb55, h⟩ := h
  rw [show va_rf (gR S52 1134 a0) = Value.ref b54 from by rw [hb55]; rfl]
  obtain ⟨hf56, h⟩ := h
  obtain ⟨j57, hj58, h⟩ := h
  refine z_iald (j := j57) hf56.1 hf56.2 hj58.1 hj58.2.1 hj58.2.2 dX11_pull_228 ?_
  refine z_iadd dX11_pull_229 ?_
  refine z_iload_n 2 dX11_pull_230 rfl rfl ?_
  obtain ⟨b59, hb60, h⟩ := h
  rw [show va_rf (gR S52 1135 a0) = Value.ref b59 from by rw [hb60]; rfl]
  obtain ⟨hf61, h⟩ := h
  obtain ⟨j62, hj63, h⟩ := h
  have h := h _ rfl
  refine z_iast (j := j62) hf61.1 hf61.2 hj63.1 hj63.2.1 hj63.2.2 dX11_pull_231 ?_
  obtain ⟨S64, hS65⟩ : ∃ z, z = sA S52 b59 j62 l2 := ⟨_, rfl⟩
  rw [← hS65] at h ⊢
  have hf51 : a0 ∈ gL S64 ∧ gK S64 a0 = 11 := by rw [hS65]; exact hf51
  have hf46 : a103 ∈ gL S64 ∧ gK S64 a103 = 12 := by rw [hS65]; exact hf46
  have hf56 : b54 ∈ gL S64 ∧ gK S64 b54 = 12 := by rw [hS65]; exact hf56
  have hf61 : b59 ∈ gL S64 ∧ gK S64 b59 = 12 := by rw [hS65]; exact hf61
  refine z_aload_n 0 dX11_pull_232 rfl rfl ?_
  refine z_iload_n 1 dX11_pull_233 rfl rfl ?_
  refine z_aload_n 0 dX11_pull_234 rfl rfl ?_
  refine z_getQ (c := 11) (j := 34) (f := 1134) hf51.1 hf51.2 (Nat.le_of_ble_eq_true rfl) rfl zU_X11 (Nat.le_of_ble_eq_true rfl) (Nat.le_of_ble_eq_true rfl) ⟨_, zw_1332, Or.inl rfl⟩ rfl rfl dX11_pull_235 ?_
  refine z_iload_n 1 dX11_pull_238 rfl rfl ?_
  obtain ⟨b66, hb67, h⟩ := h
  rw [show va_rf (gR S64 1134 a0) = Value.ref b66 from by rw [hb67]; rfl]
  obtain ⟨hf68, h⟩ := h
  obtain ⟨j69, hj70, h⟩ := h
  refine z_iald (j := j69) hf68.1 hf68.2 hj70.1 hj70.2.1 hj70.2.2 dX11_pull_239 ?_
  refine z_callVV (ci := 11) (st := []) (w_X11_blows h) hf51.1 hf51.2 (Nat.le_of_ble_eq_true rfl) rfl zw_1715 zw_1712 zw_1714 zw_56 zw_74 zy_X11_blows rfl rfl ⟨Nat.le_of_ble_eq_true rfl, Nat.le_of_ble_eq_true rfl⟩ ⟨(Nat.le_of_ble_eq_true rfl), (Nat.le_of_ble_eq_true rfl)⟩ (Nat.le_of_ble_eq_true rfl) dX11_pull_240 (fun _ _ hx => hx.elim) (fun S71 h => ?_)
  refine z_widen (k' := 0) (n' := 0) (Nat.le_refl _) (Nat.le_refl _) ?_
  refine z_aload_n 0 dX11_pull_243 rfl rfl ?_
  obtain ⟨hf73, h⟩ := h
  refine z_getQ (c := 11) (j := 34) (f := 1134) hf73.1 hf73.2 (Nat.le_of_ble_eq_true rfl) rfl zU_X11 (Nat.le_of_ble_eq_true rfl) (Nat.le_of_ble_eq_true rfl) ⟨_, zw_1332, Or.inl rfl⟩ rfl rfl dX11_pull_244 ?_
  refine z_iload_n 1 dX11_pull_247 rfl rfl ?_
  refine z_dup2 dX11_pull_248 rfl (zcat _) ?_
  obtain ⟨b74, hb75, h⟩ := h
  rw [show va_rf (gR S71 1134 a0) = Value.ref b74 from by rw [hb75]; rfl]
  obtain ⟨hf76, h⟩ := h
  obtain ⟨j77, hj78, h⟩ := h
  refine z_iald (j := j77) hf76.1 hf76.2 hj78.1 hj78.2.1 hj78.2.2 dX11_pull_249 ?_
  refine z_iconst (v := 1) dX11_pull_250 rfl ?_
  refine z_iadd dX11_pull_251 ?_
  obtain ⟨j79, hj80, h⟩ := h
  have h := h _ rfl
  refine z_iast (j := j79) hf76.1 hf76.2 hj80.1 hj80.2.1 hj80.2.2 dX11_pull_252 ?_
  obtain ⟨S81, hS82⟩ : ∃ z, z = sA S71 b74 j79 ((gA S71 b74 j77) + 1) := ⟨_, rfl⟩
  rw [← hS82] at h ⊢
  have hf73 : a0 ∈ gL S81 ∧ gK S81 a0 = 11 := by rw [hS82]; exact hf73
  have hf76 : b74 ∈ gL S81 ∧ gK S81 b74 = 12 := by rw [hS82]; exact hf76
  refine z_aload_n 0 dX11_pull_253 rfl rfl ?_
  refine z_callVI (ci := 11) (st := []) (w_X11_goesOn h) hf73.1 hf73.2 (Nat.le_of_ble_eq_true rfl) rfl zw_1695 zw_1692 zw_1694 zw_51 zw_74 zy_X11_goesOn rfl rfl ⟨Nat.le_of_ble_eq_true rfl, Nat.le_of_ble_eq_true rfl⟩ ⟨(Nat.le_of_ble_eq_true rfl), (Nat.le_of_ble_eq_true rfl)⟩ (Nat.le_of_ble_eq_true rfl) dX11_pull_254 (fun _ _ hx => hx.elim) (fun r84 S83 h => ?_)
  refine z_widen (k' := 0) (n' := 0) (Nat.le_refl _) (Nat.le_refl _) ?_
  refine z_istore (lv' := [(8, .int r84), (0, .ref a0), (1, .int l1), (2, .int l2), (3, .int l3), (6, .long g6)]) dX11_pull_257 (Nat.le_of_ble_eq_true rfl) rfl ?_
  refine z_iload 0 dX11_pull_259 rfl ?_
  refine z_if_ge 268 dX11_pull_261 (by decide) (fun c85 => ?_) (fun c85 => ?_)
  · have h := h.1 c85
    refine z_iload_n 4 dX11_pull_268 rfl rfl ?_
    exact z_ireturn ⟨rfl, _, rfl, h⟩ rfl (Nat.le_of_ble_eq_true rfl) (Nat.le_of_ble_eq_true rfl) dX11_pull_269
  · have h := h.2 c85
    refine z_iconst (v := 0) dX11_pull_264 rfl ?_
    refine z_goto 269 dX11_pull_265 (by decide) ?_
    exact z_ireturn ⟨rfl, _, rfl, h⟩ rfl (Nat.le_of_ble_eq_true rfl) (Nat.le_of_ble_eq_true rfl) dX11_pull_269
set_option maxRecDepth 20000 in
set_option maxHeartbeats 4000000 in
theorem w_X11_pull_J180 {E : zE}  {Q : Int32 → zS → Prop} {X : String → zS → Prop}  (a0 : Nat) (l1 : Int32) (l2 : Int32) (l3 : Int32) (g6 : Int64) (l100 : Int32) (l101 : Int32) (l102 : Int32) (a103 : Nat) (S : zS) (h : p_X11_pull_J180 E  Q X a0 l1 l2 l3 g6 l100 l101 l102 a103 S) : zJ E (RX11, cX11_pull, 9, (some .int), false, [], zTr) ({ frames := 8, cells := 0, slots := 0, locals := 185 } : Room) (zq (qI Q)) (zx X) 180 [(0, .ref a0), (1, .int l1), (2, .int l2), (3, .int l3), (6, .long g6)] [.int l100, .int l101, .int l102, .ref a103] [] S 0 0 := by
  unfold p_X11_pull_J180 at h
  refine z_iadd dX11_pull_180 ?_
  obtain ⟨hf35, h⟩ := h
  obtain ⟨j36, hj37, h⟩ := h
  have h := h _ rfl
  refine z_iast (j := j36) hf35.1 hf35.2 hj37.1 hj37.2.1 hj37.2.2 dX11_pull_181 ?_
  obtain ⟨S38, hS39⟩ : ∃ z, z = sA S a103 j36 (l101 + l100) := ⟨_, rfl⟩
  rw [← hS39] at h ⊢
  have hf35 : a103 ∈ gL S38 ∧ gK S38 a103 = 12 := by rw [hS39]; exact hf35
  refine z_aload_n 0 dX11_pull_182 rfl rfl ?_
  obtain ⟨hf40, h⟩ := h
  refine z_getQ (c := 11) (j := 37) (f := 1137) hf40.1 hf40.2 (Nat.le_of_ble_eq_true rfl) rfl zU_X11 (Nat.le_of_ble_eq_true rfl) (Nat.le_of_ble_eq_true rfl) ⟨_, zw_1335, Or.inl rfl⟩ rfl rfl dX11_pull_183 ?_
  refine z_iload_n 1 dX11_pull_186 rfl rfl ?_
  refine z_dup2 dX11_pull_187 rfl (zcat _) ?_
  obtain ⟨b41, hb42, h⟩ := h
  rw [show va_rf (gR S38 1137 a0) = Value.ref b41 from by rw [hb42]; rfl]
  obtain ⟨hf43, h⟩ := h
  obtain ⟨j44, hj45, h⟩ := h
  refine z_iald (j := j44) hf43.1 hf43.2 hj45.1 hj45.2.1 hj45.2.2 dX11_pull_188 ?_
  refine z_iload_n 3 dX11_pull_189 rfl rfl ?_
  refine z_aload_n 0 dX11_pull_190 rfl rfl ?_
  refine z_getI (c := 11) (j := 30) (f := 1130) hf40.1 hf40.2 (Nat.le_of_ble_eq_true rfl) rfl zU_X11 (Nat.le_of_ble_eq_true rfl) (Nat.le_of_ble_eq_true rfl) ⟨_, zw_1328, Or.inl rfl⟩ rfl rfl dX11_pull_191 ?_
  refine z_iconst (v := 4) dX11_pull_194 rfl ?_
  refine z_idiv dX11_pull_195 (by decide) ?_
  refine z_ineg dX11_pull_196 ?_
  refine z_icmp_ge 204 dX11_pull_197 (by decide) (fun c89 => ?_) (fun c89 => ?_)
  · have h := h.1 c89
    refine z_iconst (v := 0) dX11_pull_204 rfl ?_
    refine w_X11_pull_J205 a0 l1 l2 l3 g6 0 (gA S38 b41 j44) l1 b41 S38 h
  · have h := h.2 c89
    refine z_iconst (v := 1) dX11_pull_200 rfl ?_
    refine z_goto 205 dX11_pull_201 (by decide) ?_
    refine w_X11_pull_J205 a0 l1 l2 l3 g6 1 (gA S38 b41 j44) l1 b41 S38 h
set_option maxRecDepth 20000 in
set_option maxHeartbeats 4000000 in
theorem w_X11_pull_J137 {E : zE}  {Q : Int32 → zS → Prop} {X : String → zS → Prop}  (a0 : Nat) (l1 : Int32) (l2 : Int32) (l3 : Int32) (g4 : Int64) (g6 : Int64) (l100 : Int32) (a101 : Nat) (S : zS) (h : p_X11_pull_J137 E  Q X a0 l1 l2 l3 g4 g6 l100 a101 S) : zJ E (RX11, cX11_pull, 9, (some .int), false, [], zTr) ({ frames := 8, cells := 0, slots := 0, locals := 185 } : Room) (zq (qI Q)) (zx X) 137 [(0, .ref a0), (1, .int l1), (2, .int l2), (3, .int l3), (4, .long g4), (6, .long g6)] [.int l100, .ref a101] [] S 0 0 := by
  unfold p_X11_pull_J137 at h
  obtain ⟨hf19, h⟩ := h
  have h := h _ rfl
  refine z_putV (c := 11) (j := 0) (ty0 := tyX11) (S' := sI S 1100 a101 l100) hf19.1 hf19.2 (Nat.le_of_ble_eq_true rfl) rfl zU_X11 tyX11_ok nmX11 (Nat.le_of_ble_eq_true rfl) (Nat.le_of_ble_eq_true rfl) ⟨_, zw_1298, Or.inl rfl⟩ (.inl rfl) rfl rfl rfl (zUpI (v := l100) hf19.2 (Nat.le_of_ble_eq_true rfl) (Nat.le_of_ble_eq_true rfl) rfl rfl) dX11_pull_137 ?_
  obtain ⟨S20, hS21⟩ : ∃ z, z = sI S 1100 a101 l100 := ⟨_, rfl⟩
  rw [← hS21] at h ⊢
  have hf19 : a101 ∈ gL S20 ∧ gK S20 a101 = 11 := by rw [hS21]; exact hf19
  refine z_aload_n 0 dX11_pull_140 rfl rfl ?_
  obtain ⟨hf22, h⟩ := h
  refine z_getI (c := 11) (j := 0) (f := 1100) hf22.1 hf22.2 (Nat.le_of_ble_eq_true rfl) rfl zU_X11 (Nat.le_of_ble_eq_true rfl) (Nat.le_of_ble_eq_true rfl) ⟨_, zw_1298, Or.inl rfl⟩ rfl rfl dX11_pull_141 ?_
  refine z_if_le 149 dX11_pull_144 (by decide) (fun c93 => ?_) (fun c93 => ?_)
  · have h := h.1 c93
    refine z_aload_n 0 dX11_pull_149 rfl rfl ?_
    refine z_getQ (c := 11) (j := 38) (f := 1138) hf22.1 hf22.2 (Nat.le_of_ble_eq_true rfl) rfl zU_X11 (Nat.le_of_ble_eq_true rfl) (Nat.le_of_ble_eq_true rfl) ⟨_, zw_1336, Or.inl rfl⟩ rfl rfl dX11_pull_150 ?_
    refine z_iload_n 1 dX11_pull_153 rfl rfl ?_
    refine z_lload 4 dX11_pull_154 rfl ?_
    refine z_l2i dX11_pull_156 rfl ?_
    obtain ⟨b23, hb24, h⟩ := h
    rw [show va_rf (gR S20 1138 a0) = Value.ref b23 from by rw [hb24]; rfl]
    obtain ⟨hf25, h⟩ := h
    obtain ⟨j26, hj27, h⟩ := h
    have h := h _ rfl
    refine z_iast (j := j26) hf25.1 hf25.2 hj27.1 hj27.2.1 hj27.2.2 dX11_pull_157 ?_
    obtain ⟨S28, hS29⟩ : ∃ z, z = sA S20 b23 j26 (g4).toInt32 := ⟨_, rfl⟩
    rw [← hS29] at h ⊢
    have hf22 : a0 ∈ gL S28 ∧ gK S28 a0 = 11 := by rw [hS29]; exact hf22
    have hf19 : a101 ∈ gL S28 ∧ gK S28 a101 = 11 := by rw [hS29]; exact hf19
    have hf25 : b23 ∈ gL S28 ∧ gK S28 b23 = 12 := by rw [hS29]; exact hf25
    refine z_aload_n 0 dX11_pull_158 rfl rfl ?_
    refine z_getQ (c := 11) (j := 36) (f := 1136) hf22.1 hf22.2 (Nat.le_of_ble_eq_true rfl) rfl zU_X11 (Nat.le_of_ble_eq_true rfl) (Nat.le_of_ble_eq_true rfl) ⟨_, zw_1334, Or.inl rfl⟩ rfl rfl dX11_pull_159 ?_
    refine z_iload_n 1 dX11_pull_162 rfl rfl ?_
    refine z_dup2 dX11_pull_163 rfl (zcat _) ?_
    obtain ⟨b30, hb31, h⟩ := h
    rw [show va_rf (gR S28 1136 a0) = Value.ref b30 from by rw [hb31]; rfl]
    obtain ⟨hf32, h⟩ := h
    obtain ⟨j33, hj34, h⟩ := h
    refine z_iald (j := j33) hf32.1 hf32.2 hj34.1 hj34.2.1 hj34.2.2 dX11_pull_164 ?_
    refine z_iload_n 3 dX11_pull_165 rfl rfl ?_
    refine z_aload_n 0 dX11_pull_166 rfl rfl ?_
    refine z_getI (c := 11) (j := 30) (f := 1130) hf22.1 hf22.2 (Nat.le_of_ble_eq_true rfl) rfl zU_X11 (Nat.le_of_ble_eq_true rfl) (Nat.le_of_ble_eq_true rfl) ⟨_, zw_1328, Or.inl rfl⟩ rfl rfl dX11_pull_167 ?_
    refine z_iconst (v := 4) dX11_pull_170 rfl ?_
    refine z_idiv dX11_pull_171 (by decide) ?_
    refine z_icmp_le 179 dX11_pull_172 (by decide) (fun c91 => ?_) (fun c91 => ?_)
    · have h := h.1 c91
      refine z_iconst (v := 0) dX11_pull_179 rfl ?_
      refine z_sub [0, 1, 2, 3, 5] rfl ?_
      refine w_X11_pull_J180 a0 l1 l2 l3 g6 0 (gA S28 b30 j33) l1 b30 S28 h
    · have h := h.2 c91
      refine z_iconst (v := 1) dX11_pull_175 rfl ?_
      refine z_goto 180 dX11_pull_176 (by decide) ?_
      refine z_sub [0, 1, 2, 3, 5] rfl ?_
      refine w_X11_pull_J180 a0 l1 l2 l3 g6 1 (gA S28 b30 j33) l1 b30 S28 h
  · have h := h.2 c93
    refine z_iconst (v := 0) dX11_pull_147 rfl ?_
    exact z_ireturn ⟨rfl, _, rfl, h⟩ rfl (Nat.le_of_ble_eq_true rfl) (Nat.le_of_ble_eq_true rfl) dX11_pull_148
set_option maxRecDepth 20000 in
set_option maxHeartbeats 4000000 in
theorem w_X11_pull_J132 {E : zE}  {Q : Int32 → zS → Prop} {X : String → zS → Prop}  (a0 : Nat) (l1 : Int32) (l2 : Int32) (l3 : Int32) (g4 : Int64) (g6 : Int64) (a100 : Nat) (S : zS) (h : p_X11_pull_J132 E  Q X a0 l1 l2 l3 g4 g6 a100 S) : zJ E (RX11, cX11_pull, 9, (some .int), false, [], zTr) ({ frames := 8, cells := 0, slots := 0, locals := 185 } : Room) (zq (qI Q)) (zx X) 132 [(0, .ref a0), (1, .int l1), (2, .int l2), (3, .int l3), (4, .long g4), (6, .long g6)] [.ref a100] [] S 0 0 := by
  unfold p_X11_pull_J132 at h
  refine z_iconst (v := 3) dX11_pull_132 rfl ?_
  refine z_goto 137 dX11_pull_133 (by decide) ?_
  refine w_X11_pull_J137 a0 l1 l2 l3 g4 g6 3 a100 S h
set_option maxRecDepth 20000 in
set_option maxHeartbeats 4000000 in
theorem w_X11_pull_J102 {E : zE}  {Q : Int32 → zS → Prop} {X : String → zS → Prop}  (a0 : Nat) (l1 : Int32) (l2 : Int32) (l3 : Int32) (g4 : Int64) (g100 : Int64) (S : zS) (h : p_X11_pull_J102 E  Q X a0 l1 l2 l3 g4 g100 S) : zJ E (RX11, cX11_pull, 9, (some .int), false, [], zTr) ({ frames := 8, cells := 0, slots := 0, locals := 185 } : Room) (zq (qI Q)) (zx X) 102 [(0, .ref a0), (1, .int l1), (2, .int l2), (3, .int l3), (4, .long g4)] [.long g100] [] S 0 0 := by
  unfold p_X11_pull_J102 at h
  refine z_lstore (lv' := [(6, .long g100), (0, .ref a0), (1, .int l1), (2, .int l2), (3, .int l3), (4, .long g4)]) dX11_pull_102 (Nat.le_of_ble_eq_true rfl) rfl ?_
  refine z_aload_n 1 dX11_pull_104 rfl rfl ?_
  refine z_lload 5 dX11_pull_105 rfl ?_
  refine z_ldc2 zw_1745 dX11_pull_107 ?_
  refine z_lcmp dX11_pull_110 ?_
  refine z_if_lt 132 dX11_pull_111 (by decide) (fun c96 => ?_) (fun c96 => ?_)
  · have h := h.1 c96
    refine z_sub [1, 2, 3, 4, 5, 0] rfl ?_
    refine w_X11_pull_J132 a0 l1 l2 l3 g4 g100 a0 S h
  · have h := h.2 c96
    refine z_lload 5 dX11_pull_114 rfl ?_
    refine z_ldc2 zw_1746 dX11_pull_116 ?_
    refine z_lcmp dX11_pull_119 ?_
    refine z_if_gt 132 dX11_pull_120 (by decide) (fun c95 => ?_) (fun c95 => ?_)
    · have h := h.1 c95
      refine z_sub [1, 2, 3, 4, 5, 0] rfl ?_
      refine w_X11_pull_J132 a0 l1 l2 l3 g4 g100 a0 S h
    · have h := h.2 c95
      refine z_lload 0 dX11_pull_123 rfl ?_
      refine z_ldc2 zw_1747 dX11_pull_125 ?_
      refine z_lcmp dX11_pull_128 ?_
      refine z_if_le 136 dX11_pull_129 (by decide) (fun c94 => ?_) (fun c94 => ?_)
      · have h := h.1 c94
        refine z_iconst (v := 0) dX11_pull_136 rfl ?_
        refine z_sub [1, 2, 3, 4, 5, 0] rfl ?_
        refine w_X11_pull_J137 a0 l1 l2 l3 g4 g100 0 a0 S h
      · have h := h.2 c94
        refine z_sub [1, 2, 3, 4, 5, 0] rfl ?_
        refine w_X11_pull_J132 a0 l1 l2 l3 g4 g100 a0 S h
set_option maxRecDepth 20000 in
set_option maxHeartbeats 4000000 in
theorem w_X11_pull_J40 {E : zE}  {Q : Int32 → zS → Prop} {X : String → zS → Prop}  (a0 : Nat) (l1 : Int32) (l2 : Int32) (l100 : Int32) (a101 : Nat) (S : zS) (h : p_X11_pull_J40 E  Q X a0 l1 l2 l100 a101 S) : zJ E (RX11, cX11_pull, 9, (some .int), false, [], zTr) ({ frames := 8, cells := 0, slots := 0, locals := 185 } : Room) (zq (qI Q)) (zx X) 40 [(0, .ref a0), (1, .int l1), (2, .int l2)] [.int l100, .ref a101] [] S 0 0 := by
  unfold p_X11_pull_J40 at h
  obtain ⟨hf7, h⟩ := h
  have h := h _ rfl
  refine z_putV (c := 11) (j := 0) (ty0 := tyX11) (S' := sI S 1100 a101 l100) hf7.1 hf7.2 (Nat.le_of_ble_eq_true rfl) rfl zU_X11 tyX11_ok nmX11 (Nat.le_of_ble_eq_true rfl) (Nat.le_of_ble_eq_true rfl) ⟨_, zw_1298, Or.inl rfl⟩ (.inl rfl) rfl rfl rfl (zUpI (v := l100) hf7.2 (Nat.le_of_ble_eq_true rfl) (Nat.le_of_ble_eq_true rfl) rfl rfl) dX11_pull_40 ?_
  obtain ⟨S8, hS9⟩ : ∃ z, z = sI S 1100 a101 l100 := ⟨_, rfl⟩
  rw [← hS9] at h ⊢
  have hf7 : a101 ∈ gL S8 ∧ gK S8 a101 = 11 := by rw [hS9]; exact hf7
  refine z_aload_n 0 dX11_pull_43 rfl rfl ?_
  obtain ⟨hf10, h⟩ := h
  refine z_getI (c := 11) (j := 0) (f := 1100) hf10.1 hf10.2 (Nat.le_of_ble_eq_true rfl) rfl zU_X11 (Nat.le_of_ble_eq_true rfl) (Nat.le_of_ble_eq_true rfl) ⟨_, zw_1298, Or.inl rfl⟩ rfl rfl dX11_pull_44 ?_
  refine z_if_le 52 dX11_pull_47 (by decide) (fun c98 => ?_) (fun c98 => ?_)
  · have h := h.1 c98
    refine z_iload_n 2 dX11_pull_52 rfl rfl ?_
    refine z_aload_n 0 dX11_pull_53 rfl rfl ?_
    refine z_iload_n 1 dX11_pull_54 rfl rfl ?_
    refine z_callVI (ci := 11) (st := [.int l2]) (w_X11_dueOf h) hf10.1 hf10.2 (Nat.le_of_ble_eq_true rfl) rfl zw_1740 zw_1737 zw_1739 zw_59 zw_74 zy_X11_dueOf rfl rfl ⟨Nat.le_of_ble_eq_true rfl, Nat.le_of_ble_eq_true rfl⟩ ⟨(Nat.le_of_ble_eq_true rfl), (Nat.le_of_ble_eq_true rfl)⟩ (Nat.le_of_ble_eq_true rfl) dX11_pull_55 (fun _ _ hx => hx.elim) (fun r12 S11 h => ?_)
    refine z_widen (k' := 0) (n' := 0) (Nat.le_refl _) (Nat.le_refl _) ?_
    refine z_isub dX11_pull_58 ?_
    refine z_istore_n (lv' := [(3, .int (l2 - r12)), (0, .ref a0), (1, .int l1), (2, .int l2)]) dX11_pull_59 rfl (Nat.le_of_ble_eq_true rfl) rfl ?_
    refine z_aload_n 1 dX11_pull_60 rfl rfl ?_
    obtain ⟨hf13, h⟩ := h
    refine z_getQ (c := 11) (j := 38) (f := 1138) hf13.1 hf13.2 (Nat.le_of_ble_eq_true rfl) rfl zU_X11 (Nat.le_of_ble_eq_true rfl) (Nat.le_of_ble_eq_true rfl) ⟨_, zw_1336, Or.inl rfl⟩ rfl rfl dX11_pull_61 ?_
    refine z_iload_n 2 dX11_pull_64 rfl rfl ?_
    obtain ⟨b14, hb15, h⟩ := h
    rw [show va_rf (gR S11 1138 a0) = Value.ref b14 from by rw [hb15]; rfl]
    obtain ⟨hf16, h⟩ := h
    obtain ⟨j17, hj18, h⟩ := h
    refine z_iald (j := j17) hf16.1 hf16.2 hj18.1 hj18.2.1 hj18.2.2 dX11_pull_65 ?_
    refine z_i2l dX11_pull_66 rfl ?_
    refine z_iload_n 0 dX11_pull_67 rfl rfl ?_
    refine z_i2l dX11_pull_68 rfl ?_
    refine z_ladd dX11_pull_69 ?_
    refine z_lstore (lv' := [(4, .long ((gA S11 b14 j17).toInt64 + (l2 - r12).toInt64)), (3, .int (l2 - r12)), (0, .ref a0), (1, .int l1), (2, .int l2)]) dX11_pull_70 (Nat.le_of_ble_eq_true rfl) rfl ?_
    refine z_iload_n 1 dX11_pull_72 rfl rfl ?_
    refine z_aload_n 2 dX11_pull_73 rfl rfl ?_
    refine z_getI (c := 11) (j := 33) (f := 1133) hf13.1 hf13.2 (Nat.le_of_ble_eq_true rfl) rfl zU_X11 (Nat.le_of_ble_eq_true rfl) (Nat.le_of_ble_eq_true rfl) ⟨_, zw_1331, Or.inl rfl⟩ rfl rfl dX11_pull_74 ?_
    refine z_icmp_le 97 dX11_pull_77 (by decide) (fun c97 => ?_) (fun c97 => ?_)
    · have h := h.1 c97
      refine z_aload_n 2 dX11_pull_97 rfl rfl ?_
      refine z_getI (c := 11) (j := 32) (f := 1132) hf13.1 hf13.2 (Nat.le_of_ble_eq_true rfl) rfl zU_X11 (Nat.le_of_ble_eq_true rfl) (Nat.le_of_ble_eq_true rfl) ⟨_, zw_1330, Or.inl rfl⟩ rfl rfl dX11_pull_98 ?_
      refine z_i2l dX11_pull_101 rfl ?_
      refine z_sub [2, 3, 4, 1, 0] rfl ?_
      refine w_X11_pull_J102 a0 l1 l2 (l2 - r12) ((gA S11 b14 j17).toInt64 + (l2 - r12).toInt64) ((gI S11 1132 a0).toInt64) S11 h
    · have h := h.2 c97
      refine z_aload_n 2 dX11_pull_80 rfl rfl ?_
      refine z_getI (c := 11) (j := 32) (f := 1132) hf13.1 hf13.2 (Nat.le_of_ble_eq_true rfl) rfl zU_X11 (Nat.le_of_ble_eq_true rfl) (Nat.le_of_ble_eq_true rfl) ⟨_, zw_1330, Or.inl rfl⟩ rfl rfl dX11_pull_81 ?_
      refine z_i2l dX11_pull_84 rfl ?_
      refine z_iload_n 1 dX11_pull_85 rfl rfl ?_
      refine z_i2l dX11_pull_86 rfl ?_
      refine z_ladd dX11_pull_87 ?_
      refine z_aload_n 2 dX11_pull_88 rfl rfl ?_
      refine z_getI (c := 11) (j := 33) (f := 1133) hf13.1 hf13.2 (Nat.le_of_ble_eq_true rfl) rfl zU_X11 (Nat.le_of_ble_eq_true rfl) (Nat.le_of_ble_eq_true rfl) ⟨_, zw_1331, Or.inl rfl⟩ rfl rfl dX11_pull_89 ?_
      refine z_i2l dX11_pull_92 rfl ?_
      refine z_lsub dX11_pull_93 ?_
      refine z_goto 102 dX11_pull_94 (by decide) ?_
      refine z_sub [2, 3, 4, 1, 0] rfl ?_
      refine w_X11_pull_J102 a0 l1 l2 (l2 - r12) ((gA S11 b14 j17).toInt64 + (l2 - r12).toInt64) (((gI S11 1132 a0).toInt64 + (l2 - r12).toInt64) - (gI S11 1133 a0).toInt64) S11 h
  · have h := h.2 c98
    refine z_iconst (v := 0) dX11_pull_50 rfl ?_
    exact z_ireturn ⟨rfl, _, rfl, h⟩ rfl (Nat.le_of_ble_eq_true rfl) (Nat.le_of_ble_eq_true rfl) dX11_pull_51
set_option maxRecDepth 20000 in
set_option maxHeartbeats 4000000 in
theorem w_X11_pull {E : zE} {a0 : Nat} {l1 : Int32} {l2 : Int32} {S : zS} {Q : Int32 → zS → Prop} {X : String → zS → Prop} (h : p_X11_pull E a0 l1 l2 S Q X) : zM E yX11_pull cX11_pull 9 (some .int) ({ frames := 8, cells := 0, slots := 0, locals := 185 } : Room) [.ref a0, .int l1, .int l2] S (qI Q) X := by
  unfold p_X11_pull at h
  refine zM_of RX11 false (by decide) rfl (fun h => by cases h) (Nat.le_of_ble_eq_true rfl) ?_
  refine z_aload_n 0 dX11_pull_0 rfl rfl ?_
  refine z_iload_n 1 dX11_pull_1 rfl rfl ?_
  refine z_callSI (st := [.ref a0]) (w_X11_isBell h) zw_1623 zw_1621 zw_1622 zw_74 zy_X11_isBell rfl rfl ⟨Nat.le_of_ble_eq_true rfl, Nat.le_of_ble_eq_true rfl⟩ ⟨(Nat.le_of_ble_eq_true rfl), (Nat.le_of_ble_eq_true rfl)⟩ (Nat.le_of_ble_eq_true rfl) dX11_pull_2 (fun _ _ hx => hx.elim) (fun r2 S1 h => ?_)
  refine z_widen (k' := 0) (n' := 0) (Nat.le_refl _) (Nat.le_refl _) ?_
  refine z_if_ne 12 dX11_pull_5 (by decide) (fun c102 => ?_) (fun c102 => ?_)
  · have h := h.1 c102
    refine z_iload_n 2 dX11_pull_12 rfl rfl ?_
    refine z_iconst (v := 0) dX11_pull_13 rfl ?_
    refine z_ldcw zw_1732 dX11_pull_14 ?_
    refine z_callSI (st := [.ref a0]) (w_X11_in h) zw_1435 zw_1433 zw_1434 zw_74 zy_X11_in rfl rfl ⟨Nat.le_of_ble_eq_true rfl, Nat.le_of_ble_eq_true rfl⟩ ⟨(Nat.le_of_ble_eq_true rfl), (Nat.le_of_ble_eq_true rfl)⟩ (Nat.le_of_ble_eq_true rfl) dX11_pull_17 (fun _ _ hx => hx.elim) (fun r4 S3 h => ?_)
    refine z_widen (k' := 0) (n' := 0) (Nat.le_refl _) (Nat.le_refl _) ?_
    refine z_if_ne 27 dX11_pull_20 (by decide) (fun c101 => ?_) (fun c101 => ?_)
    · have h := h.1 c101
      refine z_aload_n 0 dX11_pull_27 rfl rfl ?_
      refine z_iload_n 1 dX11_pull_28 rfl rfl ?_
      obtain ⟨hf100, h⟩ := h
      refine z_callVI (ci := 11) (st := [.ref a0]) (w_X11_hasPull h) hf100.1 hf100.2 (Nat.le_of_ble_eq_true rfl) rfl zw_1736 zw_1733 zw_1735 zw_58 zw_74 zy_X11_hasPull rfl rfl ⟨Nat.le_of_ble_eq_true rfl, Nat.le_of_ble_eq_true rfl⟩ ⟨(Nat.le_of_ble_eq_true rfl), (Nat.le_of_ble_eq_true rfl)⟩ (Nat.le_of_ble_eq_true rfl) dX11_pull_29 (fun _ _ hx => hx.elim) (fun r6 S5 h => ?_)
      refine z_widen (k' := 0) (n' := 0) (Nat.le_refl _) (Nat.le_refl _) ?_
      refine z_if_eq 39 dX11_pull_32 (by decide) (fun c99 => ?_) (fun c99 => ?_)
      · have h := h.1 c99
        refine z_iconst (v := 3) dX11_pull_39 rfl ?_
        refine w_X11_pull_J40 a0 l1 l2 3 a0 S5 h
      · have h := h.2 c99
        refine z_iconst (v := 0) dX11_pull_35 rfl ?_
        refine z_goto 40 dX11_pull_36 (by decide) ?_
        refine w_X11_pull_J40 a0 l1 l2 0 a0 S5 h
    · have h := h.2 c101
      refine z_iconst (v := 2) dX11_pull_23 rfl ?_
      refine z_goto 40 dX11_pull_24 (by decide) ?_
      refine w_X11_pull_J40 a0 l1 l2 2 a0 S3 h
  · have h := h.2 c102
    refine z_iconst (v := 1) dX11_pull_8 rfl ?_
    refine z_goto 40 dX11_pull_9 (by decide) ?_
    refine w_X11_pull_J40 a0 l1 l2 1 a0 S1 h
set_option maxRecDepth 20000 in
set_option maxHeartbeats 4000000 in
theorem w_X11_due {E : zE} {a0 : Nat} {l1 : Int32} {S : zS} {Q : Int32 → zS → Prop} {X : String → zS → Prop} (h : p_X11_due E a0 l1 S Q X) : zM E yX11_due cX11_due 2 (some .int) ({ frames := 4, cells := 0, slots := 0, locals := 91 } : Room) [.ref a0, .int l1] S (qI Q) X := by
  unfold p_X11_due at h
  refine zM_of RX11 false (by decide) rfl (fun h => by cases h) (Nat.le_of_ble_eq_true rfl) ?_
  refine z_aload_n 0 dX11_due_0 rfl rfl ?_
  refine z_iload_n 1 dX11_due_1 rfl rfl ?_
  refine z_callSI (st := [.ref a0]) (w_X11_isBell h) zw_1623 zw_1621 zw_1622 zw_74 zy_X11_isBell rfl rfl ⟨Nat.le_of_ble_eq_true rfl, Nat.le_of_ble_eq_true rfl⟩ ⟨(Nat.le_of_ble_eq_true rfl), (Nat.le_of_ble_eq_true rfl)⟩ (Nat.le_of_ble_eq_true rfl) dX11_due_2 (fun _ _ hx => hx.elim) (fun r2 S1 h => ?_)
  refine z_widen (k' := 0) (n' := 0) (Nat.le_refl _) (Nat.le_refl _) ?_
  refine z_if_ne 12 dX11_due_5 (by decide) (fun c25 => ?_) (fun c25 => ?_)
  · have h := h.1 c25
    refine z_aload_n 0 dX11_due_12 rfl rfl ?_
    refine z_iload_n 1 dX11_due_13 rfl rfl ?_
    obtain ⟨hf18, h⟩ := h
    refine z_callVI (ci := 11) (st := [.ref a0]) (w_X11_hasPull h) hf18.1 hf18.2 (Nat.le_of_ble_eq_true rfl) rfl zw_1736 zw_1733 zw_1735 zw_58 zw_74 zy_X11_hasPull rfl rfl ⟨Nat.le_of_ble_eq_true rfl, Nat.le_of_ble_eq_true rfl⟩ ⟨(Nat.le_of_ble_eq_true rfl), (Nat.le_of_ble_eq_true rfl)⟩ (Nat.le_of_ble_eq_true rfl) dX11_due_14 (fun _ _ hx => hx.elim) (fun r4 S3 h => ?_)
    refine z_widen (k' := 0) (n' := 0) (Nat.le_refl _) (Nat.le_refl _) ?_
    refine z_if_eq 24 dX11_due_17 (by decide) (fun c17 => ?_) (fun c17 => ?_)
    · have h := h.1 c17
      refine z_iconst (v := 2) dX11_due_24 rfl ?_
      obtain ⟨hf5, h⟩ := h
      have h := h _ rfl
      refine z_putV (c := 11) (j := 0) (ty0 := tyX11) (S' := sI S3 1100 a0 2) hf5.1 hf5.2 (Nat.le_of_ble_eq_true rfl) rfl zU_X11 tyX11_ok nmX11 (Nat.le_of_ble_eq_true rfl) (Nat.le_of_ble_eq_true rfl) ⟨_, zw_1298, Or.inl rfl⟩ (.inl rfl) rfl rfl rfl (zUpI (v := 2) hf5.2 (Nat.le_of_ble_eq_true rfl) (Nat.le_of_ble_eq_true rfl) rfl rfl) dX11_due_25 ?_
      obtain ⟨S6, hS7⟩ : ∃ z, z = sI S3 1100 a0 2 := ⟨_, rfl⟩
      rw [← hS7] at h ⊢
      have hf5 : a0 ∈ gL S6 ∧ gK S6 a0 = 11 := by rw [hS7]; exact hf5
      refine z_aload_n 0 dX11_due_28 rfl rfl ?_
      refine z_getI (c := 11) (j := 0) (f := 1100) hf5.1 hf5.2 (Nat.le_of_ble_eq_true rfl) rfl zU_X11 (Nat.le_of_ble_eq_true rfl) (Nat.le_of_ble_eq_true rfl) ⟨_, zw_1298, Or.inl rfl⟩ rfl rfl dX11_due_29 ?_
      refine z_if_le 39 dX11_due_32 (by decide) (fun c10 => ?_) (fun c10 => ?_)
      · have h := h.1 c10
        refine z_aload_n 0 dX11_due_39 rfl rfl ?_
        refine z_iload_n 1 dX11_due_40 rfl rfl ?_
        refine z_callVI (ci := 11) (st := []) (w_X11_dueOf h) hf5.1 hf5.2 (Nat.le_of_ble_eq_true rfl) rfl zw_1740 zw_1737 zw_1739 zw_59 zw_74 zy_X11_dueOf rfl rfl ⟨Nat.le_of_ble_eq_true rfl, Nat.le_of_ble_eq_true rfl⟩ ⟨(Nat.le_of_ble_eq_true rfl), (Nat.le_of_ble_eq_true rfl)⟩ (Nat.le_of_ble_eq_true rfl) dX11_due_41 (fun _ _ hx => hx.elim) (fun r9 S8 h => ?_)
        refine z_widen (k' := 0) (n' := 0) (Nat.le_refl _) (Nat.le_refl _) ?_
        exact z_ireturn ⟨rfl, _, rfl, h⟩ rfl (Nat.le_of_ble_eq_true rfl) (Nat.le_of_ble_eq_true rfl) dX11_due_44
      · have h := h.2 c10
        refine z_iconst (v := 0) dX11_due_35 rfl ?_
        refine z_goto 44 dX11_due_36 (by decide) ?_
        exact z_ireturn ⟨rfl, _, rfl, h⟩ rfl (Nat.le_of_ble_eq_true rfl) (Nat.le_of_ble_eq_true rfl) dX11_due_44
    · have h := h.2 c17
      refine z_iconst (v := 0) dX11_due_20 rfl ?_
      refine z_goto 25 dX11_due_21 (by decide) ?_
      obtain ⟨hf11, h⟩ := h
      have h := h _ rfl
      refine z_putV (c := 11) (j := 0) (ty0 := tyX11) (S' := sI S3 1100 a0 0) hf11.1 hf11.2 (Nat.le_of_ble_eq_true rfl) rfl zU_X11 tyX11_ok nmX11 (Nat.le_of_ble_eq_true rfl) (Nat.le_of_ble_eq_true rfl) ⟨_, zw_1298, Or.inl rfl⟩ (.inl rfl) rfl rfl rfl (zUpI (v := 0) hf11.2 (Nat.le_of_ble_eq_true rfl) (Nat.le_of_ble_eq_true rfl) rfl rfl) dX11_due_25 ?_
      obtain ⟨S12, hS13⟩ : ∃ z, z = sI S3 1100 a0 0 := ⟨_, rfl⟩
      rw [← hS13] at h ⊢
      have hf11 : a0 ∈ gL S12 ∧ gK S12 a0 = 11 := by rw [hS13]; exact hf11
      refine z_aload_n 0 dX11_due_28 rfl rfl ?_
      refine z_getI (c := 11) (j := 0) (f := 1100) hf11.1 hf11.2 (Nat.le_of_ble_eq_true rfl) rfl zU_X11 (Nat.le_of_ble_eq_true rfl) (Nat.le_of_ble_eq_true rfl) ⟨_, zw_1298, Or.inl rfl⟩ rfl rfl dX11_due_29 ?_
      refine z_if_le 39 dX11_due_32 (by decide) (fun c16 => ?_) (fun c16 => ?_)
      · have h := h.1 c16
        refine z_aload_n 0 dX11_due_39 rfl rfl ?_
        refine z_iload_n 1 dX11_due_40 rfl rfl ?_
        refine z_callVI (ci := 11) (st := []) (w_X11_dueOf h) hf11.1 hf11.2 (Nat.le_of_ble_eq_true rfl) rfl zw_1740 zw_1737 zw_1739 zw_59 zw_74 zy_X11_dueOf rfl rfl ⟨Nat.le_of_ble_eq_true rfl, Nat.le_of_ble_eq_true rfl⟩ ⟨(Nat.le_of_ble_eq_true rfl), (Nat.le_of_ble_eq_true rfl)⟩ (Nat.le_of_ble_eq_true rfl) dX11_due_41 (fun _ _ hx => hx.elim) (fun r15 S14 h => ?_)
        refine z_widen (k' := 0) (n' := 0) (Nat.le_refl _) (Nat.le_refl _) ?_
        exact z_ireturn ⟨rfl, _, rfl, h⟩ rfl (Nat.le_of_ble_eq_true rfl) (Nat.le_of_ble_eq_true rfl) dX11_due_44
      · have h := h.2 c16
        refine z_iconst (v := 0) dX11_due_35 rfl ?_
        refine z_goto 44 dX11_due_36 (by decide) ?_
        exact z_ireturn ⟨rfl, _, rfl, h⟩ rfl (Nat.le_of_ble_eq_true rfl) (Nat.le_of_ble_eq_true rfl) dX11_due_44
  · have h := h.2 c25
    refine z_iconst (v := 1) dX11_due_8 rfl ?_
    refine z_goto 25 dX11_due_9 (by decide) ?_
    obtain ⟨hf19, h⟩ := h
    have h := h _ rfl
    refine z_putV (c := 11) (j := 0) (ty0 := tyX11) (S' := sI S1 1100 a0 1) hf19.1 hf19.2 (Nat.le_of_ble_eq_true rfl) rfl zU_X11 tyX11_ok nmX11 (Nat.le_of_ble_eq_true rfl) (Nat.le_of_ble_eq_true rfl) ⟨_, zw_1298, Or.inl rfl⟩ (.inl rfl) rfl rfl rfl (zUpI (v := 1) hf19.2 (Nat.le_of_ble_eq_true rfl) (Nat.le_of_ble_eq_true rfl) rfl rfl) dX11_due_25 ?_
    obtain ⟨S20, hS21⟩ : ∃ z, z = sI S1 1100 a0 1 := ⟨_, rfl⟩
    rw [← hS21] at h ⊢
    have hf19 : a0 ∈ gL S20 ∧ gK S20 a0 = 11 := by rw [hS21]; exact hf19
    refine z_aload_n 0 dX11_due_28 rfl rfl ?_
    refine z_getI (c := 11) (j := 0) (f := 1100) hf19.1 hf19.2 (Nat.le_of_ble_eq_true rfl) rfl zU_X11 (Nat.le_of_ble_eq_true rfl) (Nat.le_of_ble_eq_true rfl) ⟨_, zw_1298, Or.inl rfl⟩ rfl rfl dX11_due_29 ?_
    refine z_if_le 39 dX11_due_32 (by decide) (fun c24 => ?_) (fun c24 => ?_)
    · have h := h.1 c24
      refine z_aload_n 0 dX11_due_39 rfl rfl ?_
      refine z_iload_n 1 dX11_due_40 rfl rfl ?_
      refine z_callVI (ci := 11) (st := []) (w_X11_dueOf h) hf19.1 hf19.2 (Nat.le_of_ble_eq_true rfl) rfl zw_1740 zw_1737 zw_1739 zw_59 zw_74 zy_X11_dueOf rfl rfl ⟨Nat.le_of_ble_eq_true rfl, Nat.le_of_ble_eq_true rfl⟩ ⟨(Nat.le_of_ble_eq_true rfl), (Nat.le_of_ble_eq_true rfl)⟩ (Nat.le_of_ble_eq_true rfl) dX11_due_41 (fun _ _ hx => hx.elim) (fun r23 S22 h => ?_)
      refine z_widen (k' := 0) (n' := 0) (Nat.le_refl _) (Nat.le_refl _) ?_
      exact z_ireturn ⟨rfl, _, rfl, h⟩ rfl (Nat.le_of_ble_eq_true rfl) (Nat.le_of_ble_eq_true rfl) dX11_due_44
    · have h := h.2 c24
      refine z_iconst (v := 0) dX11_due_35 rfl ?_
      refine z_goto 44 dX11_due_36 (by decide) ?_
      exact z_ireturn ⟨rfl, _, rfl, h⟩ rfl (Nat.le_of_ble_eq_true rfl) (Nat.le_of_ble_eq_true rfl) dX11_due_44
set_option maxRecDepth 20000 in
set_option maxHeartbeats 4000000 in
theorem w_X11_setPatience {E : zE} {a0 : Nat} {l1 : Int32} {S : zS} {Q : Int32 → zS → Prop} {X : String → zS → Prop} (h : p_X11_setPatience E a0 l1 S Q X) : zM E yX11_setPatience cX11_setPatience 3 (some .int) ({ frames := 1, cells := 0, slots := 0, locals := 22 } : Room) [.ref a0, .int l1] S (qI Q) X := by
  unfold p_X11_setPatience at h
  refine zM_of RX11 false (by decide) rfl (fun h => by cases h) (Nat.le_of_ble_eq_true rfl) ?_
  refine z_aload_n 0 dX11_setPatience_0 rfl rfl ?_
  refine z_iload_n 1 dX11_setPatience_1 rfl rfl ?_
  refine z_iconst (v := 0) dX11_setPatience_2 rfl ?_
  refine z_sipush (v := 1000) dX11_setPatience_3 rfl ?_
  refine z_callSI (st := [.ref a0]) (w_X11_in h) zw_1435 zw_1433 zw_1434 zw_74 zy_X11_in rfl rfl ⟨Nat.le_of_ble_eq_true rfl, Nat.le_of_ble_eq_true rfl⟩ ⟨(Nat.le_of_ble_eq_true rfl), (Nat.le_of_ble_eq_true rfl)⟩ (Nat.le_of_ble_eq_true rfl) dX11_setPatience_6 (fun _ _ hx => hx.elim) (fun r2 S1 h => ?_)
  refine z_widen (k' := 0) (n' := 0) (Nat.le_refl _) (Nat.le_refl _) ?_
  refine z_if_eq 16 dX11_setPatience_9 (by decide) (fun c15 => ?_) (fun c15 => ?_)
  · have h := h.1 c15
    refine z_iconst (v := 1) dX11_setPatience_16 rfl ?_
    obtain ⟨hf3, h⟩ := h
    have h := h _ rfl
    refine z_putV (c := 11) (j := 0) (ty0 := tyX11) (S' := sI S1 1100 a0 1) hf3.1 hf3.2 (Nat.le_of_ble_eq_true rfl) rfl zU_X11 tyX11_ok nmX11 (Nat.le_of_ble_eq_true rfl) (Nat.le_of_ble_eq_true rfl) ⟨_, zw_1298, Or.inl rfl⟩ (.inl rfl) rfl rfl rfl (zUpI (v := 1) hf3.2 (Nat.le_of_ble_eq_true rfl) (Nat.le_of_ble_eq_true rfl) rfl rfl) dX11_setPatience_17 ?_
    obtain ⟨S4, hS5⟩ : ∃ z, z = sI S1 1100 a0 1 := ⟨_, rfl⟩
    rw [← hS5] at h ⊢
    have hf3 : a0 ∈ gL S4 ∧ gK S4 a0 = 11 := by rw [hS5]; exact hf3
    refine z_aload_n 0 dX11_setPatience_20 rfl rfl ?_
    refine z_getI (c := 11) (j := 0) (f := 1100) hf3.1 hf3.2 (Nat.le_of_ble_eq_true rfl) rfl zU_X11 (Nat.le_of_ble_eq_true rfl) (Nat.le_of_ble_eq_true rfl) ⟨_, zw_1298, Or.inl rfl⟩ rfl rfl dX11_setPatience_21 ?_
    refine z_if_le 29 dX11_setPatience_24 (by decide) (fun c8 => ?_) (fun c8 => ?_)
    · have h := h.1 c8
      refine z_aload_n 0 dX11_setPatience_29 rfl rfl ?_
      refine z_getI (c := 11) (j := 33) (f := 1133) hf3.1 hf3.2 (Nat.le_of_ble_eq_true rfl) rfl zU_X11 (Nat.le_of_ble_eq_true rfl) (Nat.le_of_ble_eq_true rfl) ⟨_, zw_1331, Or.inl rfl⟩ rfl rfl dX11_setPatience_30 ?_
      refine z_istore_n (lv' := [(2, .int (gI S4 1133 a0)), (0, .ref a0), (1, .int l1)]) dX11_setPatience_33 rfl (Nat.le_of_ble_eq_true rfl) rfl ?_
      refine z_aload_n 1 dX11_setPatience_34 rfl rfl ?_
      refine z_iload_n 2 dX11_setPatience_35 rfl rfl ?_
      have h := h _ rfl
      refine z_putV (c := 11) (j := 33) (ty0 := tyX11) (S' := sI S4 1133 a0 l1) hf3.1 hf3.2 (Nat.le_of_ble_eq_true rfl) rfl zU_X11 tyX11_ok nmX11 (Nat.le_of_ble_eq_true rfl) (Nat.le_of_ble_eq_true rfl) ⟨_, zw_1331, Or.inl rfl⟩ (.inl rfl) rfl rfl rfl (zUpI (v := l1) hf3.2 (Nat.le_of_ble_eq_true rfl) (Nat.le_of_ble_eq_true rfl) rfl rfl) dX11_setPatience_36 ?_
      obtain ⟨S6, hS7⟩ : ∃ z, z = sI S4 1133 a0 l1 := ⟨_, rfl⟩
      rw [← hS7] at h ⊢
      have hf3 : a0 ∈ gL S6 ∧ gK S6 a0 = 11 := by rw [hS7]; exact hf3
      refine z_iload_n 0 dX11_setPatience_39 rfl rfl ?_
      exact z_ireturn ⟨rfl, _, rfl, h⟩ rfl (Nat.le_of_ble_eq_true rfl) (Nat.le_of_ble_eq_true rfl) dX11_setPatience_40
    · have h := h.2 c8
      refine z_iconst (v := 0) dX11_setPatience_27 rfl ?_
      exact z_ireturn ⟨rfl, _, rfl, h⟩ rfl (Nat.le_of_ble_eq_true rfl) (Nat.le_of_ble_eq_true rfl) dX11_setPatience_28
  · have h := h.2 c15
    refine z_iconst (v := 0) dX11_setPatience_12 rfl ?_
    refine z_goto 17 dX11_setPatience_13 (by decide) ?_
    obtain ⟨hf9, h⟩ := h
    have h := h _ rfl
    refine z_putV (c := 11) (j := 0) (ty0 := tyX11) (S' := sI S1 1100 a0 0) hf9.1 hf9.2 (Nat.le_of_ble_eq_true rfl) rfl zU_X11 tyX11_ok nmX11 (Nat.le_of_ble_eq_true rfl) (Nat.le_of_ble_eq_true rfl) ⟨_, zw_1298, Or.inl rfl⟩ (.inl rfl) rfl rfl rfl (zUpI (v := 0) hf9.2 (Nat.le_of_ble_eq_true rfl) (Nat.le_of_ble_eq_true rfl) rfl rfl) dX11_setPatience_17 ?_
    obtain ⟨S10, hS11⟩ : ∃ z, z = sI S1 1100 a0 0 := ⟨_, rfl⟩
    rw [← hS11] at h ⊢
    have hf9 : a0 ∈ gL S10 ∧ gK S10 a0 = 11 := by rw [hS11]; exact hf9
    refine z_aload_n 0 dX11_setPatience_20 rfl rfl ?_
    refine z_getI (c := 11) (j := 0) (f := 1100) hf9.1 hf9.2 (Nat.le_of_ble_eq_true rfl) rfl zU_X11 (Nat.le_of_ble_eq_true rfl) (Nat.le_of_ble_eq_true rfl) ⟨_, zw_1298, Or.inl rfl⟩ rfl rfl dX11_setPatience_21 ?_
    refine z_if_le 29 dX11_setPatience_24 (by decide) (fun c14 => ?_) (fun c14 => ?_)
    · have h := h.1 c14
      refine z_aload_n 0 dX11_setPatience_29 rfl rfl ?_
      refine z_getI (c := 11) (j := 33) (f := 1133) hf9.1 hf9.2 (Nat.le_of_ble_eq_true rfl) rfl zU_X11 (Nat.le_of_ble_eq_true rfl) (Nat.le_of_ble_eq_true rfl) ⟨_, zw_1331, Or.inl rfl⟩ rfl rfl dX11_setPatience_30 ?_
      refine z_istore_n (lv' := [(2, .int (gI S10 1133 a0)), (0, .ref a0), (1, .int l1)]) dX11_setPatience_33 rfl (Nat.le_of_ble_eq_true rfl) rfl ?_
      refine z_aload_n 1 dX11_setPatience_34 rfl rfl ?_
      refine z_iload_n 2 dX11_setPatience_35 rfl rfl ?_
      have h := h _ rfl
      refine z_putV (c := 11) (j := 33) (ty0 := tyX11) (S' := sI S10 1133 a0 l1) hf9.1 hf9.2 (Nat.le_of_ble_eq_true rfl) rfl zU_X11 tyX11_ok nmX11 (Nat.le_of_ble_eq_true rfl) (Nat.le_of_ble_eq_true rfl) ⟨_, zw_1331, Or.inl rfl⟩ (.inl rfl) rfl rfl rfl (zUpI (v := l1) hf9.2 (Nat.le_of_ble_eq_true rfl) (Nat.le_of_ble_eq_true rfl) rfl rfl) dX11_setPatience_36 ?_
      obtain ⟨S12, hS13⟩ : ∃ z, z = sI S10 1133 a0 l1 := ⟨_, rfl⟩
      rw [← hS13] at h ⊢
      have hf9 : a0 ∈ gL S12 ∧ gK S12 a0 = 11 := by rw [hS13]; exact hf9
      refine z_iload_n 0 dX11_setPatience_39 rfl rfl ?_
      exact z_ireturn ⟨rfl, _, rfl, h⟩ rfl (Nat.le_of_ble_eq_true rfl) (Nat.le_of_ble_eq_true rfl) dX11_setPatience_40
    · have h := h.2 c14
      refine z_iconst (v := 0) dX11_setPatience_27 rfl ?_
      exact z_ireturn ⟨rfl, _, rfl, h⟩ rfl (Nat.le_of_ble_eq_true rfl) (Nat.le_of_ble_eq_true rfl) dX11_setPatience_28
set_option maxRecDepth 20000 in
set_option maxHeartbeats 4000000 in
theorem w_X11_done {E : zE} {a0 : Nat} {S : zS} {Q : Int32 → zS → Prop} {X : String → zS → Prop} (h : p_X11_done E a0 S Q X) : zM E yX11_done cX11_done 1 (some .int) ({ frames := 0, cells := 0, slots := 0, locals := 0 } : Room) [.ref a0] S (qI Q) X := by
  unfold p_X11_done at h
  refine zM_of RX11 false (by decide) rfl (fun h => by cases h) (Nat.le_of_ble_eq_true rfl) ?_
  refine z_aload_n 0 dX11_done_0 rfl rfl ?_
  refine z_iconst (v := 0) dX11_done_1 rfl ?_
  obtain ⟨hf1, h⟩ := h
  have h := h _ rfl
  refine z_putV (c := 11) (j := 0) (ty0 := tyX11) (S' := sI S 1100 a0 0) hf1.1 hf1.2 (Nat.le_of_ble_eq_true rfl) rfl zU_X11 tyX11_ok nmX11 (Nat.le_of_ble_eq_true rfl) (Nat.le_of_ble_eq_true rfl) ⟨_, zw_1298, Or.inl rfl⟩ (.inl rfl) rfl rfl rfl (zUpI (v := 0) hf1.2 (Nat.le_of_ble_eq_true rfl) (Nat.le_of_ble_eq_true rfl) rfl rfl) dX11_done_2 ?_
  obtain ⟨S2, hS3⟩ : ∃ z, z = sI S 1100 a0 0 := ⟨_, rfl⟩
  rw [← hS3] at h ⊢
  have hf1 : a0 ∈ gL S2 ∧ gK S2 a0 = 11 := by rw [hS3]; exact hf1
  refine z_aload_n 0 dX11_done_5 rfl rfl ?_
  refine z_getI (c := 11) (j := 27) (f := 1127) hf1.1 hf1.2 (Nat.le_of_ble_eq_true rfl) rfl zU_X11 (Nat.le_of_ble_eq_true rfl) (Nat.le_of_ble_eq_true rfl) ⟨_, zw_1325, Or.inl rfl⟩ rfl rfl dX11_done_6 ?_
  refine z_if_eq 19 dX11_done_9 (by decide) (fun c4 => ?_) (fun c4 => ?_)
  · have h := h.1 c4
    refine z_iconst (v := (-1)) dX11_done_19 rfl ?_
    exact z_ireturn ⟨rfl, _, rfl, h⟩ rfl (Nat.le_of_ble_eq_true rfl) (Nat.le_of_ble_eq_true rfl) dX11_done_20
  · have h := h.2 c4
    refine z_aload_n 0 dX11_done_12 rfl rfl ?_
    refine z_getI (c := 11) (j := 31) (f := 1131) hf1.1 hf1.2 (Nat.le_of_ble_eq_true rfl) rfl zU_X11 (Nat.le_of_ble_eq_true rfl) (Nat.le_of_ble_eq_true rfl) ⟨_, zw_1329, Or.inl rfl⟩ rfl rfl dX11_done_13 ?_
    refine z_goto 20 dX11_done_16 (by decide) ?_
    exact z_ireturn ⟨rfl, _, rfl, h⟩ rfl (Nat.le_of_ble_eq_true rfl) (Nat.le_of_ble_eq_true rfl) dX11_done_20
set_option maxRecDepth 20000 in
set_option maxHeartbeats 4000000 in
theorem w_X11_delay {E : zE} {a0 : Nat} {S : zS} {Q : Int32 → zS → Prop} {X : String → zS → Prop} (h : p_X11_delay E a0 S Q X) : zM E yX11_delay cX11_delay 1 (some .int) ({ frames := 0, cells := 0, slots := 0, locals := 0 } : Room) [.ref a0] S (qI Q) X := by
  unfold p_X11_delay at h
  refine zM_of RX11 false (by decide) rfl (fun h => by cases h) (Nat.le_of_ble_eq_true rfl) ?_
  refine z_aload_n 0 dX11_delay_0 rfl rfl ?_
  refine z_iconst (v := 0) dX11_delay_1 rfl ?_
  obtain ⟨hf1, h⟩ := h
  have h := h _ rfl
  refine z_putV (c := 11) (j := 0) (ty0 := tyX11) (S' := sI S 1100 a0 0) hf1.1 hf1.2 (Nat.le_of_ble_eq_true rfl) rfl zU_X11 tyX11_ok nmX11 (Nat.le_of_ble_eq_true rfl) (Nat.le_of_ble_eq_true rfl) ⟨_, zw_1298, Or.inl rfl⟩ (.inl rfl) rfl rfl rfl (zUpI (v := 0) hf1.2 (Nat.le_of_ble_eq_true rfl) (Nat.le_of_ble_eq_true rfl) rfl rfl) dX11_delay_2 ?_
  obtain ⟨S2, hS3⟩ : ∃ z, z = sI S 1100 a0 0 := ⟨_, rfl⟩
  rw [← hS3] at h ⊢
  have hf1 : a0 ∈ gL S2 ∧ gK S2 a0 = 11 := by rw [hS3]; exact hf1
  refine z_aload_n 0 dX11_delay_5 rfl rfl ?_
  refine z_getI (c := 11) (j := 27) (f := 1127) hf1.1 hf1.2 (Nat.le_of_ble_eq_true rfl) rfl zU_X11 (Nat.le_of_ble_eq_true rfl) (Nat.le_of_ble_eq_true rfl) ⟨_, zw_1325, Or.inl rfl⟩ rfl rfl dX11_delay_6 ?_
  refine z_if_eq 19 dX11_delay_9 (by decide) (fun c4 => ?_) (fun c4 => ?_)
  · have h := h.1 c4
    refine z_iconst (v := 0) dX11_delay_19 rfl ?_
    exact z_ireturn ⟨rfl, _, rfl, h⟩ rfl (Nat.le_of_ble_eq_true rfl) (Nat.le_of_ble_eq_true rfl) dX11_delay_20
  · have h := h.2 c4
    refine z_aload_n 0 dX11_delay_12 rfl rfl ?_
    refine z_getI (c := 11) (j := 32) (f := 1132) hf1.1 hf1.2 (Nat.le_of_ble_eq_true rfl) rfl zU_X11 (Nat.le_of_ble_eq_true rfl) (Nat.le_of_ble_eq_true rfl) ⟨_, zw_1330, Or.inl rfl⟩ rfl rfl dX11_delay_13 ?_
    refine z_goto 20 dX11_delay_16 (by decide) ?_
    exact z_ireturn ⟨rfl, _, rfl, h⟩ rfl (Nat.le_of_ble_eq_true rfl) (Nat.le_of_ble_eq_true rfl) dX11_delay_20
set_option maxRecDepth 20000 in
set_option maxHeartbeats 4000000 in
theorem w_X11_asksBell {E : zE} {a0 : Nat} {l1 : Int32} {S : zS} {Q : Int32 → zS → Prop} {X : String → zS → Prop} (h : p_X11_asksBell E a0 l1 S Q X) : zM E yX11_asksBell cX11_asksBell 2 (some .boolean) ({ frames := 2, cells := 0, slots := 0, locals := 42 } : Room) [.ref a0, .int l1] S (qI Q) X := by
  unfold p_X11_asksBell at h
  refine zM_of RX11 false (by decide) rfl (fun h => by cases h) (Nat.le_of_ble_eq_true rfl) ?_
  refine z_aload_n 0 dX11_asksBell_0 rfl rfl ?_
  refine z_iload_n 1 dX11_asksBell_1 rfl rfl ?_
  refine z_callSI (st := [.ref a0]) (w_X11_isBell h) zw_1623 zw_1621 zw_1622 zw_74 zy_X11_isBell rfl rfl ⟨Nat.le_of_ble_eq_true rfl, Nat.le_of_ble_eq_true rfl⟩ ⟨(Nat.le_of_ble_eq_true rfl), (Nat.le_of_ble_eq_true rfl)⟩ (Nat.le_of_ble_eq_true rfl) dX11_asksBell_2 (fun _ _ hx => hx.elim) (fun r2 S1 h => ?_)
  refine z_widen (k' := 0) (n' := 0) (Nat.le_refl _) (Nat.le_refl _) ?_
  refine z_if_eq 12 dX11_asksBell_5 (by decide) (fun c15 => ?_) (fun c15 => ?_)
  · have h := h.1 c15
    refine z_iconst (v := 1) dX11_asksBell_12 rfl ?_
    obtain ⟨hf3, h⟩ := h
    have h := h _ rfl
    refine z_putV (c := 11) (j := 0) (ty0 := tyX11) (S' := sI S1 1100 a0 1) hf3.1 hf3.2 (Nat.le_of_ble_eq_true rfl) rfl zU_X11 tyX11_ok nmX11 (Nat.le_of_ble_eq_true rfl) (Nat.le_of_ble_eq_true rfl) ⟨_, zw_1298, Or.inl rfl⟩ (.inl rfl) rfl rfl rfl (zUpI (v := 1) hf3.2 (Nat.le_of_ble_eq_true rfl) (Nat.le_of_ble_eq_true rfl) rfl rfl) dX11_asksBell_13 ?_
    obtain ⟨S4, hS5⟩ : ∃ z, z = sI S1 1100 a0 1 := ⟨_, rfl⟩
    rw [← hS5] at h ⊢
    have hf3 : a0 ∈ gL S4 ∧ gK S4 a0 = 11 := by rw [hS5]; exact hf3
    refine z_aload_n 0 dX11_asksBell_16 rfl rfl ?_
    refine z_getI (c := 11) (j := 0) (f := 1100) hf3.1 hf3.2 (Nat.le_of_ble_eq_true rfl) rfl zU_X11 (Nat.le_of_ble_eq_true rfl) (Nat.le_of_ble_eq_true rfl) ⟨_, zw_1298, Or.inl rfl⟩ rfl rfl dX11_asksBell_17 ?_
    refine z_if_ne 27 dX11_asksBell_20 (by decide) (fun c8 => ?_) (fun c8 => ?_)
    · have h := h.1 c8
      refine z_iconst (v := 0) dX11_asksBell_27 rfl ?_
      obtain ⟨hz6, h⟩ := h
      exact z_zreturn ⟨rfl, _, rfl, h⟩ rfl (zbn hz6) (Nat.le_of_ble_eq_true rfl) (Nat.le_of_ble_eq_true rfl) dX11_asksBell_28
    · have h := h.2 c8
      refine z_iconst (v := 1) dX11_asksBell_23 rfl ?_
      refine z_goto 28 dX11_asksBell_24 (by decide) ?_
      obtain ⟨hz7, h⟩ := h
      exact z_zreturn ⟨rfl, _, rfl, h⟩ rfl (zbn hz7) (Nat.le_of_ble_eq_true rfl) (Nat.le_of_ble_eq_true rfl) dX11_asksBell_28
  · have h := h.2 c15
    refine z_iconst (v := 0) dX11_asksBell_8 rfl ?_
    refine z_goto 13 dX11_asksBell_9 (by decide) ?_
    obtain ⟨hf9, h⟩ := h
    have h := h _ rfl
    refine z_putV (c := 11) (j := 0) (ty0 := tyX11) (S' := sI S1 1100 a0 0) hf9.1 hf9.2 (Nat.le_of_ble_eq_true rfl) rfl zU_X11 tyX11_ok nmX11 (Nat.le_of_ble_eq_true rfl) (Nat.le_of_ble_eq_true rfl) ⟨_, zw_1298, Or.inl rfl⟩ (.inl rfl) rfl rfl rfl (zUpI (v := 0) hf9.2 (Nat.le_of_ble_eq_true rfl) (Nat.le_of_ble_eq_true rfl) rfl rfl) dX11_asksBell_13 ?_
    obtain ⟨S10, hS11⟩ : ∃ z, z = sI S1 1100 a0 0 := ⟨_, rfl⟩
    rw [← hS11] at h ⊢
    have hf9 : a0 ∈ gL S10 ∧ gK S10 a0 = 11 := by rw [hS11]; exact hf9
    refine z_aload_n 0 dX11_asksBell_16 rfl rfl ?_
    refine z_getI (c := 11) (j := 0) (f := 1100) hf9.1 hf9.2 (Nat.le_of_ble_eq_true rfl) rfl zU_X11 (Nat.le_of_ble_eq_true rfl) (Nat.le_of_ble_eq_true rfl) ⟨_, zw_1298, Or.inl rfl⟩ rfl rfl dX11_asksBell_17 ?_
    refine z_if_ne 27 dX11_asksBell_20 (by decide) (fun c14 => ?_) (fun c14 => ?_)
    · have h := h.1 c14
      refine z_iconst (v := 0) dX11_asksBell_27 rfl ?_
      obtain ⟨hz12, h⟩ := h
      exact z_zreturn ⟨rfl, _, rfl, h⟩ rfl (zbn hz12) (Nat.le_of_ble_eq_true rfl) (Nat.le_of_ble_eq_true rfl) dX11_asksBell_28
    · have h := h.2 c14
      refine z_iconst (v := 1) dX11_asksBell_23 rfl ?_
      refine z_goto 28 dX11_asksBell_24 (by decide) ?_
      obtain ⟨hz13, h⟩ := h
      exact z_zreturn ⟨rfl, _, rfl, h⟩ rfl (zbn hz13) (Nat.le_of_ble_eq_true rfl) (Nat.le_of_ble_eq_true rfl) dX11_asksBell_28
set_option maxRecDepth 20000 in
set_option maxHeartbeats 4000000 in
theorem w_X11_late {E : zE} {a0 : Nat} {l1 : Int32} {S : zS} {Q : Int32 → zS → Prop} {X : String → zS → Prop} (h : p_X11_late E a0 l1 S Q X) : zM E yX11_late cX11_late 2 (some .int) ({ frames := 3, cells := 0, slots := 0, locals := 63 } : Room) [.ref a0, .int l1] S (qI Q) X := by
  unfold p_X11_late at h
  refine zM_of RX11 false (by decide) rfl (fun h => by cases h) (Nat.le_of_ble_eq_true rfl) ?_
  refine z_aload_n 0 dX11_late_0 rfl rfl ?_
  refine z_iload_n 1 dX11_late_1 rfl rfl ?_
  obtain ⟨hf10, h⟩ := h
  refine z_callVI (ci := 11) (st := []) (w_X11_asksBell h) hf10.1 hf10.2 (Nat.le_of_ble_eq_true rfl) rfl zw_1771 zw_1768 zw_1770 zw_61 zw_74 zy_X11_asksBell rfl rfl ⟨Nat.le_of_ble_eq_true rfl, Nat.le_of_ble_eq_true rfl⟩ ⟨(Nat.le_of_ble_eq_true rfl), (Nat.le_of_ble_eq_true rfl)⟩ (Nat.le_of_ble_eq_true rfl) dX11_late_2 (fun _ _ hx => hx.elim) (fun r2 S1 h => ?_)
  refine z_widen (k' := 0) (n' := 0) (Nat.le_refl _) (Nat.le_refl _) ?_
  refine z_if_eq 17 dX11_late_5 (by decide) (fun c9 => ?_) (fun c9 => ?_)
  · have h := h.1 c9
    refine z_iconst (v := 0) dX11_late_17 rfl ?_
    exact z_ireturn ⟨rfl, _, rfl, h⟩ rfl (Nat.le_of_ble_eq_true rfl) (Nat.le_of_ble_eq_true rfl) dX11_late_18
  · have h := h.2 c9
    refine z_aload_n 0 dX11_late_8 rfl rfl ?_
    obtain ⟨hf3, h⟩ := h
    refine z_getQ (c := 11) (j := 36) (f := 1136) hf3.1 hf3.2 (Nat.le_of_ble_eq_true rfl) rfl zU_X11 (Nat.le_of_ble_eq_true rfl) (Nat.le_of_ble_eq_true rfl) ⟨_, zw_1334, Or.inl rfl⟩ rfl rfl dX11_late_9 ?_
    refine z_iload_n 1 dX11_late_12 rfl rfl ?_
    obtain ⟨b4, hb5, h⟩ := h
    rw [show va_rf (gR S1 1136 a0) = Value.ref b4 from by rw [hb5]; rfl]
    obtain ⟨hf6, h⟩ := h
    obtain ⟨j7, hj8, h⟩ := h
    refine z_iald (j := j7) hf6.1 hf6.2 hj8.1 hj8.2.1 hj8.2.2 dX11_late_13 ?_
    refine z_goto 18 dX11_late_14 (by decide) ?_
    exact z_ireturn ⟨rfl, _, rfl, h⟩ rfl (Nat.le_of_ble_eq_true rfl) (Nat.le_of_ble_eq_true rfl) dX11_late_18
set_option maxRecDepth 20000 in
set_option maxHeartbeats 4000000 in
theorem w_X11_early {E : zE} {a0 : Nat} {l1 : Int32} {S : zS} {Q : Int32 → zS → Prop} {X : String → zS → Prop} (h : p_X11_early E a0 l1 S Q X) : zM E yX11_early cX11_early 2 (some .int) ({ frames := 3, cells := 0, slots := 0, locals := 63 } : Room) [.ref a0, .int l1] S (qI Q) X := by
  unfold p_X11_early at h
  refine zM_of RX11 false (by decide) rfl (fun h => by cases h) (Nat.le_of_ble_eq_true rfl) ?_
  refine z_aload_n 0 dX11_early_0 rfl rfl ?_
  refine z_iload_n 1 dX11_early_1 rfl rfl ?_
  obtain ⟨hf10, h⟩ := h
  refine z_callVI (ci := 11) (st := []) (w_X11_asksBell h) hf10.1 hf10.2 (Nat.le_of_ble_eq_true rfl) rfl zw_1771 zw_1768 zw_1770 zw_61 zw_74 zy_X11_asksBell rfl rfl ⟨Nat.le_of_ble_eq_true rfl, Nat.le_of_ble_eq_true rfl⟩ ⟨(Nat.le_of_ble_eq_true rfl), (Nat.le_of_ble_eq_true rfl)⟩ (Nat.le_of_ble_eq_true rfl) dX11_early_2 (fun _ _ hx => hx.elim) (fun r2 S1 h => ?_)
  refine z_widen (k' := 0) (n' := 0) (Nat.le_refl _) (Nat.le_refl _) ?_
  refine z_if_eq 17 dX11_early_5 (by decide) (fun c9 => ?_) (fun c9 => ?_)
  · have h := h.1 c9
    refine z_iconst (v := 0) dX11_early_17 rfl ?_
    exact z_ireturn ⟨rfl, _, rfl, h⟩ rfl (Nat.le_of_ble_eq_true rfl) (Nat.le_of_ble_eq_true rfl) dX11_early_18
  · have h := h.2 c9
    refine z_aload_n 0 dX11_early_8 rfl rfl ?_
    obtain ⟨hf3, h⟩ := h
    refine z_getQ (c := 11) (j := 37) (f := 1137) hf3.1 hf3.2 (Nat.le_of_ble_eq_true rfl) rfl zU_X11 (Nat.le_of_ble_eq_true rfl) (Nat.le_of_ble_eq_true rfl) ⟨_, zw_1335, Or.inl rfl⟩ rfl rfl dX11_early_9 ?_
    refine z_iload_n 1 dX11_early_12 rfl rfl ?_
    obtain ⟨b4, hb5, h⟩ := h
    rw [show va_rf (gR S1 1137 a0) = Value.ref b4 from by rw [hb5]; rfl]
    obtain ⟨hf6, h⟩ := h
    obtain ⟨j7, hj8, h⟩ := h
    refine z_iald (j := j7) hf6.1 hf6.2 hj8.1 hj8.2.1 hj8.2.2 dX11_early_13 ?_
    refine z_goto 18 dX11_early_14 (by decide) ?_
    exact z_ireturn ⟨rfl, _, rfl, h⟩ rfl (Nat.le_of_ble_eq_true rfl) (Nat.le_of_ble_eq_true rfl) dX11_early_18
set_option maxRecDepth 20000 in
set_option maxHeartbeats 4000000 in
theorem w_X11_errors {E : zE} {a0 : Nat} {l1 : Int32} {S : zS} {Q : Int32 → zS → Prop} {X : String → zS → Prop} (h : p_X11_errors E a0 l1 S Q X) : zM E yX11_errors cX11_errors 2 (some .int) ({ frames := 3, cells := 0, slots := 0, locals := 63 } : Room) [.ref a0, .int l1] S (qI Q) X := by
  unfold p_X11_errors at h
  refine zM_of RX11 false (by decide) rfl (fun h => by cases h) (Nat.le_of_ble_eq_true rfl) ?_
  refine z_aload_n 0 dX11_errors_0 rfl rfl ?_
  refine z_iload_n 1 dX11_errors_1 rfl rfl ?_
  obtain ⟨hf10, h⟩ := h
  refine z_callVI (ci := 11) (st := []) (w_X11_asksBell h) hf10.1 hf10.2 (Nat.le_of_ble_eq_true rfl) rfl zw_1771 zw_1768 zw_1770 zw_61 zw_74 zy_X11_asksBell rfl rfl ⟨Nat.le_of_ble_eq_true rfl, Nat.le_of_ble_eq_true rfl⟩ ⟨(Nat.le_of_ble_eq_true rfl), (Nat.le_of_ble_eq_true rfl)⟩ (Nat.le_of_ble_eq_true rfl) dX11_errors_2 (fun _ _ hx => hx.elim) (fun r2 S1 h => ?_)
  refine z_widen (k' := 0) (n' := 0) (Nat.le_refl _) (Nat.le_refl _) ?_
  refine z_if_eq 17 dX11_errors_5 (by decide) (fun c9 => ?_) (fun c9 => ?_)
  · have h := h.1 c9
    refine z_iconst (v := 0) dX11_errors_17 rfl ?_
    exact z_ireturn ⟨rfl, _, rfl, h⟩ rfl (Nat.le_of_ble_eq_true rfl) (Nat.le_of_ble_eq_true rfl) dX11_errors_18
  · have h := h.2 c9
    refine z_aload_n 0 dX11_errors_8 rfl rfl ?_
    obtain ⟨hf3, h⟩ := h
    refine z_getQ (c := 11) (j := 38) (f := 1138) hf3.1 hf3.2 (Nat.le_of_ble_eq_true rfl) rfl zU_X11 (Nat.le_of_ble_eq_true rfl) (Nat.le_of_ble_eq_true rfl) ⟨_, zw_1336, Or.inl rfl⟩ rfl rfl dX11_errors_9 ?_
    refine z_iload_n 1 dX11_errors_12 rfl rfl ?_
    obtain ⟨b4, hb5, h⟩ := h
    rw [show va_rf (gR S1 1138 a0) = Value.ref b4 from by rw [hb5]; rfl]
    obtain ⟨hf6, h⟩ := h
    obtain ⟨j7, hj8, h⟩ := h
    refine z_iald (j := j7) hf6.1 hf6.2 hj8.1 hj8.2.1 hj8.2.2 dX11_errors_13 ?_
    refine z_goto 18 dX11_errors_14 (by decide) ?_
    exact z_ireturn ⟨rfl, _, rfl, h⟩ rfl (Nat.le_of_ble_eq_true rfl) (Nat.le_of_ble_eq_true rfl) dX11_errors_18
set_option maxRecDepth 20000 in
set_option maxHeartbeats 4000000 in
theorem w_X11_wrong {E : zE} {a0 : Nat} {S : zS} {Q : Int32 → zS → Prop} {X : String → zS → Prop} (h : p_X11_wrong E a0 S Q X) : zM E yX11_wrong cX11_wrong 1 (some .int) ({ frames := 0, cells := 0, slots := 0, locals := 0 } : Room) [.ref a0] S (qI Q) X := by
  unfold p_X11_wrong at h
  refine zM_of RX11 false (by decide) rfl (fun h => by cases h) (Nat.le_of_ble_eq_true rfl) ?_
  refine z_aload_n 0 dX11_wrong_0 rfl rfl ?_
  refine z_iconst (v := 0) dX11_wrong_1 rfl ?_
  obtain ⟨hf1, h⟩ := h
  have h := h _ rfl
  refine z_putV (c := 11) (j := 0) (ty0 := tyX11) (S' := sI S 1100 a0 0) hf1.1 hf1.2 (Nat.le_of_ble_eq_true rfl) rfl zU_X11 tyX11_ok nmX11 (Nat.le_of_ble_eq_true rfl) (Nat.le_of_ble_eq_true rfl) ⟨_, zw_1298, Or.inl rfl⟩ (.inl rfl) rfl rfl rfl (zUpI (v := 0) hf1.2 (Nat.le_of_ble_eq_true rfl) (Nat.le_of_ble_eq_true rfl) rfl rfl) dX11_wrong_2 ?_
  obtain ⟨S2, hS3⟩ : ∃ z, z = sI S 1100 a0 0 := ⟨_, rfl⟩
  rw [← hS3] at h ⊢
  have hf1 : a0 ∈ gL S2 ∧ gK S2 a0 = 11 := by rw [hS3]; exact hf1
  refine z_aload_n 0 dX11_wrong_5 rfl rfl ?_
  refine z_getI (c := 11) (j := 39) (f := 1139) hf1.1 hf1.2 (Nat.le_of_ble_eq_true rfl) rfl zU_X11 (Nat.le_of_ble_eq_true rfl) (Nat.le_of_ble_eq_true rfl) ⟨_, zw_1337, Or.inl rfl⟩ rfl rfl dX11_wrong_6 ?_
  exact z_ireturn ⟨rfl, _, rfl, h⟩ rfl (Nat.le_of_ble_eq_true rfl) (Nat.le_of_ble_eq_true rfl) dX11_wrong_9
set_option maxRecDepth 20000 in
set_option maxHeartbeats 4000000 in
theorem w_X11_rung {E : zE} {a0 : Nat} {S : zS} {Q : Int32 → zS → Prop} {X : String → zS → Prop} (h : p_X11_rung E a0 S Q X) : zM E yX11_rung cX11_rung 1 (some .int) ({ frames := 0, cells := 0, slots := 0, locals := 0 } : Room) [.ref a0] S (qI Q) X := by
  unfold p_X11_rung at h
  refine zM_of RX11 false (by decide) rfl (fun h => by cases h) (Nat.le_of_ble_eq_true rfl) ?_
  refine z_aload_n 0 dX11_rung_0 rfl rfl ?_
  refine z_iconst (v := 0) dX11_rung_1 rfl ?_
  obtain ⟨hf1, h⟩ := h
  have h := h _ rfl
  refine z_putV (c := 11) (j := 0) (ty0 := tyX11) (S' := sI S 1100 a0 0) hf1.1 hf1.2 (Nat.le_of_ble_eq_true rfl) rfl zU_X11 tyX11_ok nmX11 (Nat.le_of_ble_eq_true rfl) (Nat.le_of_ble_eq_true rfl) ⟨_, zw_1298, Or.inl rfl⟩ (.inl rfl) rfl rfl rfl (zUpI (v := 0) hf1.2 (Nat.le_of_ble_eq_true rfl) (Nat.le_of_ble_eq_true rfl) rfl rfl) dX11_rung_2 ?_
  obtain ⟨S2, hS3⟩ : ∃ z, z = sI S 1100 a0 0 := ⟨_, rfl⟩
  rw [← hS3] at h ⊢
  have hf1 : a0 ∈ gL S2 ∧ gK S2 a0 = 11 := by rw [hS3]; exact hf1
  refine z_aload_n 0 dX11_rung_5 rfl rfl ?_
  refine z_getI (c := 11) (j := 40) (f := 1140) hf1.1 hf1.2 (Nat.le_of_ble_eq_true rfl) rfl zU_X11 (Nat.le_of_ble_eq_true rfl) (Nat.le_of_ble_eq_true rfl) ⟨_, zw_1338, Or.inl rfl⟩ rfl rfl dX11_rung_6 ?_
  exact z_ireturn ⟨rfl, _, rfl, h⟩ rfl (Nat.le_of_ble_eq_true rfl) (Nat.le_of_ble_eq_true rfl) dX11_rung_9
set_option maxRecDepth 20000 in
set_option maxHeartbeats 4000000 in
theorem w_X11_latest {E : zE} {a0 : Nat} {S : zS} {Q : Int32 → zS → Prop} {X : String → zS → Prop} (h : p_X11_latest E a0 S Q X) : zM E yX11_latest cX11_latest 1 (some .int) ({ frames := 0, cells := 0, slots := 0, locals := 0 } : Room) [.ref a0] S (qI Q) X := by
  unfold p_X11_latest at h
  refine zM_of RX11 false (by decide) rfl (fun h => by cases h) (Nat.le_of_ble_eq_true rfl) ?_
  refine z_aload_n 0 dX11_latest_0 rfl rfl ?_
  refine z_iconst (v := 0) dX11_latest_1 rfl ?_
  obtain ⟨hf1, h⟩ := h
  have h := h _ rfl
  refine z_putV (c := 11) (j := 0) (ty0 := tyX11) (S' := sI S 1100 a0 0) hf1.1 hf1.2 (Nat.le_of_ble_eq_true rfl) rfl zU_X11 tyX11_ok nmX11 (Nat.le_of_ble_eq_true rfl) (Nat.le_of_ble_eq_true rfl) ⟨_, zw_1298, Or.inl rfl⟩ (.inl rfl) rfl rfl rfl (zUpI (v := 0) hf1.2 (Nat.le_of_ble_eq_true rfl) (Nat.le_of_ble_eq_true rfl) rfl rfl) dX11_latest_2 ?_
  obtain ⟨S2, hS3⟩ : ∃ z, z = sI S 1100 a0 0 := ⟨_, rfl⟩
  rw [← hS3] at h ⊢
  have hf1 : a0 ∈ gL S2 ∧ gK S2 a0 = 11 := by rw [hS3]; exact hf1
  refine z_aload_n 0 dX11_latest_5 rfl rfl ?_
  refine z_getI (c := 11) (j := 41) (f := 1141) hf1.1 hf1.2 (Nat.le_of_ble_eq_true rfl) rfl zU_X11 (Nat.le_of_ble_eq_true rfl) (Nat.le_of_ble_eq_true rfl) ⟨_, zw_1339, Or.inl rfl⟩ rfl rfl dX11_latest_6 ?_
  exact z_ireturn ⟨rfl, _, rfl, h⟩ rfl (Nat.le_of_ble_eq_true rfl) (Nat.le_of_ble_eq_true rfl) dX11_latest_9
