set_option maxRecDepth 20000 in
set_option maxHeartbeats 4000000 in
theorem w_L_bells_J827 {E : zE}  {Q : Int32 → zS → zS → Prop} {X : String → zS → Prop}  (a0 : Nat) (a6 : Nat) (a11 : Nat) (l100 : Int32) (l101 : Int32) (a102 : Nat) (S C : zS) (h : p_L_bells_J827 E  Q X a0 a6 a11 l100 l101 a102 S C) : zJ E (RL, cL_bells, 16, (some .boolean), false, [], zTr) ({ frames := 10, cells := 12, slots := 102, locals := 219 } : Room) (zY E Q) (fun _ _ _ => False) 827 [(0, .ref a0), (6, .ref a6), (11, .ref a11)] [.int l100, .int l101, .ref a102] (zPl E C) S 0 0 := by
  unfold p_L_bells_J827 at h
  obtain ⟨hf17, h⟩ := h
  obtain ⟨j18, hj19, h⟩ := h
  have h := h _ rfl
  refine z_iast (j := j18) hf17.1 hf17.2 hj19.1 hj19.2.1 hj19.2.2 dL_bells_827 ?_
  obtain ⟨S20, hS21⟩ : ∃ z, z = sA S a102 j18 l100 := ⟨_, rfl⟩
  rw [← hS21] at h ⊢
  have hf17 : a102 ∈ gL S20 ∧ gK S20 a102 = 12 := by rw [hS21]; exact hf17
  refine z_aload 2 dL_bells_828 rfl ?_
  refine z_iconst (v := 5) dL_bells_830 rfl ?_
  refine z_iconst (v := 0) dL_bells_831 rfl ?_
  obtain ⟨hf22, h⟩ := h
  obtain ⟨hj24, h⟩ := h
  have h := h _ rfl
  refine z_iast (j := 5) hf22.1 hf22.2 rfl hj24.1 hj24.2 dL_bells_832 ?_
  obtain ⟨S25, hS26⟩ : ∃ z, z = sA S20 a11 5 0 := ⟨_, rfl⟩
  rw [← hS26] at h ⊢
  have hf17 : a102 ∈ gL S25 ∧ gK S25 a102 = 12 := by rw [hS26]; exact hf17
  have hf22 : a11 ∈ gL S25 ∧ gK S25 a11 = 12 := by rw [hS26]; exact hf22
  refine z_aload 1 dL_bells_833 rfl ?_
  refine z_aload 2 dL_bells_835 rfl ?_
  refine z_iconst (v := 2) dL_bells_837 rfl ?_
  obtain ⟨hj28, h⟩ := h
  refine z_iald (j := 2) hf22.1 hf22.2 rfl hj28.1 hj28.2 dL_bells_838 ?_
  refine z_iconst (v := 0) dL_bells_839 rfl ?_
  obtain ⟨hf29, h⟩ := h
  obtain ⟨j30, hj31, h⟩ := h
  have h := h _ rfl
  refine z_iast (j := j30) hf29.1 hf29.2 hj31.1 hj31.2.1 hj31.2.2 dL_bells_840 ?_
  obtain ⟨S32, hS33⟩ : ∃ z, z = sA S25 a6 j30 0 := ⟨_, rfl⟩
  rw [← hS33] at h ⊢
  have hf17 : a102 ∈ gL S32 ∧ gK S32 a102 = 12 := by rw [hS33]; exact hf17
  have hf22 : a11 ∈ gL S32 ∧ gK S32 a11 = 12 := by rw [hS33]; exact hf22
  have hf29 : a6 ∈ gL S32 ∧ gK S32 a6 = 12 := by rw [hS33]; exact hf29
  refine z_aload 2 dL_bells_841 rfl ?_
  refine z_iconst (v := 2) dL_bells_843 rfl ?_
  refine z_dup2 dL_bells_844 rfl rfl ?_
  obtain ⟨hj35, h⟩ := h
  refine z_iald (j := 2) hf22.1 hf22.2 rfl hj35.1 hj35.2 dL_bells_845 ?_
  refine z_iconst (v := 1) dL_bells_846 rfl ?_
  refine z_iadd dL_bells_847 ?_
  obtain ⟨hj37, h⟩ := h
  have h := h _ rfl
  refine z_iast (j := 2) hf22.1 hf22.2 rfl hj37.1 hj37.2 dL_bells_848 ?_
  obtain ⟨S38, hS39⟩ : ∃ z, z = sA S32 a11 2 ((gA S32 a11 2) + 1) := ⟨_, rfl⟩
  rw [← hS39] at h ⊢
  have hf17 : a102 ∈ gL S38 ∧ gK S38 a102 = 12 := by rw [hS39]; exact hf17
  have hf22 : a11 ∈ gL S38 ∧ gK S38 a11 = 12 := by rw [hS39]; exact hf22
  have hf29 : a6 ∈ gL S38 ∧ gK S38 a6 = 12 := by rw [hS39]; exact hf29
  refine z_aload_n 0 dL_bells_849 rfl rfl ?_
  refine zz_fl ?_
  refine z_callW (st := []) (w_L_pass h) zw_914 zw_912 zw_913 zw_29 zy_L_pass rfl rfl ⟨Nat.le_of_ble_eq_true rfl, Nat.le_of_ble_eq_true rfl⟩ ⟨(Nat.le_of_ble_eq_true rfl), (Nat.le_of_ble_eq_true rfl)⟩ (Nat.le_of_ble_eq_true rfl) dL_bells_850 (fun r41 C40 h => ?_)
  refine z_widen (k' := 2) (n' := 12) (Nat.le_refl _) (Nat.le_refl _) ?_
  refine zz_fl ?_
  refine z_aload 2 dL_bells_853 rfl ?_
  refine z_iconst (v := 2) dL_bells_855 rfl ?_
  obtain ⟨hj43, h⟩ := h
  refine z_iald (j := 2) hf22.1 hf22.2 rfl hj43.1 hj43.2 dL_bells_856 ?_
  refine z_icmp_ne 864 dL_bells_857 (by decide) (fun c46 => ?_) (fun c46 => ?_)
  · have h := h.1 c46
    refine z_iconst (v := 0) dL_bells_864 rfl ?_
    obtain ⟨hz44, h⟩ := h
    exact z_zreturn ⟨_, _, rfl, rfl, h⟩ rfl (zbn hz44) (Nat.le_of_ble_eq_true rfl) (Nat.le_of_ble_eq_true rfl) dL_bells_865
  · have h := h.2 c46
    refine z_iconst (v := 1) dL_bells_860 rfl ?_
    refine z_goto 865 dL_bells_861 (by decide) ?_
    obtain ⟨hz45, h⟩ := h
    exact z_zreturn ⟨_, _, rfl, rfl, h⟩ rfl (zbn hz45) (Nat.le_of_ble_eq_true rfl) (Nat.le_of_ble_eq_true rfl) dL_bells_865
set_option maxRecDepth 20000 in
set_option maxHeartbeats 4000000 in
theorem w_L_bells_J522 {E : zE}  {Q : Int32 → zS → zS → Prop} {X : String → zS → Prop}  (a0 : Nat) (l2 : Int32) (a4 : Nat) (a5 : Nat) (a6 : Nat) (a8 : Nat) (a10 : Nat) (a11 : Nat) (l100 : Int32) (S C : zS) (h : p_L_bells_J522 E  Q X a0 l2 a4 a5 a6 a8 a10 a11 l100 S C) : zJ E (RL, cL_bells, 16, (some .boolean), false, [], zTr) ({ frames := 10, cells := 12, slots := 102, locals := 219 } : Room) (zY E Q) (fun _ _ _ => False) 522 [(0, .ref a0), (2, .int l2), (4, .ref a4), (5, .ref a5), (6, .ref a6), (8, .ref a8), (10, .ref a10), (11, .ref a11)] [.int l100] (zPl E C) S 0 0 := by
  unfold p_L_bells_J522 at h
  refine z_istore (lv' := [(13, .int l100), (0, .ref a0), (2, .int l2), (4, .ref a4), (5, .ref a5), (6, .ref a6), (8, .ref a8), (10, .ref a10), (11, .ref a11)]) dL_bells_522 (Nat.le_of_ble_eq_true rfl) rfl ?_
  refine z_iload_n 2 dL_bells_524 rfl rfl ?_
  refine z_aload 8 dL_bells_525 rfl ?_
  refine z_iconst (v := 1) dL_bells_527 rfl ?_
  obtain ⟨hf69, h⟩ := h
  obtain ⟨hj71, h⟩ := h
  refine z_iald (j := 1) hf69.1 hf69.2 rfl hj71.1 hj71.2 dL_bells_528 ?_
  refine z_iconst (v := 1) dL_bells_529 rfl ?_
  refine z_iadd dL_bells_530 ?_
  refine z_callSI (st := []) (w_L_low h) zw_313 zw_311 zw_312 zw_29 zy_L_low rfl rfl ⟨Nat.le_of_ble_eq_true rfl, Nat.le_of_ble_eq_true rfl⟩ ⟨(Nat.le_of_ble_eq_true rfl), (Nat.le_of_ble_eq_true rfl)⟩ (Nat.le_of_ble_eq_true rfl) dL_bells_531 (fun _ _ hx => hx.elim) (fun r73 S72 h => ?_)
  refine z_widen (k' := 0) (n' := 0) (Nat.le_refl _) (Nat.le_refl _) ?_
  refine z_istore (lv' := [(14, .int r73), (13, .int l100), (0, .ref a0), (2, .int l2), (4, .ref a4), (5, .ref a5), (6, .ref a6), (8, .ref a8), (10, .ref a10), (11, .ref a11)]) dL_bells_534 (Nat.le_of_ble_eq_true rfl) rfl ?_
  refine z_iload 0 dL_bells_536 rfl ?_
  refine z_aload 9 dL_bells_538 rfl ?_
  refine z_iconst (v := 1) dL_bells_540 rfl ?_
  obtain ⟨hf74, h⟩ := h
  obtain ⟨hj76, h⟩ := h
  refine z_iald (j := 1) hf74.1 hf74.2 rfl hj76.1 hj76.2 dL_bells_541 ?_
  refine z_icmp_ne 578 dL_bells_542 (by decide) (fun c153 => ?_) (fun c153 => ?_)
  · have h := h.1 c153
    refine z_aload_n 2 dL_bells_578 rfl rfl ?_
    refine z_bipush (v := 61) dL_bells_579 rfl ?_
    refine z_iload 0 dL_bells_581 rfl ?_
    refine zz_fl ?_
    refine z_callW (st := []) (w_L_plan h) zw_886 zw_884 zw_885 zw_29 zy_L_plan rfl rfl ⟨Nat.le_of_ble_eq_true rfl, Nat.le_of_ble_eq_true rfl⟩ ⟨(Nat.le_of_ble_eq_true rfl), (Nat.le_of_ble_eq_true rfl)⟩ (Nat.le_of_ble_eq_true rfl) dL_bells_583 (fun r78 C77 h => ?_)
    refine z_widen (k' := 3) (n' := 34) (Nat.le_refl _) (Nat.le_refl _) ?_
    refine zz_fl ?_
    refine z_sipush (v := (-7200)) dL_bells_586 rfl ?_
    refine z_icmp_ne 610 dL_bells_589 (by decide) (fun c143 => ?_) (fun c143 => ?_)
    · have h := h.1 c143
      refine z_iconst (v := 0) dL_bells_610 rfl ?_
      obtain ⟨hz79, h⟩ := h
      exact z_zreturn ⟨_, _, rfl, rfl, h⟩ rfl (zbn hz79) (Nat.le_of_ble_eq_true rfl) (Nat.le_of_ble_eq_true rfl) dL_bells_611
    · have h := h.2 c143
      refine z_aload_n 2 dL_bells_592 rfl rfl ?_
      refine z_aload 9 dL_bells_593 rfl ?_
      refine z_iconst (v := 2) dL_bells_595 rfl ?_
      obtain ⟨hj81, h⟩ := h
      refine z_iald (j := 2) hf74.1 hf74.2 rfl hj81.1 hj81.2 dL_bells_596 ?_
      refine z_iconst (v := 1) dL_bells_597 rfl ?_
      refine z_isub dL_bells_598 ?_
      refine z_iload 0 dL_bells_599 rfl ?_
      refine zz_fl ?_
      refine z_callW (st := []) (w_L_plan h) zw_886 zw_884 zw_885 zw_29 zy_L_plan rfl rfl ⟨Nat.le_of_ble_eq_true rfl, Nat.le_of_ble_eq_true rfl⟩ ⟨(Nat.le_of_ble_eq_true rfl), (Nat.le_of_ble_eq_true rfl)⟩ (Nat.le_of_ble_eq_true rfl) dL_bells_601 (fun r83 C82 h => ?_)
      refine z_widen (k' := 6) (n' := 68) (Nat.le_refl _) (Nat.le_refl _) ?_
      refine zz_fl ?_
      refine z_sipush (v := (-7200)) dL_bells_604 rfl ?_
      refine z_icmp_eq 612 dL_bells_607 (by decide) (fun c142 => ?_) (fun c142 => ?_)
      · have h := h.1 c142
        refine z_aload 6 dL_bells_612 rfl ?_
        refine z_iload 1 dL_bells_614 rfl ?_
        obtain ⟨hf84, h⟩ := h
        obtain ⟨j85, hj86, h⟩ := h
        refine z_iald (j := j85) hf84.1 hf84.2 hj86.1 hj86.2.1 hj86.2.2 dL_bells_616 ?_
        refine z_bipush (v := 7) dL_bells_617 rfl ?_
        refine z_iand dL_bells_619 ?_
        refine z_iconst (v := 4) dL_bells_620 rfl ?_
        refine z_icmp_eq 668 dL_bells_621 (by decide) (fun c140 => ?_) (fun c140 => ?_)
        · have h := h.1 c140
          refine z_aload_n 2 dL_bells_668 rfl rfl ?_
          refine z_iload 1 dL_bells_669 rfl ?_
          refine z_iload 0 dL_bells_671 rfl ?_
          refine zz_fl ?_
          refine z_callW (st := []) (w_L_plan h) zw_886 zw_884 zw_885 zw_29 zy_L_plan rfl rfl ⟨Nat.le_of_ble_eq_true rfl, Nat.le_of_ble_eq_true rfl⟩ ⟨(Nat.le_of_ble_eq_true rfl), (Nat.le_of_ble_eq_true rfl)⟩ (Nat.le_of_ble_eq_true rfl) dL_bells_673 (fun r88 C87 h => ?_)
          refine z_widen (k' := 9) (n' := 102) (Nat.le_refl _) (Nat.le_refl _) ?_
          refine zz_fl ?_
          refine z_sipush (v := (-7300)) dL_bells_676 rfl ?_
          refine z_icmp_ne 686 dL_bells_679 (by decide) (fun c91 => ?_) (fun c91 => ?_)
          · have h := h.1 c91
            refine z_iconst (v := 0) dL_bells_686 rfl ?_
            obtain ⟨hz89, h⟩ := h
            exact z_zreturn ⟨_, _, rfl, rfl, h⟩ rfl (zbn hz89) (Nat.le_of_ble_eq_true rfl) (Nat.le_of_ble_eq_true rfl) dL_bells_687
          · have h := h.2 c91
            refine z_iconst (v := 1) dL_bells_682 rfl ?_
            refine z_goto 687 dL_bells_683 (by decide) ?_
            obtain ⟨hz90, h⟩ := h
            exact z_zreturn ⟨_, _, rfl, rfl, h⟩ rfl (zbn hz90) (Nat.le_of_ble_eq_true rfl) (Nat.le_of_ble_eq_true rfl) dL_bells_687
        · have h := h.2 c140
          refine z_aload 6 dL_bells_624 rfl ?_
          refine z_iload 1 dL_bells_626 rfl ?_
          refine z_iload 0 dL_bells_628 rfl ?_
          refine z_callSI (st := []) (w_L_planAt h) zw_911 zw_909 zw_910 zw_29 zy_L_planAt rfl rfl ⟨Nat.le_of_ble_eq_true rfl, Nat.le_of_ble_eq_true rfl⟩ ⟨(Nat.le_of_ble_eq_true rfl), (Nat.le_of_ble_eq_true rfl)⟩ (Nat.le_of_ble_eq_true rfl) dL_bells_630 (fun _ _ hx => hx.elim) (fun r93 S92 h => ?_)
          refine z_widen (k' := 6) (n' := 68) (Nat.le_refl _) (Nat.le_refl _) ?_
          refine z_if_ge 668 dL_bells_633 (by decide) (fun c139 => ?_) (fun c139 => ?_)
          · have h := h.1 c139
            refine z_aload_n 2 dL_bells_668 rfl rfl ?_
            refine z_iload 1 dL_bells_669 rfl ?_
            refine z_iload 0 dL_bells_671 rfl ?_
            refine zz_fl ?_
            refine z_callW (st := []) (w_L_plan h) zw_886 zw_884 zw_885 zw_29 zy_L_plan rfl rfl ⟨Nat.le_of_ble_eq_true rfl, Nat.le_of_ble_eq_true rfl⟩ ⟨(Nat.le_of_ble_eq_true rfl), (Nat.le_of_ble_eq_true rfl)⟩ (Nat.le_of_ble_eq_true rfl) dL_bells_673 (fun r95 C94 h => ?_)
            refine z_widen (k' := 9) (n' := 102) (Nat.le_refl _) (Nat.le_refl _) ?_
            refine zz_fl ?_
            refine z_sipush (v := (-7300)) dL_bells_676 rfl ?_
            refine z_icmp_ne 686 dL_bells_679 (by decide) (fun c98 => ?_) (fun c98 => ?_)
            · have h := h.1 c98
              refine z_iconst (v := 0) dL_bells_686 rfl ?_
              obtain ⟨hz96, h⟩ := h
              exact z_zreturn ⟨_, _, rfl, rfl, h⟩ rfl (zbn hz96) (Nat.le_of_ble_eq_true rfl) (Nat.le_of_ble_eq_true rfl) dL_bells_687
            · have h := h.2 c98
              refine z_iconst (v := 1) dL_bells_682 rfl ?_
              refine z_goto 687 dL_bells_683 (by decide) ?_
              obtain ⟨hz97, h⟩ := h
              exact z_zreturn ⟨_, _, rfl, rfl, h⟩ rfl (zbn hz97) (Nat.le_of_ble_eq_true rfl) (Nat.le_of_ble_eq_true rfl) dL_bells_687
          · have h := h.2 c139
            refine z_aload 4 dL_bells_636 rfl ?_
            refine z_aload 5 dL_bells_638 rfl ?_
            refine z_iload 0 dL_bells_640 rfl ?_
            obtain ⟨hf99, h⟩ := h
            obtain ⟨j100, hj101, h⟩ := h
            refine z_iald (j := j100) hf99.1 hf99.2 hj101.1 hj101.2.1 hj101.2.2 dL_bells_642 ?_
            refine z_aload 8 dL_bells_643 rfl ?_
            refine z_callSI (st := []) (w_L_isSound h) zw_806 zw_804 zw_805 zw_29 zy_L_isSound rfl rfl ⟨Nat.le_of_ble_eq_true rfl, Nat.le_of_ble_eq_true rfl⟩ ⟨(Nat.le_of_ble_eq_true rfl), (Nat.le_of_ble_eq_true rfl)⟩ (Nat.le_of_ble_eq_true rfl) dL_bells_645 (fun _ _ hx => hx.elim) (fun r103 S102 h => ?_)
            refine z_widen (k' := 6) (n' := 68) (Nat.le_refl _) (Nat.le_refl _) ?_
            refine z_if_eq 668 dL_bells_648 (by decide) (fun c138 => ?_) (fun c138 => ?_)
            · have h := h.1 c138
              refine z_aload_n 2 dL_bells_668 rfl rfl ?_
              refine z_iload 1 dL_bells_669 rfl ?_
              refine z_iload 0 dL_bells_671 rfl ?_
              refine zz_fl ?_
              refine z_callW (st := []) (w_L_plan h) zw_886 zw_884 zw_885 zw_29 zy_L_plan rfl rfl ⟨Nat.le_of_ble_eq_true rfl, Nat.le_of_ble_eq_true rfl⟩ ⟨(Nat.le_of_ble_eq_true rfl), (Nat.le_of_ble_eq_true rfl)⟩ (Nat.le_of_ble_eq_true rfl) dL_bells_673 (fun r105 C104 h => ?_)
              refine z_widen (k' := 9) (n' := 102) (Nat.le_refl _) (Nat.le_refl _) ?_
              refine zz_fl ?_
              refine z_sipush (v := (-7300)) dL_bells_676 rfl ?_
              refine z_icmp_ne 686 dL_bells_679 (by decide) (fun c108 => ?_) (fun c108 => ?_)
              · have h := h.1 c108
                refine z_iconst (v := 0) dL_bells_686 rfl ?_
                obtain ⟨hz106, h⟩ := h
                exact z_zreturn ⟨_, _, rfl, rfl, h⟩ rfl (zbn hz106) (Nat.le_of_ble_eq_true rfl) (Nat.le_of_ble_eq_true rfl) dL_bells_687
              · have h := h.2 c108
                refine z_iconst (v := 1) dL_bells_682 rfl ?_
                refine z_goto 687 dL_bells_683 (by decide) ?_
                obtain ⟨hz107, h⟩ := h
                exact z_zreturn ⟨_, _, rfl, rfl, h⟩ rfl (zbn hz107) (Nat.le_of_ble_eq_true rfl) (Nat.le_of_ble_eq_true rfl) dL_bells_687
            · have h := h.2 c138
              refine z_aload 7 dL_bells_651 rfl ?_
              refine z_aload 4 dL_bells_653 rfl ?_
              refine z_aload 5 dL_bells_655 rfl ?_
              refine z_iload 0 dL_bells_657 rfl ?_
              refine z_callSI (st := [.ref a8]) (w_L_stageIn h) zw_800 zw_798 zw_799 zw_29 zy_L_stageIn rfl rfl ⟨Nat.le_of_ble_eq_true rfl, Nat.le_of_ble_eq_true rfl⟩ ⟨(Nat.le_of_ble_eq_true rfl), (Nat.le_of_ble_eq_true rfl)⟩ (Nat.le_of_ble_eq_true rfl) dL_bells_659 (fun _ _ hx => hx.elim) (fun r110 S109 h => ?_)
              refine z_widen (k' := 6) (n' := 68) (Nat.le_refl _) (Nat.le_refl _) ?_
              refine z_callSI (st := []) (w_L_areIn h) zw_803 zw_801 zw_802 zw_29 zy_L_areIn rfl rfl ⟨Nat.le_of_ble_eq_true rfl, Nat.le_of_ble_eq_true rfl⟩ ⟨(Nat.le_of_ble_eq_true rfl), (Nat.le_of_ble_eq_true rfl)⟩ (Nat.le_of_ble_eq_true rfl) dL_bells_662 (fun _ _ hx => hx.elim) (fun r112 S111 h => ?_)
              refine z_widen (k' := 6) (n' := 68) (Nat.le_refl _) (Nat.le_refl _) ?_
              refine z_if_ne 688 dL_bells_665 (by decide) (fun c137 => ?_) (fun c137 => ?_)
              · have h := h.1 c137
                refine z_aload 6 dL_bells_688 rfl ?_
                refine z_iload 1 dL_bells_690 rfl ?_
                refine z_aload 6 dL_bells_692 rfl ?_
                refine z_iload 1 dL_bells_694 rfl ?_
                obtain ⟨hf113, h⟩ := h
                obtain ⟨j114, hj115, h⟩ := h
                refine z_iald (j := j114) hf113.1 hf113.2 hj115.1 hj115.2.1 hj115.2.2 dL_bells_696 ?_
                refine z_bipush (v := 7) dL_bells_697 rfl ?_
                refine z_iand dL_bells_699 ?_
                refine z_iconst (v := 1) dL_bells_700 rfl ?_
                refine z_iadd dL_bells_701 ?_
                refine z_bipush (v := 8) dL_bells_702 rfl ?_
                refine z_aload 6 dL_bells_704 rfl ?_
                refine z_iload 1 dL_bells_706 rfl ?_
                obtain ⟨j116, hj117, h⟩ := h
                refine z_iald (j := j116) hf113.1 hf113.2 hj117.1 hj117.2.1 hj117.2.2 dL_bells_708 ?_
                refine z_iconst (v := 3) dL_bells_709 rfl ?_
                refine z_ishr dL_bells_710 ?_
                refine z_iload 0 dL_bells_711 rfl ?_
                refine z_iconst (v := 2) dL_bells_713 rfl ?_
                refine z_aload 6 dL_bells_714 rfl ?_
                refine z_iload 1 dL_bells_716 rfl ?_
                obtain ⟨j118, hj119, h⟩ := h
                refine z_iald (j := j118) hf113.1 hf113.2 hj119.1 hj119.2.1 hj119.2.2 dL_bells_718 ?_
                refine z_bipush (v := 7) dL_bells_719 rfl ?_
                refine z_iand dL_bells_721 ?_
                refine z_imul dL_bells_722 ?_
                refine z_ishl dL_bells_723 ?_
                refine z_ior dL_bells_724 ?_
                refine z_imul dL_bells_725 ?_
                refine z_iadd dL_bells_726 ?_
                obtain ⟨j120, hj121, h⟩ := h
                have h := h _ rfl
                refine z_iast (j := j120) hf113.1 hf113.2 hj121.1 hj121.2.1 hj121.2.2 dL_bells_727 ?_
                obtain ⟨S122, hS123⟩ : ∃ z, z = sA S111 a6 j120 ((((gA S111 a6 j114) &&& 7) + 1) + (8 * (((gA S111 a6 j116) >>> ((3 : Int32) &&& 31)) ||| (r73 <<< ((2 * ((gA S111 a6 j118) &&& 7)) &&& 31))))) := ⟨_, rfl⟩
                rw [← hS123] at h ⊢
                have hf113 : a6 ∈ gL S122 ∧ gK S122 a6 = 12 := by rw [hS123]; exact hf113
                refine z_aload_n 2 dL_bells_728 rfl rfl ?_
                refine z_iload 1 dL_bells_729 rfl ?_
                refine z_iload 0 dL_bells_731 rfl ?_
                refine zz_fl ?_
                refine z_callW (st := []) (w_L_plan h) zw_886 zw_884 zw_885 zw_29 zy_L_plan rfl rfl ⟨Nat.le_of_ble_eq_true rfl, Nat.le_of_ble_eq_true rfl⟩ ⟨(Nat.le_of_ble_eq_true rfl), (Nat.le_of_ble_eq_true rfl)⟩ (Nat.le_of_ble_eq_true rfl) dL_bells_733 (fun r125 C124 h => ?_)
                refine z_widen (k' := 9) (n' := 102) (Nat.le_refl _) (Nat.le_refl _) ?_
                refine zz_fl ?_
                refine z_aload 6 dL_bells_736 rfl ?_
                refine z_iload 1 dL_bells_738 rfl ?_
                obtain ⟨j126, hj127, h⟩ := h
                refine z_iald (j := j126) hf113.1 hf113.2 hj127.1 hj127.2.1 hj127.2.2 dL_bells_740 ?_
                refine z_bipush (v := 7) dL_bells_741 rfl ?_
                refine z_iand dL_bells_743 ?_
                refine z_icmp_ne 751 dL_bells_744 (by decide) (fun c130 => ?_) (fun c130 => ?_)
                · have h := h.1 c130
                  refine z_iconst (v := 0) dL_bells_751 rfl ?_
                  obtain ⟨hz128, h⟩ := h
                  exact z_zreturn ⟨_, _, rfl, rfl, h⟩ rfl (zbn hz128) (Nat.le_of_ble_eq_true rfl) (Nat.le_of_ble_eq_true rfl) dL_bells_752
                · have h := h.2 c130
                  refine z_iconst (v := 1) dL_bells_747 rfl ?_
                  refine z_goto 752 dL_bells_748 (by decide) ?_
                  obtain ⟨hz129, h⟩ := h
                  exact z_zreturn ⟨_, _, rfl, rfl, h⟩ rfl (zbn hz129) (Nat.le_of_ble_eq_true rfl) (Nat.le_of_ble_eq_true rfl) dL_bells_752
              · have h := h.2 c137
                refine z_aload_n 2 dL_bells_668 rfl rfl ?_
                refine z_iload 1 dL_bells_669 rfl ?_
                refine z_iload 0 dL_bells_671 rfl ?_
                refine zz_fl ?_
                refine z_callW (st := []) (w_L_plan h) zw_886 zw_884 zw_885 zw_29 zy_L_plan rfl rfl ⟨Nat.le_of_ble_eq_true rfl, Nat.le_of_ble_eq_true rfl⟩ ⟨(Nat.le_of_ble_eq_true rfl), (Nat.le_of_ble_eq_true rfl)⟩ (Nat.le_of_ble_eq_true rfl) dL_bells_673 (fun r133 C132 h => ?_)
                refine z_widen (k' := 9) (n' := 102) (Nat.le_refl _) (Nat.le_refl _) ?_
                refine zz_fl ?_
                refine z_sipush (v := (-7300)) dL_bells_676 rfl ?_
                refine z_icmp_ne 686 dL_bells_679 (by decide) (fun c136 => ?_) (fun c136 => ?_)
                · have h := h.1 c136
                  refine z_iconst (v := 0) dL_bells_686 rfl ?_
                  obtain ⟨hz134, h⟩ := h
                  exact z_zreturn ⟨_, _, rfl, rfl, h⟩ rfl (zbn hz134) (Nat.le_of_ble_eq_true rfl) (Nat.le_of_ble_eq_true rfl) dL_bells_687
                · have h := h.2 c136
                  refine z_iconst (v := 1) dL_bells_682 rfl ?_
                  refine z_goto 687 dL_bells_683 (by decide) ?_
                  obtain ⟨hz135, h⟩ := h
                  exact z_zreturn ⟨_, _, rfl, rfl, h⟩ rfl (zbn hz135) (Nat.le_of_ble_eq_true rfl) (Nat.le_of_ble_eq_true rfl) dL_bells_687
      · have h := h.2 c142
        refine z_iconst (v := 0) dL_bells_610 rfl ?_
        obtain ⟨hz141, h⟩ := h
        exact z_zreturn ⟨_, _, rfl, rfl, h⟩ rfl (zbn hz141) (Nat.le_of_ble_eq_true rfl) (Nat.le_of_ble_eq_true rfl) dL_bells_611
  · have h := h.2 c153
    refine z_aload_n 2 dL_bells_545 rfl rfl ?_
    refine z_bipush (v := 60) dL_bells_546 rfl ?_
    refine z_iload 0 dL_bells_548 rfl ?_
    refine zz_fl ?_
    refine z_callW (st := []) (w_L_plan h) zw_886 zw_884 zw_885 zw_29 zy_L_plan rfl rfl ⟨Nat.le_of_ble_eq_true rfl, Nat.le_of_ble_eq_true rfl⟩ ⟨(Nat.le_of_ble_eq_true rfl), (Nat.le_of_ble_eq_true rfl)⟩ (Nat.le_of_ble_eq_true rfl) dL_bells_550 (fun r145 C144 h => ?_)
    refine z_widen (k' := 3) (n' := 34) (Nat.le_refl _) (Nat.le_refl _) ?_
    refine zz_fl ?_
    refine z_sipush (v := (-7100)) dL_bells_553 rfl ?_
    refine z_icmp_ne 576 dL_bells_556 (by decide) (fun c152 => ?_) (fun c152 => ?_)
    · have h := h.1 c152
      refine z_iconst (v := 0) dL_bells_576 rfl ?_
      obtain ⟨hz146, h⟩ := h
      exact z_zreturn ⟨_, _, rfl, rfl, h⟩ rfl (zbn hz146) (Nat.le_of_ble_eq_true rfl) (Nat.le_of_ble_eq_true rfl) dL_bells_577
    · have h := h.2 c152
      refine z_aload_n 2 dL_bells_559 rfl rfl ?_
      refine z_bipush (v := 61) dL_bells_560 rfl ?_
      refine z_iconst (v := (-1)) dL_bells_562 rfl ?_
      refine zz_fl ?_
      refine z_callW (st := []) (w_L_plan h) zw_886 zw_884 zw_885 zw_29 zy_L_plan rfl rfl ⟨Nat.le_of_ble_eq_true rfl, Nat.le_of_ble_eq_true rfl⟩ ⟨(Nat.le_of_ble_eq_true rfl), (Nat.le_of_ble_eq_true rfl)⟩ (Nat.le_of_ble_eq_true rfl) dL_bells_563 (fun r148 C147 h => ?_)
      refine z_widen (k' := 6) (n' := 68) (Nat.le_refl _) (Nat.le_refl _) ?_
      refine zz_fl ?_
      refine z_sipush (v := (-7100)) dL_bells_566 rfl ?_
      refine z_icmp_ne 576 dL_bells_569 (by decide) (fun c151 => ?_) (fun c151 => ?_)
      · have h := h.1 c151
        refine z_iconst (v := 0) dL_bells_576 rfl ?_
        obtain ⟨hz149, h⟩ := h
        exact z_zreturn ⟨_, _, rfl, rfl, h⟩ rfl (zbn hz149) (Nat.le_of_ble_eq_true rfl) (Nat.le_of_ble_eq_true rfl) dL_bells_577
      · have h := h.2 c151
        refine z_iconst (v := 1) dL_bells_572 rfl ?_
        refine z_goto 577 dL_bells_573 (by decide) ?_
        obtain ⟨hz150, h⟩ := h
        exact z_zreturn ⟨_, _, rfl, rfl, h⟩ rfl (zbn hz150) (Nat.le_of_ble_eq_true rfl) (Nat.le_of_ble_eq_true rfl) dL_bells_577
set_option maxRecDepth 20000 in
set_option maxHeartbeats 4000000 in
theorem w_L_bells_J499 {E : zE}  {Q : Int32 → zS → zS → Prop} {X : String → zS → Prop}  (a0 : Nat) (l2 : Int32) (l3 : Int32) (a4 : Nat) (a5 : Nat) (a6 : Nat) (a8 : Nat) (a10 : Nat) (a11 : Nat) (l100 : Int32) (l101 : Int32) (l102 : Int32) (S C : zS) (h : p_L_bells_J499 E  Q X a0 l2 l3 a4 a5 a6 a8 a10 a11 l100 l101 l102 S C) : zJ E (RL, cL_bells, 16, (some .boolean), false, [], zTr) ({ frames := 10, cells := 12, slots := 102, locals := 219 } : Room) (zY E Q) (fun _ _ _ => False) 499 [(0, .ref a0), (2, .int l2), (3, .int l3), (4, .ref a4), (5, .ref a5), (6, .ref a6), (8, .ref a8), (10, .ref a10), (11, .ref a11)] [.int l100, .int l101, .int l102] (zPl E C) S 0 0 := by
  unfold p_L_bells_J499 at h
  refine z_callSI (st := [.int l102]) (w_L_low h) zw_313 zw_311 zw_312 zw_29 zy_L_low rfl rfl ⟨Nat.le_of_ble_eq_true rfl, Nat.le_of_ble_eq_true rfl⟩ ⟨(Nat.le_of_ble_eq_true rfl), (Nat.le_of_ble_eq_true rfl)⟩ (Nat.le_of_ble_eq_true rfl) dL_bells_499 (fun _ _ hx => hx.elim) (fun r68 S67 h => ?_)
  refine z_widen (k' := 0) (n' := 0) (Nat.le_refl _) (Nat.le_refl _) ?_
  refine z_iadd dL_bells_502 ?_
  refine z_istore (lv' := [(13, .int (l102 + r68)), (0, .ref a0), (2, .int l2), (3, .int l3), (4, .ref a4), (5, .ref a5), (6, .ref a6), (8, .ref a8), (10, .ref a10), (11, .ref a11)]) dL_bells_503 (Nat.le_of_ble_eq_true rfl) rfl ?_
  refine z_iload_n 3 dL_bells_505 rfl rfl ?_
  refine z_sipush (v := 1536) dL_bells_506 rfl ?_
  refine z_iand dL_bells_509 ?_
  refine z_if_le 520 dL_bells_510 (by decide) (fun c157 => ?_) (fun c157 => ?_)
  · have h := h.1 c157
    refine z_iload 0 dL_bells_520 rfl ?_
    refine z_sub [1, 2, 4, 5, 6, 7, 8, 9] rfl ?_
    refine w_L_bells_J522 a0 l2 a4 a5 a6 a8 a10 a11 (l102 + r68) S67 C h
  · have h := h.2 c157
    refine z_aload 9 dL_bells_513 rfl ?_
    refine z_iconst (v := 2) dL_bells_515 rfl ?_
    obtain ⟨hf154, h⟩ := h
    obtain ⟨hj156, h⟩ := h
    refine z_iald (j := 2) hf154.1 hf154.2 rfl hj156.1 hj156.2 dL_bells_516 ?_
    refine z_goto 522 dL_bells_517 (by decide) ?_
    refine z_sub [1, 2, 4, 5, 6, 7, 8, 9] rfl ?_
    refine w_L_bells_J522 a0 l2 a4 a5 a6 a8 a10 a11 (gA S67 a11 2) S67 C h
set_option maxRecDepth 20000 in
set_option maxHeartbeats 4000000 in
theorem w_L_bells_L122 {E : zE} {K154 : Nat → Nat → Int32 → zS → zS → Prop} {Q : Int32 → zS → zS → Prop} {X : String → zS → Prop} (hK154 : ∀ (a0 : Nat) (a8 : Nat) (l12 : Int32) (S C : zS), K154 a0 a8 l12 S C → zJ E (RL, cL_bells, 16, (some .boolean), false, [], zTr) ({ frames := 10, cells := 12, slots := 102, locals := 219 } : Room) (zY E Q) (fun _ _ _ => False) 154 [(0, .ref a0), (8, .ref a8), (12, .int l12)] [] (zPl E C) S 0 0) : ∀ (m122 : Nat) (a0 : Nat) (a8 : Nat) (l12 : Int32) (l13 : Int32) (S C : zS), p_L_bells_L122 E K154 Q X m122 a0 a8 l12 l13 S C → zJ E (RL, cL_bells, 16, (some .boolean), false, [], zTr) ({ frames := 10, cells := 12, slots := 102, locals := 219 } : Room) (zY E Q) (fun _ _ _ => False) 122 [(0, .ref a0), (8, .ref a8), (12, .int l12), (13, .int l13)] [] (zPl E C) S 0 0 := by
  intro m122
  induction m122 with
  | zero => intro a0 a8 l12 l13 S C h; exact (show False from h).elim
  | succ m122 ih =>
    intro a0 a8 l12 l13 S C h
    unfold p_L_bells_L122 at h
    refine z_iload 3 dL_bells_122 rfl ?_
    refine z_bipush (v := 6) dL_bells_124 rfl ?_
    refine z_icmp_ge 154 dL_bells_126 (by decide) (fun c239 => ?_) (fun c239 => ?_)
    · have h := h.1 c239
      refine z_sub [0, 1, 2] rfl ?_
      exact hK154 a0 a8 l12 S C h
    · have h := h.2 c239
      refine z_aload 1 dL_bells_129 rfl ?_
      refine z_iload 2 dL_bells_131 rfl ?_
      obtain ⟨hf235, h⟩ := h
      obtain ⟨j236, hj237, h⟩ := h
      refine z_iald (j := j236) hf235.1 hf235.2 hj237.1 hj237.2.1 hj237.2.2 dL_bells_133 ?_
      refine z_iconst (v := 1) dL_bells_134 rfl ?_
      refine z_iand dL_bells_135 ?_
      refine z_if_ne 154 dL_bells_136 (by decide) (fun c238 => ?_) (fun c238 => ?_)
      · have h := h.1 c238
        refine z_sub [0, 1, 2] rfl ?_
        exact hK154 a0 a8 l12 S C h
      · have h := h.2 c238
        refine z_iload 2 dL_bells_139 rfl ?_
        refine z_iconst (v := 1) dL_bells_141 rfl ?_
        refine z_iadd dL_bells_142 ?_
        refine z_bipush (v := 6) dL_bells_143 rfl ?_
        refine z_irem dL_bells_145 (by decide) ?_
        refine z_istore (lv' := [(12, .int ((l12 + 1) - (l12 + 1) / 6 * 6)), (0, .ref a0), (8, .ref a8), (13, .int l13)]) dL_bells_146 (Nat.le_of_ble_eq_true rfl) rfl ?_
        refine z_iinc (v := (l13 + 1)) (lv' := [(13, .int (l13 + 1)), (12, .int ((l12 + 1) - (l12 + 1) / 6 * 6)), (0, .ref a0), (8, .ref a8)]) 3 dL_bells_148 rfl rfl (Nat.le_of_ble_eq_true rfl) rfl ?_
        refine z_goto 122 dL_bells_151 (by decide) ?_
        refine z_sub [2, 3, 1, 0] rfl ?_
        exact ih a0 a8 ((l12 + 1) - (l12 + 1) / 6 * 6) (l13 + 1) S C h
set_option maxRecDepth 20000 in
set_option maxHeartbeats 4000000 in
theorem w_L_bells_J154 {E : zE}  {Q : Int32 → zS → zS → Prop} {X : String → zS → Prop}  (a0 : Nat) (a8 : Nat) (l12 : Int32) (S C : zS) (h : p_L_bells_J154 E  Q X a0 a8 l12 S C) : zJ E (RL, cL_bells, 16, (some .boolean), false, [], zTr) ({ frames := 10, cells := 12, slots := 102, locals := 219 } : Room) (zY E Q) (fun _ _ _ => False) 154 [(0, .ref a0), (8, .ref a8), (12, .int l12)] [] (zPl E C) S 0 0 := by
  unfold p_L_bells_J154 at h
  refine z_aload_n 0 dL_bells_154 rfl rfl ?_
  refine z_bipush (v := 6) dL_bells_155 rfl ?_
  refine zz_fl ?_
  refine z_callW (st := []) (w_L_bringIn h) zw_859 zw_857 zw_858 zw_29 zy_L_bringIn rfl rfl ⟨Nat.le_of_ble_eq_true rfl, Nat.le_of_ble_eq_true rfl⟩ ⟨(Nat.le_of_ble_eq_true rfl), (Nat.le_of_ble_eq_true rfl)⟩ (Nat.le_of_ble_eq_true rfl) dL_bells_157 (fun r241 C240 h => ?_)
  refine z_widen (k' := 2) (n' := 12) (Nat.le_refl _) (Nat.le_refl _) ?_
  refine zz_fl ?_
  refine z_sipush (v := (-7100)) dL_bells_160 rfl ?_
  refine z_icmp_eq 168 dL_bells_163 (by decide) (fun c270 => ?_) (fun c270 => ?_)
  · have h := h.1 c270
    refine z_aload 1 dL_bells_168 rfl ?_
    refine z_iload 2 dL_bells_170 rfl ?_
    obtain ⟨hf242, h⟩ := h
    obtain ⟨j243, hj244, h⟩ := h
    refine z_iald (j := j243) hf242.1 hf242.2 hj244.1 hj244.2.1 hj244.2.2 dL_bells_172 ?_
    refine z_iconst (v := 1) dL_bells_173 rfl ?_
    refine z_iand dL_bells_174 ?_
    refine z_if_ne 196 dL_bells_175 (by decide) (fun c268 => ?_) (fun c268 => ?_)
    · have h := h.1 c268
      refine z_aload 1 dL_bells_196 rfl ?_
      refine z_iload 2 dL_bells_198 rfl ?_
      refine z_dup2 dL_bells_200 rfl rfl ?_
      obtain ⟨j245, hj246, h⟩ := h
      refine z_iald (j := j245) hf242.1 hf242.2 hj246.1 hj246.2.1 hj246.2.2 dL_bells_201 ?_
      refine z_bipush (v := 6) dL_bells_202 rfl ?_
      refine z_iand dL_bells_204 ?_
      obtain ⟨j247, hj248, h⟩ := h
      have h := h _ rfl
      refine z_iast (j := j247) hf242.1 hf242.2 hj248.1 hj248.2.1 hj248.2.2 dL_bells_205 ?_
      obtain ⟨S249, hS250⟩ : ∃ z, z = sA S a8 j247 ((gA S a8 j245) &&& 6) := ⟨_, rfl⟩
      rw [← hS250] at h ⊢
      have hf242 : a8 ∈ gL S249 ∧ gK S249 a8 = 12 := by rw [hS250]; exact hf242
      refine z_aload_n 0 dL_bells_206 rfl rfl ?_
      refine z_iload 2 dL_bells_207 rfl ?_
      refine zz_fl ?_
      refine z_callW (st := []) (w_L_bringIn h) zw_859 zw_857 zw_858 zw_29 zy_L_bringIn rfl rfl ⟨Nat.le_of_ble_eq_true rfl, Nat.le_of_ble_eq_true rfl⟩ ⟨(Nat.le_of_ble_eq_true rfl), (Nat.le_of_ble_eq_true rfl)⟩ (Nat.le_of_ble_eq_true rfl) dL_bells_209 (fun r252 C251 h => ?_)
      refine z_widen (k' := 4) (n' := 24) (Nat.le_refl _) (Nat.le_refl _) ?_
      refine zz_fl ?_
      refine z_aload 1 dL_bells_212 rfl ?_
      refine z_iload 2 dL_bells_214 rfl ?_
      obtain ⟨j253, hj254, h⟩ := h
      refine z_iald (j := j253) hf242.1 hf242.2 hj254.1 hj254.2.1 hj254.2.2 dL_bells_216 ?_
      refine z_if_ne 224 dL_bells_217 (by decide) (fun c261 => ?_) (fun c261 => ?_)
      · have h := h.1 c261
        refine z_iconst (v := 0) dL_bells_224 rfl ?_
        refine z_icmp_ne 232 dL_bells_225 (by decide) (fun c257 => ?_) (fun c257 => ?_)
        · have h := h.1 c257
          refine z_iconst (v := 0) dL_bells_232 rfl ?_
          obtain ⟨hz255, h⟩ := h
          exact z_zreturn ⟨_, _, rfl, rfl, h⟩ rfl (zbn hz255) (Nat.le_of_ble_eq_true rfl) (Nat.le_of_ble_eq_true rfl) dL_bells_233
        · have h := h.2 c257
          refine z_iconst (v := 1) dL_bells_228 rfl ?_
          refine z_goto 233 dL_bells_229 (by decide) ?_
          obtain ⟨hz256, h⟩ := h
          exact z_zreturn ⟨_, _, rfl, rfl, h⟩ rfl (zbn hz256) (Nat.le_of_ble_eq_true rfl) (Nat.le_of_ble_eq_true rfl) dL_bells_233
      · have h := h.2 c261
        refine z_iconst (v := 1) dL_bells_220 rfl ?_
        refine z_goto 225 dL_bells_221 (by decide) ?_
        refine z_icmp_ne 232 dL_bells_225 (by decide) (fun c260 => ?_) (fun c260 => ?_)
        · have h := h.1 c260
          refine z_iconst (v := 0) dL_bells_232 rfl ?_
          obtain ⟨hz258, h⟩ := h
          exact z_zreturn ⟨_, _, rfl, rfl, h⟩ rfl (zbn hz258) (Nat.le_of_ble_eq_true rfl) (Nat.le_of_ble_eq_true rfl) dL_bells_233
        · have h := h.2 c260
          refine z_iconst (v := 1) dL_bells_228 rfl ?_
          refine z_goto 233 dL_bells_229 (by decide) ?_
          obtain ⟨hz259, h⟩ := h
          exact z_zreturn ⟨_, _, rfl, rfl, h⟩ rfl (zbn hz259) (Nat.le_of_ble_eq_true rfl) (Nat.le_of_ble_eq_true rfl) dL_bells_233
    · have h := h.2 c268
      refine z_aload_n 0 dL_bells_178 rfl rfl ?_
      refine z_iload 2 dL_bells_179 rfl ?_
      refine zz_fl ?_
      refine z_callW (st := []) (w_L_bringIn h) zw_859 zw_857 zw_858 zw_29 zy_L_bringIn rfl rfl ⟨Nat.le_of_ble_eq_true rfl, Nat.le_of_ble_eq_true rfl⟩ ⟨(Nat.le_of_ble_eq_true rfl), (Nat.le_of_ble_eq_true rfl)⟩ (Nat.le_of_ble_eq_true rfl) dL_bells_181 (fun r264 C263 h => ?_)
      refine z_widen (k' := 4) (n' := 24) (Nat.le_refl _) (Nat.le_refl _) ?_
      refine zz_fl ?_
      refine z_sipush (v := (-7300)) dL_bells_184 rfl ?_
      refine z_icmp_ne 194 dL_bells_187 (by decide) (fun c267 => ?_) (fun c267 => ?_)
      · have h := h.1 c267
        refine z_iconst (v := 0) dL_bells_194 rfl ?_
        obtain ⟨hz265, h⟩ := h
        exact z_zreturn ⟨_, _, rfl, rfl, h⟩ rfl (zbn hz265) (Nat.le_of_ble_eq_true rfl) (Nat.le_of_ble_eq_true rfl) dL_bells_195
      · have h := h.2 c267
        refine z_iconst (v := 1) dL_bells_190 rfl ?_
        refine z_goto 195 dL_bells_191 (by decide) ?_
        obtain ⟨hz266, h⟩ := h
        exact z_zreturn ⟨_, _, rfl, rfl, h⟩ rfl (zbn hz266) (Nat.le_of_ble_eq_true rfl) (Nat.le_of_ble_eq_true rfl) dL_bells_195
  · have h := h.2 c270
    refine z_iconst (v := 0) dL_bells_166 rfl ?_
    obtain ⟨hz269, h⟩ := h
    exact z_zreturn ⟨_, _, rfl, rfl, h⟩ rfl (zbn hz269) (Nat.le_of_ble_eq_true rfl) (Nat.le_of_ble_eq_true rfl) dL_bells_167
set_option maxRecDepth 20000 in
set_option maxHeartbeats 4000000 in
theorem w_L_bells {E : zE} {a0 : Nat} {l1 : Int32} {l2 : Int32} {l3 : Int32} {a4 : Nat} {a5 : Nat} {a6 : Nat} {a7 : Nat} {a8 : Nat} {a9 : Nat} {a10 : Nat} {a11 : Nat} {S C : zS} {Q : Int32 → zS → zS → Prop} {X : String → zS → Prop} (h : p_L_bells E a0 l1 l2 l3 a4 a5 a6 a7 a8 a9 a10 a11 S C Q X) : zMY E yL_bells cL_bells 16 (some .boolean) ({ frames := 10, cells := 12, slots := 102, locals := 219 } : Room) [.ref a0, .int l1, .int l2, .int l3, .ref a4, .ref a5, .ref a6, .ref a7, .ref a8, .ref a9, .ref a10, .ref a11] (zPl E C) S (zY E Q) := by
  unfold p_L_bells at h
  refine zMY_of RL (by decide) rfl (Nat.le_of_ble_eq_true rfl) ?_
  refine z_iload_n 2 dL_bells_0 rfl rfl ?_
  refine z_bipush (v := 6) dL_bells_1 rfl ?_
  refine z_callSI (st := []) (w_L_low h) zw_313 zw_311 zw_312 zw_29 zy_L_low rfl rfl ⟨Nat.le_of_ble_eq_true rfl, Nat.le_of_ble_eq_true rfl⟩ ⟨(Nat.le_of_ble_eq_true rfl), (Nat.le_of_ble_eq_true rfl)⟩ (Nat.le_of_ble_eq_true rfl) dL_bells_3 (fun _ _ hx => hx.elim) (fun r2 S1 h => ?_)
  refine z_widen (k' := 0) (n' := 0) (Nat.le_refl _) (Nat.le_refl _) ?_
  refine z_istore (lv' := [(12, .int r2), (0, .ref a0), (1, .int l1), (2, .int l2), (3, .int l3), (4, .ref a4), (5, .ref a5), (6, .ref a6), (7, .ref a7), (8, .ref a8), (9, .ref a9), (10, .ref a10), (11, .ref a11)]) dL_bells_6 (Nat.le_of_ble_eq_true rfl) rfl ?_
  refine z_iload_n 2 dL_bells_8 rfl rfl ?_
  refine z_if_ne 114 dL_bells_9 (by decide) (fun c312 => ?_) (fun c312 => ?_)
  · have h := h.1 c312
    refine z_iload_n 2 dL_bells_114 rfl rfl ?_
    refine z_iconst (v := 3) dL_bells_115 rfl ?_
    refine z_icmp_ge 234 dL_bells_116 (by decide) (fun c271 => ?_) (fun c271 => ?_)
    · have h := h.1 c271
      refine z_iload_n 2 dL_bells_234 rfl rfl ?_
      refine z_iconst (v := 3) dL_bells_235 rfl ?_
      refine z_icmp_ne 372 dL_bells_236 (by decide) (fun c234 => ?_) (fun c234 => ?_)
      · have h := h.1 c234
        refine z_iload_n 2 dL_bells_372 rfl rfl ?_
        refine z_iconst (v := 4) dL_bells_373 rfl ?_
        refine z_icmp_ne 466 dL_bells_374 (by decide) (fun c191 => ?_) (fun c191 => ?_)
        · have h := h.1 c191
          refine z_iload_n 2 dL_bells_466 rfl rfl ?_
          refine z_bipush (v := 10) dL_bells_467 rfl ?_
          refine z_icmp_ge 753 dL_bells_469 (by decide) (fun c161 => ?_) (fun c161 => ?_)
          · have h := h.1 c161
            refine z_aload 12 dL_bells_753 rfl ?_
            refine z_bipush (v := 6) dL_bells_755 rfl ?_
            obtain ⟨hf3, h⟩ := h
            obtain ⟨hj5, h⟩ := h
            refine z_iald (j := 6) hf3.1 hf3.2 rfl hj5.1 hj5.2 dL_bells_757 ?_
            refine z_iconst (v := 1) dL_bells_758 rfl ?_
            refine z_icmp_eq 771 dL_bells_759 (by decide) (fun c61 => ?_) (fun c61 => ?_)
            · have h := h.1 c61
              refine z_aload_n 1 dL_bells_771 rfl rfl ?_
              refine zz_fl ?_
              refine z_callW (st := []) (w_L_pass h) zw_914 zw_912 zw_913 zw_29 zy_L_pass rfl rfl ⟨Nat.le_of_ble_eq_true rfl, Nat.le_of_ble_eq_true rfl⟩ ⟨(Nat.le_of_ble_eq_true rfl), (Nat.le_of_ble_eq_true rfl)⟩ (Nat.le_of_ble_eq_true rfl) dL_bells_772 (fun r7 C6 h => ?_)
              refine z_widen (k' := 2) (n' := 12) (Nat.le_refl _) (Nat.le_refl _) ?_
              refine zz_fl ?_
              refine z_sipush (v := (-7300)) dL_bells_775 rfl ?_
              refine z_icmp_ne 785 dL_bells_778 (by decide) (fun c10 => ?_) (fun c10 => ?_)
              · have h := h.1 c10
                refine z_iconst (v := 0) dL_bells_785 rfl ?_
                obtain ⟨hz8, h⟩ := h
                exact z_zreturn ⟨_, _, rfl, rfl, h⟩ rfl (zbn hz8) (Nat.le_of_ble_eq_true rfl) (Nat.le_of_ble_eq_true rfl) dL_bells_786
              · have h := h.2 c10
                refine z_iconst (v := 1) dL_bells_781 rfl ?_
                refine z_goto 786 dL_bells_782 (by decide) ?_
                obtain ⟨hz9, h⟩ := h
                exact z_zreturn ⟨_, _, rfl, rfl, h⟩ rfl (zbn hz9) (Nat.le_of_ble_eq_true rfl) (Nat.le_of_ble_eq_true rfl) dL_bells_786
            · have h := h.2 c61
              refine z_aload 12 dL_bells_762 rfl ?_
              refine z_iconst (v := 2) dL_bells_764 rfl ?_
              obtain ⟨hj12, h⟩ := h
              refine z_iald (j := 2) hf3.1 hf3.2 rfl hj12.1 hj12.2 dL_bells_765 ?_
              refine z_bipush (v := 60) dL_bells_766 rfl ?_
              refine z_icmp_ne 787 dL_bells_768 (by decide) (fun c60 => ?_) (fun c60 => ?_)
              · have h := h.1 c60
                refine z_aload 5 dL_bells_787 rfl ?_
                refine z_aload 6 dL_bells_789 rfl ?_
                refine z_aload 7 dL_bells_791 rfl ?_
                refine z_aload 10 dL_bells_793 rfl ?_
                refine z_aload 12 dL_bells_795 rfl ?_
                refine z_aload 12 dL_bells_797 rfl ?_
                refine z_iconst (v := 2) dL_bells_799 rfl ?_
                obtain ⟨hj14, h⟩ := h
                refine z_iald (j := 2) hf3.1 hf3.2 rfl hj14.1 hj14.2 dL_bells_800 ?_
                refine z_callSI (st := []) (w_L_band h) zw_943 zw_941 zw_942 zw_29 zy_L_band rfl rfl ⟨Nat.le_of_ble_eq_true rfl, Nat.le_of_ble_eq_true rfl⟩ ⟨(Nat.le_of_ble_eq_true rfl), (Nat.le_of_ble_eq_true rfl)⟩ (Nat.le_of_ble_eq_true rfl) dL_bells_801 (fun _ _ hx => hx.elim) (fun r16 S15 h => ?_)
                refine z_widen (k' := 0) (n' := 0) (Nat.le_refl _) (Nat.le_refl _) ?_
                refine z_istore (lv' := [(13, .int r16), (12, .int r2), (0, .ref a0), (1, .int l1), (2, .int l2), (3, .int l3), (4, .ref a4), (5, .ref a5), (6, .ref a6), (7, .ref a7), (8, .ref a8), (9, .ref a9), (10, .ref a10), (11, .ref a11)]) dL_bells_804 (Nat.le_of_ble_eq_true rfl) rfl ?_
                refine z_aload 13 dL_bells_806 rfl ?_
                refine z_iconst (v := 4) dL_bells_808 rfl ?_
                refine z_iload 0 dL_bells_809 rfl ?_
                refine z_if_ge 821 dL_bells_811 (by decide) (fun c54 => ?_) (fun c54 => ?_)
                · have h := h.1 c54
                  refine z_iload 0 dL_bells_821 rfl ?_
                  refine z_iconst (v := 1) dL_bells_823 rfl ?_
                  refine z_iadd dL_bells_824 ?_
                  refine z_iconst (v := 4) dL_bells_825 rfl ?_
                  refine z_irem dL_bells_826 (by decide) ?_
                  refine z_sub [2, 8, 13] rfl ?_
                  refine w_L_bells_J827 a0 a6 a11 ((r16 + 1) - (r16 + 1) / 4 * 4) 4 a11 S15 C h
                · have h := h.2 c54
                  refine z_aload 13 dL_bells_814 rfl ?_
                  refine z_iconst (v := 4) dL_bells_816 rfl ?_
                  obtain ⟨hf51, h⟩ := h
                  obtain ⟨hj53, h⟩ := h
                  refine z_iald (j := 4) hf51.1 hf51.2 rfl hj53.1 hj53.2 dL_bells_817 ?_
                  refine z_goto 827 dL_bells_818 (by decide) ?_
                  refine z_sub [2, 8, 13] rfl ?_
                  refine w_L_bells_J827 a0 a6 a11 (gA S15 a11 4) 4 a11 S15 C h
              · have h := h.2 c60
                refine z_aload_n 1 dL_bells_771 rfl rfl ?_
                refine zz_fl ?_
                refine z_callW (st := []) (w_L_pass h) zw_914 zw_912 zw_913 zw_29 zy_L_pass rfl rfl ⟨Nat.le_of_ble_eq_true rfl, Nat.le_of_ble_eq_true rfl⟩ ⟨(Nat.le_of_ble_eq_true rfl), (Nat.le_of_ble_eq_true rfl)⟩ (Nat.le_of_ble_eq_true rfl) dL_bells_772 (fun r56 C55 h => ?_)
                refine z_widen (k' := 2) (n' := 12) (Nat.le_refl _) (Nat.le_refl _) ?_
                refine zz_fl ?_
                refine z_sipush (v := (-7300)) dL_bells_775 rfl ?_
                refine z_icmp_ne 785 dL_bells_778 (by decide) (fun c59 => ?_) (fun c59 => ?_)
                · have h := h.1 c59
                  refine z_iconst (v := 0) dL_bells_785 rfl ?_
                  obtain ⟨hz57, h⟩ := h
                  exact z_zreturn ⟨_, _, rfl, rfl, h⟩ rfl (zbn hz57) (Nat.le_of_ble_eq_true rfl) (Nat.le_of_ble_eq_true rfl) dL_bells_786
                · have h := h.2 c59
                  refine z_iconst (v := 1) dL_bells_781 rfl ?_
                  refine z_goto 786 dL_bells_782 (by decide) ?_
                  obtain ⟨hz58, h⟩ := h
                  exact z_zreturn ⟨_, _, rfl, rfl, h⟩ rfl (zbn hz58) (Nat.le_of_ble_eq_true rfl) (Nat.le_of_ble_eq_true rfl) dL_bells_786
          · have h := h.2 c161
            refine z_aload 12 dL_bells_472 rfl ?_
            refine z_iconst (v := 2) dL_bells_474 rfl ?_
            obtain ⟨hf62, h⟩ := h
            obtain ⟨hj64, h⟩ := h
            refine z_iald (j := 2) hf62.1 hf62.2 rfl hj64.1 hj64.2 dL_bells_475 ?_
            refine z_iload_n 4 dL_bells_476 rfl rfl ?_
            refine z_bipush (v := 61) dL_bells_477 rfl ?_
            refine z_aload 12 dL_bells_479 rfl ?_
            refine z_iconst (v := 2) dL_bells_481 rfl ?_
            obtain ⟨hj66, h⟩ := h
            refine z_iald (j := 2) hf62.1 hf62.2 rfl hj66.1 hj66.2 dL_bells_482 ?_
            refine z_isub dL_bells_483 ?_
            refine z_iconst (v := 4) dL_bells_484 rfl ?_
            refine z_icmp_ge 498 dL_bells_485 (by decide) (fun c160 => ?_) (fun c160 => ?_)
            · have h := h.1 c160
              refine z_iconst (v := 4) dL_bells_498 rfl ?_
              refine z_sub [1, 3, 4, 5, 6, 7, 9, 11, 12] rfl ?_
              refine w_L_bells_J499 a0 l2 l3 a4 a5 a6 a8 a10 a11 4 l3 (gA S1 a11 2) S1 C h
            · have h := h.2 c160
              refine z_bipush (v := 61) dL_bells_488 rfl ?_
              refine z_aload 12 dL_bells_490 rfl ?_
              refine z_iconst (v := 2) dL_bells_492 rfl ?_
              obtain ⟨hj159, h⟩ := h
              refine z_iald (j := 2) hf62.1 hf62.2 rfl hj159.1 hj159.2 dL_bells_493 ?_
              refine z_isub dL_bells_494 ?_
              refine z_goto 499 dL_bells_495 (by decide) ?_
              refine z_sub [1, 3, 4, 5, 6, 7, 9, 11, 12] rfl ?_
              refine w_L_bells_J499 a0 l2 l3 a4 a5 a6 a8 a10 a11 (61 - (gA S1 a11 2)) l3 (gA S1 a11 2) S1 C h
        · have h := h.2 c191
          refine z_iload_n 3 dL_bells_377 rfl rfl ?_
          refine z_iconst (v := 4) dL_bells_378 rfl ?_
          refine z_callSI (st := []) (w_L_low h) zw_313 zw_311 zw_312 zw_29 zy_L_low rfl rfl ⟨Nat.le_of_ble_eq_true rfl, Nat.le_of_ble_eq_true rfl⟩ ⟨(Nat.le_of_ble_eq_true rfl), (Nat.le_of_ble_eq_true rfl)⟩ (Nat.le_of_ble_eq_true rfl) dL_bells_379 (fun _ _ hx => hx.elim) (fun r163 S162 h => ?_)
          refine z_widen (k' := 0) (n' := 0) (Nat.le_refl _) (Nat.le_refl _) ?_
          refine z_istore (lv' := [(13, .int r163), (12, .int r2), (0, .ref a0), (1, .int l1), (2, .int l2), (3, .int l3), (4, .ref a4), (5, .ref a5), (6, .ref a6), (7, .ref a7), (8, .ref a8), (9, .ref a9), (10, .ref a10), (11, .ref a11)]) dL_bells_382 (Nat.le_of_ble_eq_true rfl) rfl ?_
          refine z_iconst (v := 4) dL_bells_384 rfl ?_
          refine z_iload_n 5 dL_bells_385 rfl rfl ?_
          refine z_iconst (v := 3) dL_bells_386 rfl ?_
          refine z_callSI (st := [.int 4]) (w_L_low h) zw_313 zw_311 zw_312 zw_29 zy_L_low rfl rfl ⟨Nat.le_of_ble_eq_true rfl, Nat.le_of_ble_eq_true rfl⟩ ⟨(Nat.le_of_ble_eq_true rfl), (Nat.le_of_ble_eq_true rfl)⟩ (Nat.le_of_ble_eq_true rfl) dL_bells_387 (fun _ _ hx => hx.elim) (fun r165 S164 h => ?_)
          refine z_widen (k' := 0) (n' := 0) (Nat.le_refl _) (Nat.le_refl _) ?_
          refine z_iadd dL_bells_390 ?_
          refine z_istore (lv' := [(14, .int (4 + r165)), (13, .int r163), (12, .int r2), (0, .ref a0), (1, .int l1), (2, .int l2), (3, .int l3), (4, .ref a4), (5, .ref a5), (6, .ref a6), (7, .ref a7), (8, .ref a8), (9, .ref a9), (10, .ref a10), (11, .ref a11)]) dL_bells_391 (Nat.le_of_ble_eq_true rfl) rfl ?_
          refine z_aload 12 dL_bells_393 rfl ?_
          refine z_iload 1 dL_bells_395 rfl ?_
          obtain ⟨hf166, h⟩ := h
          obtain ⟨j167, hj168, h⟩ := h
          refine z_iald (j := j167) hf166.1 hf166.2 hj168.1 hj168.2.1 hj168.2.2 dL_bells_397 ?_
          refine z_istore (lv' := [(15, .int (gA S164 a9 j167)), (14, .int (4 + r165)), (13, .int r163), (12, .int r2), (0, .ref a0), (1, .int l1), (2, .int l2), (3, .int l3), (4, .ref a4), (5, .ref a5), (6, .ref a6), (7, .ref a7), (8, .ref a8), (9, .ref a9), (10, .ref a10), (11, .ref a11)]) dL_bells_398 (Nat.le_of_ble_eq_true rfl) rfl ?_
          refine z_aload 13 dL_bells_400 rfl ?_
          refine z_iload 2 dL_bells_402 rfl ?_
          refine z_iload 1 dL_bells_404 rfl ?_
          obtain ⟨j169, hj170, h⟩ := h
          have h := h _ rfl
          refine z_iast (j := j169) hf166.1 hf166.2 hj170.1 hj170.2.1 hj170.2.2 dL_bells_406 ?_
          obtain ⟨S171, hS172⟩ : ∃ z, z = sA S164 a9 j169 (4 + r165) := ⟨_, rfl⟩
          rw [← hS172] at h ⊢
          have hf166 : a9 ∈ gL S171 ∧ gK S171 a9 = 12 := by rw [hS172]; exact hf166
          refine z_aload_n 4 dL_bells_407 rfl rfl ?_
          refine z_iconst (v := 4) dL_bells_408 rfl ?_
          refine z_bipush (v := 7) dL_bells_409 rfl ?_
          refine zz_fl ?_
          refine z_callW (st := []) (w_L_setBand h) zw_879 zw_877 zw_878 zw_29 zy_L_setBand rfl rfl ⟨Nat.le_of_ble_eq_true rfl, Nat.le_of_ble_eq_true rfl⟩ ⟨(Nat.le_of_ble_eq_true rfl), (Nat.le_of_ble_eq_true rfl)⟩ (Nat.le_of_ble_eq_true rfl) dL_bells_411 (fun r174 C173 h => ?_)
          refine z_widen (k' := 2) (n' := 12) (Nat.le_refl _) (Nat.le_refl _) ?_
          refine zz_fl ?_
          refine z_sipush (v := (-7100)) dL_bells_414 rfl ?_
          refine z_icmp_ne 464 dL_bells_417 (by decide) (fun c189 => ?_) (fun c189 => ?_)
          · have h := h.1 c189
            refine z_iconst (v := 0) dL_bells_464 rfl ?_
            obtain ⟨hz175, h⟩ := h
            exact z_zreturn ⟨_, _, rfl, rfl, h⟩ rfl (zbn hz175) (Nat.le_of_ble_eq_true rfl) (Nat.le_of_ble_eq_true rfl) dL_bells_465
          · have h := h.2 c189
            refine z_aload_n 4 dL_bells_420 rfl rfl ?_
            refine z_iload 2 dL_bells_421 rfl ?_
            refine z_iconst (v := 3) dL_bells_423 rfl ?_
            refine zz_fl ?_
            refine z_callW (st := []) (w_L_setBand h) zw_879 zw_877 zw_878 zw_29 zy_L_setBand rfl rfl ⟨Nat.le_of_ble_eq_true rfl, Nat.le_of_ble_eq_true rfl⟩ ⟨(Nat.le_of_ble_eq_true rfl), (Nat.le_of_ble_eq_true rfl)⟩ (Nat.le_of_ble_eq_true rfl) dL_bells_424 (fun r177 C176 h => ?_)
            refine z_widen (k' := 4) (n' := 24) (Nat.le_refl _) (Nat.le_refl _) ?_
            refine zz_fl ?_
            refine z_sipush (v := (-7200)) dL_bells_427 rfl ?_
            refine z_icmp_ne 464 dL_bells_430 (by decide) (fun c188 => ?_) (fun c188 => ?_)
            · have h := h.1 c188
              refine z_iconst (v := 0) dL_bells_464 rfl ?_
              obtain ⟨hz178, h⟩ := h
              exact z_zreturn ⟨_, _, rfl, rfl, h⟩ rfl (zbn hz178) (Nat.le_of_ble_eq_true rfl) (Nat.le_of_ble_eq_true rfl) dL_bells_465
            · have h := h.2 c188
              refine z_aload_n 4 dL_bells_433 rfl rfl ?_
              refine z_iload 2 dL_bells_434 rfl ?_
              refine z_bipush (v := 7) dL_bells_436 rfl ?_
              refine zz_fl ?_
              refine z_callW (st := []) (w_L_setBand h) zw_879 zw_877 zw_878 zw_29 zy_L_setBand rfl rfl ⟨Nat.le_of_ble_eq_true rfl, Nat.le_of_ble_eq_true rfl⟩ ⟨(Nat.le_of_ble_eq_true rfl), (Nat.le_of_ble_eq_true rfl)⟩ (Nat.le_of_ble_eq_true rfl) dL_bells_438 (fun r180 C179 h => ?_)
              refine z_widen (k' := 6) (n' := 36) (Nat.le_refl _) (Nat.le_refl _) ?_
              refine zz_fl ?_
              refine z_sipush (v := (-7200)) dL_bells_441 rfl ?_
              refine z_icmp_ne 464 dL_bells_444 (by decide) (fun c187 => ?_) (fun c187 => ?_)
              · have h := h.1 c187
                refine z_iconst (v := 0) dL_bells_464 rfl ?_
                obtain ⟨hz181, h⟩ := h
                exact z_zreturn ⟨_, _, rfl, rfl, h⟩ rfl (zbn hz181) (Nat.le_of_ble_eq_true rfl) (Nat.le_of_ble_eq_true rfl) dL_bells_465
              · have h := h.2 c187
                refine z_aload_n 4 dL_bells_447 rfl rfl ?_
                refine z_iload 2 dL_bells_448 rfl ?_
                refine z_iload 1 dL_bells_450 rfl ?_
                refine zz_fl ?_
                refine z_callW (st := []) (w_L_setBand h) zw_879 zw_877 zw_878 zw_29 zy_L_setBand rfl rfl ⟨Nat.le_of_ble_eq_true rfl, Nat.le_of_ble_eq_true rfl⟩ ⟨(Nat.le_of_ble_eq_true rfl), (Nat.le_of_ble_eq_true rfl)⟩ (Nat.le_of_ble_eq_true rfl) dL_bells_452 (fun r183 C182 h => ?_)
                refine z_widen (k' := 8) (n' := 48) (Nat.le_refl _) (Nat.le_refl _) ?_
                refine zz_fl ?_
                refine z_iload 0 dL_bells_455 rfl ?_
                refine z_icmp_ne 464 dL_bells_457 (by decide) (fun c186 => ?_) (fun c186 => ?_)
                · have h := h.1 c186
                  refine z_iconst (v := 0) dL_bells_464 rfl ?_
                  obtain ⟨hz184, h⟩ := h
                  exact z_zreturn ⟨_, _, rfl, rfl, h⟩ rfl (zbn hz184) (Nat.le_of_ble_eq_true rfl) (Nat.le_of_ble_eq_true rfl) dL_bells_465
                · have h := h.2 c186
                  refine z_iconst (v := 1) dL_bells_460 rfl ?_
                  refine z_goto 465 dL_bells_461 (by decide) ?_
                  obtain ⟨hz185, h⟩ := h
                  exact z_zreturn ⟨_, _, rfl, rfl, h⟩ rfl (zbn hz185) (Nat.le_of_ble_eq_true rfl) (Nat.le_of_ble_eq_true rfl) dL_bells_465
      · have h := h.2 c234
        refine z_iload_n 4 dL_bells_239 rfl rfl ?_
        refine z_iconst (v := 1) dL_bells_240 rfl ?_
        refine z_iand dL_bells_241 ?_
        refine z_istore (lv' := [(13, .int (l3 &&& 1)), (12, .int r2), (0, .ref a0), (1, .int l1), (2, .int l2), (3, .int l3), (4, .ref a4), (5, .ref a5), (6, .ref a6), (7, .ref a7), (8, .ref a8), (9, .ref a9), (10, .ref a10), (11, .ref a11)]) dL_bells_242 (Nat.le_of_ble_eq_true rfl) rfl ?_
        refine z_aload_n 2 dL_bells_244 rfl rfl ?_
        refine z_bipush (v := 6) dL_bells_245 rfl ?_
        refine z_iconst (v := 2) dL_bells_247 rfl ?_
        refine zz_fl ?_
        refine z_callW (st := []) (w_L_mend h) zw_868 zw_866 zw_867 zw_29 zy_L_mend rfl rfl ⟨Nat.le_of_ble_eq_true rfl, Nat.le_of_ble_eq_true rfl⟩ ⟨(Nat.le_of_ble_eq_true rfl), (Nat.le_of_ble_eq_true rfl)⟩ (Nat.le_of_ble_eq_true rfl) dL_bells_248 (fun r193 C192 h => ?_)
        refine z_widen (k' := 3) (n' := 18) (Nat.le_refl _) (Nat.le_refl _) ?_
        refine zz_fl ?_
        refine z_sipush (v := (-7100)) dL_bells_251 rfl ?_
        refine z_icmp_ne 283 dL_bells_254 (by decide) (fun c233 => ?_) (fun c233 => ?_)
        · have h := h.1 c233
          refine z_iconst (v := 0) dL_bells_283 rfl ?_
          obtain ⟨hz194, h⟩ := h
          exact z_zreturn ⟨_, _, rfl, rfl, h⟩ rfl (zbn hz194) (Nat.le_of_ble_eq_true rfl) (Nat.le_of_ble_eq_true rfl) dL_bells_284
        · have h := h.2 c233
          refine z_aload_n 2 dL_bells_257 rfl rfl ?_
          refine z_iload 1 dL_bells_258 rfl ?_
          refine z_iconst (v := 2) dL_bells_260 rfl ?_
          refine zz_fl ?_
          refine z_callW (st := []) (w_L_mend h) zw_868 zw_866 zw_867 zw_29 zy_L_mend rfl rfl ⟨Nat.le_of_ble_eq_true rfl, Nat.le_of_ble_eq_true rfl⟩ ⟨(Nat.le_of_ble_eq_true rfl), (Nat.le_of_ble_eq_true rfl)⟩ (Nat.le_of_ble_eq_true rfl) dL_bells_261 (fun r196 C195 h => ?_)
          refine z_widen (k' := 6) (n' := 36) (Nat.le_refl _) (Nat.le_refl _) ?_
          refine zz_fl ?_
          refine z_sipush (v := (-7200)) dL_bells_264 rfl ?_
          refine z_icmp_ne 283 dL_bells_267 (by decide) (fun c232 => ?_) (fun c232 => ?_)
          · have h := h.1 c232
            refine z_iconst (v := 0) dL_bells_283 rfl ?_
            obtain ⟨hz197, h⟩ := h
            exact z_zreturn ⟨_, _, rfl, rfl, h⟩ rfl (zbn hz197) (Nat.le_of_ble_eq_true rfl) (Nat.le_of_ble_eq_true rfl) dL_bells_284
          · have h := h.2 c232
            refine z_aload_n 2 dL_bells_270 rfl rfl ?_
            refine z_iload 1 dL_bells_271 rfl ?_
            refine z_iconst (v := (-1)) dL_bells_273 rfl ?_
            refine zz_fl ?_
            refine z_callW (st := []) (w_L_mend h) zw_868 zw_866 zw_867 zw_29 zy_L_mend rfl rfl ⟨Nat.le_of_ble_eq_true rfl, Nat.le_of_ble_eq_true rfl⟩ ⟨(Nat.le_of_ble_eq_true rfl), (Nat.le_of_ble_eq_true rfl)⟩ (Nat.le_of_ble_eq_true rfl) dL_bells_274 (fun r199 C198 h => ?_)
            refine z_widen (k' := 9) (n' := 54) (Nat.le_refl _) (Nat.le_refl _) ?_
            refine zz_fl ?_
            refine z_sipush (v := (-7200)) dL_bells_277 rfl ?_
            refine z_icmp_eq 285 dL_bells_280 (by decide) (fun c231 => ?_) (fun c231 => ?_)
            · have h := h.1 c231
              refine z_aload 13 dL_bells_285 rfl ?_
              refine z_bipush (v := 6) dL_bells_287 rfl ?_
              obtain ⟨hf200, h⟩ := h
              obtain ⟨hj202, h⟩ := h
              refine z_iald (j := 6) hf200.1 hf200.2 rfl hj202.1 hj202.2 dL_bells_289 ?_
              refine z_iconst (v := 1) dL_bells_290 rfl ?_
              refine z_icmp_ne 314 dL_bells_291 (by decide) (fun c229 => ?_) (fun c229 => ?_)
              · have h := h.1 c229
                refine z_aload 9 dL_bells_314 rfl ?_
                refine z_bipush (v := 6) dL_bells_316 rfl ?_
                refine z_iload 0 dL_bells_318 rfl ?_
                refine z_imul dL_bells_320 ?_
                refine z_iload 1 dL_bells_321 rfl ?_
                refine z_iadd dL_bells_323 ?_
                obtain ⟨hf203, h⟩ := h
                obtain ⟨j204, hj205, h⟩ := h
                refine z_iald (j := j204) hf203.1 hf203.2 hj205.1 hj205.2.1 hj205.2.2 dL_bells_324 ?_
                refine z_istore (lv' := [(14, .int (gA S1 a7 j204)), (13, .int (l3 &&& 1)), (12, .int r2), (0, .ref a0), (1, .int l1), (2, .int l2), (3, .int l3), (4, .ref a4), (5, .ref a5), (6, .ref a6), (7, .ref a7), (8, .ref a8), (9, .ref a9), (10, .ref a10), (11, .ref a11)]) dL_bells_325 (Nat.le_of_ble_eq_true rfl) rfl ?_
                refine z_aload 10 dL_bells_327 rfl ?_
                refine z_bipush (v := 6) dL_bells_329 rfl ?_
                refine z_iload 1 dL_bells_331 rfl ?_
                refine z_imul dL_bells_333 ?_
                refine z_iload 2 dL_bells_334 rfl ?_
                refine z_iadd dL_bells_336 ?_
                refine z_iconst (v := 0) dL_bells_337 rfl ?_
                obtain ⟨j206, hj207, h⟩ := h
                have h := h _ rfl
                refine z_iast (j := j206) hf203.1 hf203.2 hj207.1 hj207.2.1 hj207.2.2 dL_bells_338 ?_
                obtain ⟨S208, hS209⟩ : ∃ z, z = sA S1 a7 j206 0 := ⟨_, rfl⟩
                rw [← hS209] at h ⊢
                have hf200 : a11 ∈ gL S208 ∧ gK S208 a11 = 12 := by rw [hS209]; exact hf200
                have hf203 : a7 ∈ gL S208 ∧ gK S208 a7 = 12 := by rw [hS209]; exact hf203
                refine z_aload 11 dL_bells_339 rfl ?_
                refine z_iload 2 dL_bells_341 rfl ?_
                refine z_dup2 dL_bells_343 rfl rfl ?_
                obtain ⟨hf210, h⟩ := h
                obtain ⟨j211, hj212, h⟩ := h
                refine z_iald (j := j211) hf210.1 hf210.2 hj212.1 hj212.2.1 hj212.2.2 dL_bells_344 ?_
                refine z_iconst (v := 2) dL_bells_345 rfl ?_
                refine z_iload 1 dL_bells_346 rfl ?_
                refine z_ishl dL_bells_348 ?_
                refine z_iconst (v := (-1)) dL_bells_349 rfl ?_
                refine z_ixor dL_bells_350 ?_
                refine z_iand dL_bells_351 ?_
                obtain ⟨j213, hj214, h⟩ := h
                have h := h _ rfl
                refine z_iast (j := j213) hf210.1 hf210.2 hj214.1 hj214.2.1 hj214.2.2 dL_bells_352 ?_
                obtain ⟨S215, hS216⟩ : ∃ z, z = sA S208 a8 j213 ((gA S208 a8 j211) &&& ((2 <<< ((l3 &&& 1) &&& 31)) ^^^ (-1))) := ⟨_, rfl⟩
                rw [← hS216] at h ⊢
                have hf200 : a11 ∈ gL S215 ∧ gK S215 a11 = 12 := by rw [hS216]; exact hf200
                have hf203 : a7 ∈ gL S215 ∧ gK S215 a7 = 12 := by rw [hS216]; exact hf203
                have hf210 : a8 ∈ gL S215 ∧ gK S215 a8 = 12 := by rw [hS216]; exact hf210
                refine z_aload_n 3 dL_bells_353 rfl rfl ?_
                refine z_iload 2 dL_bells_354 rfl ?_
                refine z_iload 1 dL_bells_356 rfl ?_
                refine zz_fl ?_
                refine z_callW (st := []) (w_L_mend h) zw_868 zw_866 zw_867 zw_29 zy_L_mend rfl rfl ⟨Nat.le_of_ble_eq_true rfl, Nat.le_of_ble_eq_true rfl⟩ ⟨(Nat.le_of_ble_eq_true rfl), (Nat.le_of_ble_eq_true rfl)⟩ (Nat.le_of_ble_eq_true rfl) dL_bells_358 (fun r218 C217 h => ?_)
                refine z_widen (k' := 12) (n' := 72) (Nat.le_refl _) (Nat.le_refl _) ?_
                refine zz_fl ?_
                refine z_iload 0 dL_bells_361 rfl ?_
                refine z_icmp_ne 370 dL_bells_363 (by decide) (fun c221 => ?_) (fun c221 => ?_)
                · have h := h.1 c221
                  refine z_iconst (v := 0) dL_bells_370 rfl ?_
                  obtain ⟨hz219, h⟩ := h
                  exact z_zreturn ⟨_, _, rfl, rfl, h⟩ rfl (zbn hz219) (Nat.le_of_ble_eq_true rfl) (Nat.le_of_ble_eq_true rfl) dL_bells_371
                · have h := h.2 c221
                  refine z_iconst (v := 1) dL_bells_366 rfl ?_
                  refine z_goto 371 dL_bells_367 (by decide) ?_
                  obtain ⟨hz220, h⟩ := h
                  exact z_zreturn ⟨_, _, rfl, rfl, h⟩ rfl (zbn hz220) (Nat.le_of_ble_eq_true rfl) (Nat.le_of_ble_eq_true rfl) dL_bells_371
              · have h := h.2 c229
                refine z_aload_n 2 dL_bells_294 rfl rfl ?_
                refine z_iload 1 dL_bells_295 rfl ?_
                refine z_iload 0 dL_bells_297 rfl ?_
                refine zz_fl ?_
                refine z_callW (st := []) (w_L_mend h) zw_868 zw_866 zw_867 zw_29 zy_L_mend rfl rfl ⟨Nat.le_of_ble_eq_true rfl, Nat.le_of_ble_eq_true rfl⟩ ⟨(Nat.le_of_ble_eq_true rfl), (Nat.le_of_ble_eq_true rfl)⟩ (Nat.le_of_ble_eq_true rfl) dL_bells_299 (fun r225 C224 h => ?_)
                refine z_widen (k' := 12) (n' := 72) (Nat.le_refl _) (Nat.le_refl _) ?_
                refine zz_fl ?_
                refine z_sipush (v := (-7300)) dL_bells_302 rfl ?_
                refine z_icmp_ne 312 dL_bells_305 (by decide) (fun c228 => ?_) (fun c228 => ?_)
                · have h := h.1 c228
                  refine z_iconst (v := 0) dL_bells_312 rfl ?_
                  obtain ⟨hz226, h⟩ := h
                  exact z_zreturn ⟨_, _, rfl, rfl, h⟩ rfl (zbn hz226) (Nat.le_of_ble_eq_true rfl) (Nat.le_of_ble_eq_true rfl) dL_bells_313
                · have h := h.2 c228
                  refine z_iconst (v := 1) dL_bells_308 rfl ?_
                  refine z_goto 313 dL_bells_309 (by decide) ?_
                  obtain ⟨hz227, h⟩ := h
                  exact z_zreturn ⟨_, _, rfl, rfl, h⟩ rfl (zbn hz227) (Nat.le_of_ble_eq_true rfl) (Nat.le_of_ble_eq_true rfl) dL_bells_313
            · have h := h.2 c231
              refine z_iconst (v := 0) dL_bells_283 rfl ?_
              obtain ⟨hz230, h⟩ := h
              exact z_zreturn ⟨_, _, rfl, rfl, h⟩ rfl (zbn hz230) (Nat.le_of_ble_eq_true rfl) (Nat.le_of_ble_eq_true rfl) dL_bells_284
    · have h := h.2 c271
      refine z_iconst (v := 0) dL_bells_119 rfl ?_
      refine z_istore (lv' := [(13, .int 0), (12, .int r2), (0, .ref a0), (1, .int l1), (2, .int l2), (3, .int l3), (4, .ref a4), (5, .ref a5), (6, .ref a6), (7, .ref a7), (8, .ref a8), (9, .ref a9), (10, .ref a10), (11, .ref a11)]) dL_bells_120 (Nat.le_of_ble_eq_true rfl) rfl ?_
      obtain ⟨m122, h⟩ := h
      refine z_sub [2, 10, 1, 0] rfl ?_
      refine w_L_bells_L122 (fun a0 a8 l12 S C h => ?_) m122 a0 a8 r2 0 S1 C h
      refine w_L_bells_J154 a0 a8 l12 S C h
  · have h := h.2 c312
    refine z_aload_n 1 dL_bells_12 rfl rfl ?_
    refine z_bipush (v := 6) dL_bells_13 rfl ?_
    refine zz_fl ?_
    refine z_callW (st := []) (w_L_takeOut h) zw_847 zw_845 zw_846 zw_29 zy_L_takeOut rfl rfl ⟨Nat.le_of_ble_eq_true rfl, Nat.le_of_ble_eq_true rfl⟩ ⟨(Nat.le_of_ble_eq_true rfl), (Nat.le_of_ble_eq_true rfl)⟩ (Nat.le_of_ble_eq_true rfl) dL_bells_15 (fun r273 C272 h => ?_)
    refine z_widen (k' := 2) (n' := 12) (Nat.le_refl _) (Nat.le_refl _) ?_
    refine zz_fl ?_
    refine z_sipush (v := (-7100)) dL_bells_18 rfl ?_
    refine z_icmp_ne 35 dL_bells_21 (by decide) (fun c311 => ?_) (fun c311 => ?_)
    · have h := h.1 c311
      refine z_iconst (v := 0) dL_bells_35 rfl ?_
      obtain ⟨hz274, h⟩ := h
      exact z_zreturn ⟨_, _, rfl, rfl, h⟩ rfl (zbn hz274) (Nat.le_of_ble_eq_true rfl) (Nat.le_of_ble_eq_true rfl) dL_bells_36
    · have h := h.2 c311
      refine z_aload_n 1 dL_bells_24 rfl rfl ?_
      refine z_iconst (v := (-1)) dL_bells_25 rfl ?_
      refine zz_fl ?_
      refine z_callW (st := []) (w_L_takeOut h) zw_847 zw_845 zw_846 zw_29 zy_L_takeOut rfl rfl ⟨Nat.le_of_ble_eq_true rfl, Nat.le_of_ble_eq_true rfl⟩ ⟨(Nat.le_of_ble_eq_true rfl), (Nat.le_of_ble_eq_true rfl)⟩ (Nat.le_of_ble_eq_true rfl) dL_bells_26 (fun r276 C275 h => ?_)
      refine z_widen (k' := 4) (n' := 24) (Nat.le_refl _) (Nat.le_refl _) ?_
      refine zz_fl ?_
      refine z_sipush (v := (-7100)) dL_bells_29 rfl ?_
      refine z_icmp_eq 37 dL_bells_32 (by decide) (fun c310 => ?_) (fun c310 => ?_)
      · have h := h.1 c310
        refine z_aload 9 dL_bells_37 rfl ?_
        refine z_iload 0 dL_bells_39 rfl ?_
        obtain ⟨hf277, h⟩ := h
        obtain ⟨j278, hj279, h⟩ := h
        refine z_iald (j := j278) hf277.1 hf277.2 hj279.1 hj279.2.1 hj279.2.2 dL_bells_41 ?_
        refine z_iconst (v := 1) dL_bells_42 rfl ?_
        refine z_iand dL_bells_43 ?_
        refine z_iconst (v := 1) dL_bells_44 rfl ?_
        refine z_icmp_eq 57 dL_bells_45 (by decide) (fun c308 => ?_) (fun c308 => ?_)
        · have h := h.1 c308
          refine z_aload_n 1 dL_bells_57 rfl rfl ?_
          refine z_iload 0 dL_bells_58 rfl ?_
          refine zz_fl ?_
          refine z_callW (st := []) (w_L_takeOut h) zw_847 zw_845 zw_846 zw_29 zy_L_takeOut rfl rfl ⟨Nat.le_of_ble_eq_true rfl, Nat.le_of_ble_eq_true rfl⟩ ⟨(Nat.le_of_ble_eq_true rfl), (Nat.le_of_ble_eq_true rfl)⟩ (Nat.le_of_ble_eq_true rfl) dL_bells_60 (fun r281 C280 h => ?_)
          refine z_widen (k' := 6) (n' := 36) (Nat.le_refl _) (Nat.le_refl _) ?_
          refine zz_fl ?_
          refine z_sipush (v := (-7300)) dL_bells_63 rfl ?_
          refine z_icmp_ne 73 dL_bells_66 (by decide) (fun c284 => ?_) (fun c284 => ?_)
          · have h := h.1 c284
            refine z_iconst (v := 0) dL_bells_73 rfl ?_
            obtain ⟨hz282, h⟩ := h
            exact z_zreturn ⟨_, _, rfl, rfl, h⟩ rfl (zbn hz282) (Nat.le_of_ble_eq_true rfl) (Nat.le_of_ble_eq_true rfl) dL_bells_74
          · have h := h.2 c284
            refine z_iconst (v := 1) dL_bells_69 rfl ?_
            refine z_goto 74 dL_bells_70 (by decide) ?_
            obtain ⟨hz283, h⟩ := h
            exact z_zreturn ⟨_, _, rfl, rfl, h⟩ rfl (zbn hz283) (Nat.le_of_ble_eq_true rfl) (Nat.le_of_ble_eq_true rfl) dL_bells_74
        · have h := h.2 c308
          refine z_aload 12 dL_bells_48 rfl ?_
          refine z_bipush (v := 6) dL_bells_50 rfl ?_
          obtain ⟨hf285, h⟩ := h
          obtain ⟨hj287, h⟩ := h
          refine z_iald (j := 6) hf285.1 hf285.2 rfl hj287.1 hj287.2 dL_bells_52 ?_
          refine z_iconst (v := 1) dL_bells_53 rfl ?_
          refine z_icmp_ne 75 dL_bells_54 (by decide) (fun c307 => ?_) (fun c307 => ?_)
          · have h := h.1 c307
            refine z_aload 9 dL_bells_75 rfl ?_
            refine z_iload 0 dL_bells_77 rfl ?_
            refine z_dup2 dL_bells_79 rfl rfl ?_
            obtain ⟨j288, hj289, h⟩ := h
            refine z_iald (j := j288) hf277.1 hf277.2 hj289.1 hj289.2.1 hj289.2.2 dL_bells_80 ?_
            refine z_iconst (v := 1) dL_bells_81 rfl ?_
            refine z_ior dL_bells_82 ?_
            obtain ⟨j290, hj291, h⟩ := h
            have h := h _ rfl
            refine z_iast (j := j290) hf277.1 hf277.2 hj291.1 hj291.2.1 hj291.2.2 dL_bells_83 ?_
            obtain ⟨S292, hS293⟩ : ∃ z, z = sA S1 a8 j290 ((gA S1 a8 j288) ||| 1) := ⟨_, rfl⟩
            rw [← hS293] at h ⊢
            have hf285 : a11 ∈ gL S292 ∧ gK S292 a11 = 12 := by rw [hS293]; exact hf285
            have hf277 : a8 ∈ gL S292 ∧ gK S292 a8 = 12 := by rw [hS293]; exact hf277
            refine z_aload_n 1 dL_bells_84 rfl rfl ?_
            refine z_iload 0 dL_bells_85 rfl ?_
            refine zz_fl ?_
            refine z_callW (st := []) (w_L_takeOut h) zw_847 zw_845 zw_846 zw_29 zy_L_takeOut rfl rfl ⟨Nat.le_of_ble_eq_true rfl, Nat.le_of_ble_eq_true rfl⟩ ⟨(Nat.le_of_ble_eq_true rfl), (Nat.le_of_ble_eq_true rfl)⟩ (Nat.le_of_ble_eq_true rfl) dL_bells_87 (fun r295 C294 h => ?_)
            refine z_widen (k' := 6) (n' := 36) (Nat.le_refl _) (Nat.le_refl _) ?_
            refine zz_fl ?_
            refine z_aload 5 dL_bells_90 rfl ?_
            refine z_aload 6 dL_bells_92 rfl ?_
            refine z_aload 7 dL_bells_94 rfl ?_
            refine z_aload 9 dL_bells_96 rfl ?_
            refine z_aload 11 dL_bells_98 rfl ?_
            refine z_aload 12 dL_bells_100 rfl ?_
            refine z_callSI (st := [.int r295]) (w_L_drop h) zw_797 zw_795 zw_796 zw_29 zy_L_drop rfl rfl ⟨Nat.le_of_ble_eq_true rfl, Nat.le_of_ble_eq_true rfl⟩ ⟨(Nat.le_of_ble_eq_true rfl), (Nat.le_of_ble_eq_true rfl)⟩ (Nat.le_of_ble_eq_true rfl) dL_bells_102 (fun _ _ hx => hx.elim) (fun r297 S296 h => ?_)
            refine z_widen (k' := 6) (n' := 36) (Nat.le_refl _) (Nat.le_refl _) ?_
            refine z_icmp_ne 112 dL_bells_105 (by decide) (fun c300 => ?_) (fun c300 => ?_)
            · have h := h.1 c300
              refine z_iconst (v := 0) dL_bells_112 rfl ?_
              obtain ⟨hz298, h⟩ := h
              exact z_zreturn ⟨_, _, rfl, rfl, h⟩ rfl (zbn hz298) (Nat.le_of_ble_eq_true rfl) (Nat.le_of_ble_eq_true rfl) dL_bells_113
            · have h := h.2 c300
              refine z_iconst (v := 1) dL_bells_108 rfl ?_
              refine z_goto 113 dL_bells_109 (by decide) ?_
              obtain ⟨hz299, h⟩ := h
              exact z_zreturn ⟨_, _, rfl, rfl, h⟩ rfl (zbn hz299) (Nat.le_of_ble_eq_true rfl) (Nat.le_of_ble_eq_true rfl) dL_bells_113
          · have h := h.2 c307
            refine z_aload_n 1 dL_bells_57 rfl rfl ?_
            refine z_iload 0 dL_bells_58 rfl ?_
            refine zz_fl ?_
            refine z_callW (st := []) (w_L_takeOut h) zw_847 zw_845 zw_846 zw_29 zy_L_takeOut rfl rfl ⟨Nat.le_of_ble_eq_true rfl, Nat.le_of_ble_eq_true rfl⟩ ⟨(Nat.le_of_ble_eq_true rfl), (Nat.le_of_ble_eq_true rfl)⟩ (Nat.le_of_ble_eq_true rfl) dL_bells_60 (fun r303 C302 h => ?_)
            refine z_widen (k' := 6) (n' := 36) (Nat.le_refl _) (Nat.le_refl _) ?_
            refine zz_fl ?_
            refine z_sipush (v := (-7300)) dL_bells_63 rfl ?_
            refine z_icmp_ne 73 dL_bells_66 (by decide) (fun c306 => ?_) (fun c306 => ?_)
            · have h := h.1 c306
              refine z_iconst (v := 0) dL_bells_73 rfl ?_
              obtain ⟨hz304, h⟩ := h
              exact z_zreturn ⟨_, _, rfl, rfl, h⟩ rfl (zbn hz304) (Nat.le_of_ble_eq_true rfl) (Nat.le_of_ble_eq_true rfl) dL_bells_74
            · have h := h.2 c306
              refine z_iconst (v := 1) dL_bells_69 rfl ?_
              refine z_goto 74 dL_bells_70 (by decide) ?_
              obtain ⟨hz305, h⟩ := h
              exact z_zreturn ⟨_, _, rfl, rfl, h⟩ rfl (zbn hz305) (Nat.le_of_ble_eq_true rfl) (Nat.le_of_ble_eq_true rfl) dL_bells_74
      · have h := h.2 c310
        refine z_iconst (v := 0) dL_bells_35 rfl ?_
        obtain ⟨hz309, h⟩ := h
        exact z_zreturn ⟨_, _, rfl, rfl, h⟩ rfl (zbn hz309) (Nat.le_of_ble_eq_true rfl) (Nat.le_of_ble_eq_true rfl) dL_bells_36
