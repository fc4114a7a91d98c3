set_option maxRecDepth 20000 in
set_option maxHeartbeats 4000000 in
theorem w_X11_init {E : zE} {a0 : Nat} {S : zS} {Q : zS → Prop} {X : String → zS → Prop} (h : p_X11_init E a0 S Q X) : zM E yX11_init cX11_init 1 none ({ frames := 1, cells := 22, slots := 2473, locals := 12 } : Room) [.ref a0] S (qV Q) X := by
  unfold p_X11_init at h
  refine zM_of RX11 true (by decide) rfl (fun h => rfl) (Nat.le_of_ble_eq_true rfl) ?_
  refine z_aload_n 0 dX11_init_0 rfl rfl ?_
  refine z_objInit zw_1297 (Nat.le_of_ble_eq_true rfl) (Nat.le_of_ble_eq_true rfl) dX11_init_1 ?_
  refine z_aload_n 0 dX11_init_4 rfl rfl ?_
  refine z_bipush (v := 12) dX11_init_5 rfl ?_
  refine z_newa (c := 12) (N := 12) (.inl ⟨rfl, rfl⟩) zw_135 rfl (Nat.le_of_ble_eq_true rfl) (Nat.le_of_ble_eq_true rfl) (Nat.le_of_ble_eq_true rfl) dX11_init_7 (fun q1 hq2 => ?_)
  have h := h q1 hq2 _ rfl
  obtain ⟨S3, hS4⟩ : ∃ z, z = nA S q1 12 12 := ⟨_, rfl⟩
  rw [← hS4] at h ⊢
  refine z_widen (k' := 1) (n' := 12) (Nat.le_refl _) (Nat.le_refl _) ?_
  obtain ⟨hf7, h⟩ := h
  have h := h _ rfl
  refine z_putV (c := 11) (j := 2) (ty0 := tyX11) (S' := sR S3 1102 a0 (some q1)) hf7.1 hf7.2 (Nat.le_of_ble_eq_true rfl) rfl zU_X11 tyX11_ok nmX11 (Nat.le_of_ble_eq_true rfl) (Nat.le_of_ble_eq_true rfl) ⟨_, zw_1300, Or.inl rfl⟩ (.inr ⟨rfl, rfl⟩) (zrefn (ty := tyX11 2) (o := (some q1)) (by decide)) (zreff (ty := tyX11 2) (o := (some q1)) (by decide)) rfl (zUpR (v := (some q1)) hf7.2 (Nat.le_of_ble_eq_true rfl) (Nat.le_of_ble_eq_true rfl) rfl rfl) dX11_init_9 ?_
  obtain ⟨S8, hS9⟩ : ∃ z, z = sR S3 1102 a0 (some q1) := ⟨_, rfl⟩
  rw [← hS9] at h ⊢
  have hf7 : a0 ∈ gL S8 ∧ gK S8 a0 = 11 := by rw [hS9]; exact hf7
  refine z_aload_n 0 dX11_init_12 rfl rfl ?_
  refine z_bipush (v := 8) dX11_init_13 rfl ?_
  refine z_newa (c := 12) (N := 8) (.inl ⟨rfl, rfl⟩) zw_135 rfl (Nat.le_of_ble_eq_true rfl) (Nat.le_of_ble_eq_true rfl) (Nat.le_of_ble_eq_true rfl) dX11_init_15 (fun q10 hq11 => ?_)
  have h := h q10 hq11 _ rfl
  obtain ⟨S12, hS13⟩ : ∃ z, z = nA S8 q10 12 8 := ⟨_, rfl⟩
  rw [← hS13] at h ⊢
  refine z_widen (k' := 2) (n' := 20) (Nat.le_refl _) (Nat.le_refl _) ?_
  obtain ⟨hf16, h⟩ := h
  have h := h _ rfl
  refine z_putV (c := 11) (j := 4) (ty0 := tyX11) (S' := sR S12 1104 a0 (some q10)) hf16.1 hf16.2 (Nat.le_of_ble_eq_true rfl) rfl zU_X11 tyX11_ok nmX11 (Nat.le_of_ble_eq_true rfl) (Nat.le_of_ble_eq_true rfl) ⟨_, zw_1302, Or.inl rfl⟩ (.inr ⟨rfl, rfl⟩) (zrefn (ty := tyX11 4) (o := (some q10)) (by decide)) (zreff (ty := tyX11 4) (o := (some q10)) (by decide)) rfl (zUpR (v := (some q10)) hf16.2 (Nat.le_of_ble_eq_true rfl) (Nat.le_of_ble_eq_true rfl) rfl rfl) dX11_init_17 ?_
  obtain ⟨S17, hS18⟩ : ∃ z, z = sR S12 1104 a0 (some q10) := ⟨_, rfl⟩
  rw [← hS18] at h ⊢
  have hf16 : a0 ∈ gL S17 ∧ gK S17 a0 = 11 := by rw [hS18]; exact hf16
  refine z_aload_n 0 dX11_init_20 rfl rfl ?_
  refine z_bipush (v := 8) dX11_init_21 rfl ?_
  refine z_newa (c := 12) (N := 8) (.inl ⟨rfl, rfl⟩) zw_135 rfl (Nat.le_of_ble_eq_true rfl) (Nat.le_of_ble_eq_true rfl) (Nat.le_of_ble_eq_true rfl) dX11_init_23 (fun q19 hq20 => ?_)
  have h := h q19 hq20 _ rfl
  obtain ⟨S21, hS22⟩ : ∃ z, z = nA S17 q19 12 8 := ⟨_, rfl⟩
  rw [← hS22] at h ⊢
  refine z_widen (k' := 3) (n' := 28) (Nat.le_refl _) (Nat.le_refl _) ?_
  obtain ⟨hf25, h⟩ := h
  have h := h _ rfl
  refine z_putV (c := 11) (j := 5) (ty0 := tyX11) (S' := sR S21 1105 a0 (some q19)) hf25.1 hf25.2 (Nat.le_of_ble_eq_true rfl) rfl zU_X11 tyX11_ok nmX11 (Nat.le_of_ble_eq_true rfl) (Nat.le_of_ble_eq_true rfl) ⟨_, zw_1303, Or.inl rfl⟩ (.inr ⟨rfl, rfl⟩) (zrefn (ty := tyX11 5) (o := (some q19)) (by decide)) (zreff (ty := tyX11 5) (o := (some q19)) (by decide)) rfl (zUpR (v := (some q19)) hf25.2 (Nat.le_of_ble_eq_true rfl) (Nat.le_of_ble_eq_true rfl) rfl rfl) dX11_init_25 ?_
  obtain ⟨S26, hS27⟩ : ∃ z, z = sR S21 1105 a0 (some q19) := ⟨_, rfl⟩
  rw [← hS27] at h ⊢
  have hf25 : a0 ∈ gL S26 ∧ gK S26 a0 = 11 := by rw [hS27]; exact hf25
  refine z_aload_n 0 dX11_init_28 rfl rfl ?_
  refine z_bipush (v := 96) dX11_init_29 rfl ?_
  refine z_newa (c := 12) (N := 96) (.inl ⟨rfl, rfl⟩) zw_135 rfl (Nat.le_of_ble_eq_true rfl) (Nat.le_of_ble_eq_true rfl) (Nat.le_of_ble_eq_true rfl) dX11_init_31 (fun q28 hq29 => ?_)
  have h := h q28 hq29 _ rfl
  obtain ⟨S30, hS31⟩ : ∃ z, z = nA S26 q28 12 96 := ⟨_, rfl⟩
  rw [← hS31] at h ⊢
  refine z_widen (k' := 4) (n' := 124) (Nat.le_refl _) (Nat.le_refl _) ?_
  obtain ⟨hf34, h⟩ := h
  have h := h _ rfl
  refine z_putV (c := 11) (j := 6) (ty0 := tyX11) (S' := sR S30 1106 a0 (some q28)) hf34.1 hf34.2 (Nat.le_of_ble_eq_true rfl) rfl zU_X11 tyX11_ok nmX11 (Nat.le_of_ble_eq_true rfl) (Nat.le_of_ble_eq_true rfl) ⟨_, zw_1304, Or.inl rfl⟩ (.inr ⟨rfl, rfl⟩) (zrefn (ty := tyX11 6) (o := (some q28)) (by decide)) (zreff (ty := tyX11 6) (o := (some q28)) (by decide)) rfl (zUpR (v := (some q28)) hf34.2 (Nat.le_of_ble_eq_true rfl) (Nat.le_of_ble_eq_true rfl) rfl rfl) dX11_init_33 ?_
  obtain ⟨S35, hS36⟩ : ∃ z, z = sR S30 1106 a0 (some q28) := ⟨_, rfl⟩
  rw [← hS36] at h ⊢
  have hf34 : a0 ∈ gL S35 ∧ gK S35 a0 = 11 := by rw [hS36]; exact hf34
  refine z_aload_n 0 dX11_init_36 rfl rfl ?_
  refine z_bipush (v := 16) dX11_init_37 rfl ?_
  refine z_newa (c := 12) (N := 16) (.inl ⟨rfl, rfl⟩) zw_135 rfl (Nat.le_of_ble_eq_true rfl) (Nat.le_of_ble_eq_true rfl) (Nat.le_of_ble_eq_true rfl) dX11_init_39 (fun q37 hq38 => ?_)
  have h := h q37 hq38 _ rfl
  obtain ⟨S39, hS40⟩ : ∃ z, z = nA S35 q37 12 16 := ⟨_, rfl⟩
  rw [← hS40] at h ⊢
  refine z_widen (k' := 5) (n' := 140) (Nat.le_refl _) (Nat.le_refl _) ?_
  obtain ⟨hf43, h⟩ := h
  have h := h _ rfl
  refine z_putV (c := 11) (j := 7) (ty0 := tyX11) (S' := sR S39 1107 a0 (some q37)) hf43.1 hf43.2 (Nat.le_of_ble_eq_true rfl) rfl zU_X11 tyX11_ok nmX11 (Nat.le_of_ble_eq_true rfl) (Nat.le_of_ble_eq_true rfl) ⟨_, zw_1305, Or.inl rfl⟩ (.inr ⟨rfl, rfl⟩) (zrefn (ty := tyX11 7) (o := (some q37)) (by decide)) (zreff (ty := tyX11 7) (o := (some q37)) (by decide)) rfl (zUpR (v := (some q37)) hf43.2 (Nat.le_of_ble_eq_true rfl) (Nat.le_of_ble_eq_true rfl) rfl rfl) dX11_init_41 ?_
  obtain ⟨S44, hS45⟩ : ∃ z, z = sR S39 1107 a0 (some q37) := ⟨_, rfl⟩
  rw [← hS45] at h ⊢
  have hf43 : a0 ∈ gL S44 ∧ gK S44 a0 = 11 := by rw [hS45]; exact hf43
  refine z_aload_n 0 dX11_init_44 rfl rfl ?_
  refine z_bipush (v := 20) dX11_init_45 rfl ?_
  refine z_newa (c := 12) (N := 20) (.inl ⟨rfl, rfl⟩) zw_135 rfl (Nat.le_of_ble_eq_true rfl) (Nat.le_of_ble_eq_true rfl) (Nat.le_of_ble_eq_true rfl) dX11_init_47 (fun q46 hq47 => ?_)
  have h := h q46 hq47 _ rfl
  obtain ⟨S48, hS49⟩ : ∃ z, z = nA S44 q46 12 20 := ⟨_, rfl⟩
  rw [← hS49] at h ⊢
  refine z_widen (k' := 6) (n' := 160) (Nat.le_refl _) (Nat.le_refl _) ?_
  obtain ⟨hf52, h⟩ := h
  have h := h _ rfl
  refine z_putV (c := 11) (j := 9) (ty0 := tyX11) (S' := sR S48 1109 a0 (some q46)) hf52.1 hf52.2 (Nat.le_of_ble_eq_true rfl) rfl zU_X11 tyX11_ok nmX11 (Nat.le_of_ble_eq_true rfl) (Nat.le_of_ble_eq_true rfl) ⟨_, zw_1307, Or.inl rfl⟩ (.inr ⟨rfl, rfl⟩) (zrefn (ty := tyX11 9) (o := (some q46)) (by decide)) (zreff (ty := tyX11 9) (o := (some q46)) (by decide)) rfl (zUpR (v := (some q46)) hf52.2 (Nat.le_of_ble_eq_true rfl) (Nat.le_of_ble_eq_true rfl) rfl rfl) dX11_init_49 ?_
  obtain ⟨S53, hS54⟩ : ∃ z, z = sR S48 1109 a0 (some q46) := ⟨_, rfl⟩
  rw [← hS54] at h ⊢
  have hf52 : a0 ∈ gL S53 ∧ gK S53 a0 = 11 := by rw [hS54]; exact hf52
  refine z_aload_n 0 dX11_init_52 rfl rfl ?_
  refine z_bipush (v := 12) dX11_init_53 rfl ?_
  refine z_newa (c := 12) (N := 12) (.inl ⟨rfl, rfl⟩) zw_135 rfl (Nat.le_of_ble_eq_true rfl) (Nat.le_of_ble_eq_true rfl) (Nat.le_of_ble_eq_true rfl) dX11_init_55 (fun q55 hq56 => ?_)
  have h := h q55 hq56 _ rfl
  obtain ⟨S57, hS58⟩ : ∃ z, z = nA S53 q55 12 12 := ⟨_, rfl⟩
  rw [← hS58] at h ⊢
  refine z_widen (k' := 7) (n' := 172) (Nat.le_refl _) (Nat.le_refl _) ?_
  obtain ⟨hf61, h⟩ := h
  have h := h _ rfl
  refine z_putV (c := 11) (j := 11) (ty0 := tyX11) (S' := sR S57 1111 a0 (some q55)) hf61.1 hf61.2 (Nat.le_of_ble_eq_true rfl) rfl zU_X11 tyX11_ok nmX11 (Nat.le_of_ble_eq_true rfl) (Nat.le_of_ble_eq_true rfl) ⟨_, zw_1309, Or.inl rfl⟩ (.inr ⟨rfl, rfl⟩) (zrefn (ty := tyX11 11) (o := (some q55)) (by decide)) (zreff (ty := tyX11 11) (o := (some q55)) (by decide)) rfl (zUpR (v := (some q55)) hf61.2 (Nat.le_of_ble_eq_true rfl) (Nat.le_of_ble_eq_true rfl) rfl rfl) dX11_init_57 ?_
  obtain ⟨S62, hS63⟩ : ∃ z, z = sR S57 1111 a0 (some q55) := ⟨_, rfl⟩
  rw [← hS63] at h ⊢
  have hf61 : a0 ∈ gL S62 ∧ gK S62 a0 = 11 := by rw [hS63]; exact hf61
  refine z_aload_n 0 dX11_init_60 rfl rfl ?_
  refine z_sipush (v := 240) dX11_init_61 rfl ?_
  refine z_newa (c := 12) (N := 240) (.inl ⟨rfl, rfl⟩) zw_135 rfl (Nat.le_of_ble_eq_true rfl) (Nat.le_of_ble_eq_true rfl) (Nat.le_of_ble_eq_true rfl) dX11_init_64 (fun q64 hq65 => ?_)
  have h := h q64 hq65 _ rfl
  obtain ⟨S66, hS67⟩ : ∃ z, z = nA S62 q64 12 240 := ⟨_, rfl⟩
  rw [← hS67] at h ⊢
  refine z_widen (k' := 8) (n' := 412) (Nat.le_refl _) (Nat.le_refl _) ?_
  obtain ⟨hf70, h⟩ := h
  have h := h _ rfl
  refine z_putV (c := 11) (j := 12) (ty0 := tyX11) (S' := sR S66 1112 a0 (some q64)) hf70.1 hf70.2 (Nat.le_of_ble_eq_true rfl) rfl zU_X11 tyX11_ok nmX11 (Nat.le_of_ble_eq_true rfl) (Nat.le_of_ble_eq_true rfl) ⟨_, zw_1310, Or.inl rfl⟩ (.inr ⟨rfl, rfl⟩) (zrefn (ty := tyX11 12) (o := (some q64)) (by decide)) (zreff (ty := tyX11 12) (o := (some q64)) (by decide)) rfl (zUpR (v := (some q64)) hf70.2 (Nat.le_of_ble_eq_true rfl) (Nat.le_of_ble_eq_true rfl) rfl rfl) dX11_init_66 ?_
  obtain ⟨S71, hS72⟩ : ∃ z, z = sR S66 1112 a0 (some q64) := ⟨_, rfl⟩
  rw [← hS72] at h ⊢
  have hf70 : a0 ∈ gL S71 ∧ gK S71 a0 = 11 := by rw [hS72]; exact hf70
  refine z_aload_n 0 dX11_init_69 rfl rfl ?_
  refine z_sipush (v := 240) dX11_init_70 rfl ?_
  refine z_newa (c := 12) (N := 240) (.inl ⟨rfl, rfl⟩) zw_135 rfl (Nat.le_of_ble_eq_true rfl) (Nat.le_of_ble_eq_true rfl) (Nat.le_of_ble_eq_true rfl) dX11_init_73 (fun q73 hq74 => ?_)
  have h := h q73 hq74 _ rfl
  obtain ⟨S75, hS76⟩ : ∃ z, z = nA S71 q73 12 240 := ⟨_, rfl⟩
  rw [← hS76] at h ⊢
  refine z_widen (k' := 9) (n' := 652) (Nat.le_refl _) (Nat.le_refl _) ?_
  obtain ⟨hf79, h⟩ := h
  have h := h _ rfl
  refine z_putV (c := 11) (j := 14) (ty0 := tyX11) (S' := sR S75 1114 a0 (some q73)) hf79.1 hf79.2 (Nat.le_of_ble_eq_true rfl) rfl zU_X11 tyX11_ok nmX11 (Nat.le_of_ble_eq_true rfl) (Nat.le_of_ble_eq_true rfl) ⟨_, zw_1312, Or.inl rfl⟩ (.inr ⟨rfl, rfl⟩) (zrefn (ty := tyX11 14) (o := (some q73)) (by decide)) (zreff (ty := tyX11 14) (o := (some q73)) (by decide)) rfl (zUpR (v := (some q73)) hf79.2 (Nat.le_of_ble_eq_true rfl) (Nat.le_of_ble_eq_true rfl) rfl rfl) dX11_init_75 ?_
  obtain ⟨S80, hS81⟩ : ∃ z, z = sR S75 1114 a0 (some q73) := ⟨_, rfl⟩
  rw [← hS81] at h ⊢
  have hf79 : a0 ∈ gL S80 ∧ gK S80 a0 = 11 := by rw [hS81]; exact hf79
  refine z_aload_n 0 dX11_init_78 rfl rfl ?_
  refine z_bipush (v := 12) dX11_init_79 rfl ?_
  refine z_newa (c := 12) (N := 12) (.inl ⟨rfl, rfl⟩) zw_135 rfl (Nat.le_of_ble_eq_true rfl) (Nat.le_of_ble_eq_true rfl) (Nat.le_of_ble_eq_true rfl) dX11_init_81 (fun q82 hq83 => ?_)
  have h := h q82 hq83 _ rfl
  obtain ⟨S84, hS85⟩ : ∃ z, z = nA S80 q82 12 12 := ⟨_, rfl⟩
  rw [← hS85] at h ⊢
  refine z_widen (k' := 10) (n' := 664) (Nat.le_refl _) (Nat.le_refl _) ?_
  obtain ⟨hf88, h⟩ := h
  have h := h _ rfl
  refine z_putV (c := 11) (j := 15) (ty0 := tyX11) (S' := sR S84 1115 a0 (some q82)) hf88.1 hf88.2 (Nat.le_of_ble_eq_true rfl) rfl zU_X11 tyX11_ok nmX11 (Nat.le_of_ble_eq_true rfl) (Nat.le_of_ble_eq_true rfl) ⟨_, zw_1313, Or.inl rfl⟩ (.inr ⟨rfl, rfl⟩) (zrefn (ty := tyX11 15) (o := (some q82)) (by decide)) (zreff (ty := tyX11 15) (o := (some q82)) (by decide)) rfl (zUpR (v := (some q82)) hf88.2 (Nat.le_of_ble_eq_true rfl) (Nat.le_of_ble_eq_true rfl) rfl rfl) dX11_init_83 ?_
  obtain ⟨S89, hS90⟩ : ∃ z, z = sR S84 1115 a0 (some q82) := ⟨_, rfl⟩
  rw [← hS90] at h ⊢
  have hf88 : a0 ∈ gL S89 ∧ gK S89 a0 = 11 := by rw [hS90]; exact hf88
  refine z_aload_n 0 dX11_init_86 rfl rfl ?_
  refine z_bipush (v := 6) dX11_init_87 rfl ?_
  refine z_newa (c := 12) (N := 6) (.inl ⟨rfl, rfl⟩) zw_135 rfl (Nat.le_of_ble_eq_true rfl) (Nat.le_of_ble_eq_true rfl) (Nat.le_of_ble_eq_true rfl) dX11_init_89 (fun q91 hq92 => ?_)
  have h := h q91 hq92 _ rfl
  obtain ⟨S93, hS94⟩ : ∃ z, z = nA S89 q91 12 6 := ⟨_, rfl⟩
  rw [← hS94] at h ⊢
  refine z_widen (k' := 11) (n' := 670) (Nat.le_refl _) (Nat.le_refl _) ?_
  obtain ⟨hf97, h⟩ := h
  have h := h _ rfl
  refine z_putV (c := 11) (j := 16) (ty0 := tyX11) (S' := sR S93 1116 a0 (some q91)) hf97.1 hf97.2 (Nat.le_of_ble_eq_true rfl) rfl zU_X11 tyX11_ok nmX11 (Nat.le_of_ble_eq_true rfl) (Nat.le_of_ble_eq_true rfl) ⟨_, zw_1314, Or.inl rfl⟩ (.inr ⟨rfl, rfl⟩) (zrefn (ty := tyX11 16) (o := (some q91)) (by decide)) (zreff (ty := tyX11 16) (o := (some q91)) (by decide)) rfl (zUpR (v := (some q91)) hf97.2 (Nat.le_of_ble_eq_true rfl) (Nat.le_of_ble_eq_true rfl) rfl rfl) dX11_init_91 ?_
  obtain ⟨S98, hS99⟩ : ∃ z, z = sR S93 1116 a0 (some q91) := ⟨_, rfl⟩
  rw [← hS99] at h ⊢
  have hf97 : a0 ∈ gL S98 ∧ gK S98 a0 = 11 := by rw [hS99]; exact hf97
  refine z_aload_n 0 dX11_init_94 rfl rfl ?_
  refine z_bipush (v := 12) dX11_init_95 rfl ?_
  refine z_newa (c := 12) (N := 12) (.inl ⟨rfl, rfl⟩) zw_135 rfl (Nat.le_of_ble_eq_true rfl) (Nat.le_of_ble_eq_true rfl) (Nat.le_of_ble_eq_true rfl) dX11_init_97 (fun q100 hq101 => ?_)
  have h := h q100 hq101 _ rfl
  obtain ⟨S102, hS103⟩ : ∃ z, z = nA S98 q100 12 12 := ⟨_, rfl⟩
  rw [← hS103] at h ⊢
  refine z_widen (k' := 12) (n' := 682) (Nat.le_refl _) (Nat.le_refl _) ?_
  obtain ⟨hf106, h⟩ := h
  have h := h _ rfl
  refine z_putV (c := 11) (j := 17) (ty0 := tyX11) (S' := sR S102 1117 a0 (some q100)) hf106.1 hf106.2 (Nat.le_of_ble_eq_true rfl) rfl zU_X11 tyX11_ok nmX11 (Nat.le_of_ble_eq_true rfl) (Nat.le_of_ble_eq_true rfl) ⟨_, zw_1315, Or.inl rfl⟩ (.inr ⟨rfl, rfl⟩) (zrefn (ty := tyX11 17) (o := (some q100)) (by decide)) (zreff (ty := tyX11 17) (o := (some q100)) (by decide)) rfl (zUpR (v := (some q100)) hf106.2 (Nat.le_of_ble_eq_true rfl) (Nat.le_of_ble_eq_true rfl) rfl rfl) dX11_init_99 ?_
  obtain ⟨S107, hS108⟩ : ∃ z, z = sR S102 1117 a0 (some q100) := ⟨_, rfl⟩
  rw [← hS108] at h ⊢
  have hf106 : a0 ∈ gL S107 ∧ gK S107 a0 = 11 := by rw [hS108]; exact hf106
  refine z_aload_n 0 dX11_init_102 rfl rfl ?_
  refine z_bipush (v := 12) dX11_init_103 rfl ?_
  refine z_newa (c := 13) (N := 12) (.inr ⟨rfl, rfl⟩) zw_248 rfl (Nat.le_of_ble_eq_true rfl) (Nat.le_of_ble_eq_true rfl) (Nat.le_of_ble_eq_true rfl) dX11_init_105 (fun q109 hq110 => ?_)
  have h := h q109 hq110 _ rfl
  obtain ⟨S111, hS112⟩ : ∃ z, z = nA S107 q109 13 12 := ⟨_, rfl⟩
  rw [← hS112] at h ⊢
  refine z_widen (k' := 13) (n' := 694) (Nat.le_refl _) (Nat.le_refl _) ?_
  obtain ⟨hf115, h⟩ := h
  have h := h _ rfl
  refine z_putV (c := 11) (j := 18) (ty0 := tyX11) (S' := sR S111 1118 a0 (some q109)) hf115.1 hf115.2 (Nat.le_of_ble_eq_true rfl) rfl zU_X11 tyX11_ok nmX11 (Nat.le_of_ble_eq_true rfl) (Nat.le_of_ble_eq_true rfl) ⟨_, zw_1316, Or.inl rfl⟩ (.inr ⟨rfl, rfl⟩) (zrefn (ty := tyX11 18) (o := (some q109)) (by decide)) (zreff (ty := tyX11 18) (o := (some q109)) (by decide)) rfl (zUpR (v := (some q109)) hf115.2 (Nat.le_of_ble_eq_true rfl) (Nat.le_of_ble_eq_true rfl) rfl rfl) dX11_init_107 ?_
  obtain ⟨S116, hS117⟩ : ∃ z, z = sR S111 1118 a0 (some q109) := ⟨_, rfl⟩
  rw [← hS117] at h ⊢
  have hf115 : a0 ∈ gL S116 ∧ gK S116 a0 = 11 := by rw [hS117]; exact hf115
  refine z_aload_n 0 dX11_init_110 rfl rfl ?_
  refine z_bipush (v := 6) dX11_init_111 rfl ?_
  refine z_newa (c := 13) (N := 6) (.inr ⟨rfl, rfl⟩) zw_248 rfl (Nat.le_of_ble_eq_true rfl) (Nat.le_of_ble_eq_true rfl) (Nat.le_of_ble_eq_true rfl) dX11_init_113 (fun q118 hq119 => ?_)
  have h := h q118 hq119 _ rfl
  obtain ⟨S120, hS121⟩ : ∃ z, z = nA S116 q118 13 6 := ⟨_, rfl⟩
  rw [← hS121] at h ⊢
  refine z_widen (k' := 14) (n' := 700) (Nat.le_refl _) (Nat.le_refl _) ?_
  obtain ⟨hf124, h⟩ := h
  have h := h _ rfl
  refine z_putV (c := 11) (j := 19) (ty0 := tyX11) (S' := sR S120 1119 a0 (some q118)) hf124.1 hf124.2 (Nat.le_of_ble_eq_true rfl) rfl zU_X11 tyX11_ok nmX11 (Nat.le_of_ble_eq_true rfl) (Nat.le_of_ble_eq_true rfl) ⟨_, zw_1317, Or.inl rfl⟩ (.inr ⟨rfl, rfl⟩) (zrefn (ty := tyX11 19) (o := (some q118)) (by decide)) (zreff (ty := tyX11 19) (o := (some q118)) (by decide)) rfl (zUpR (v := (some q118)) hf124.2 (Nat.le_of_ble_eq_true rfl) (Nat.le_of_ble_eq_true rfl) rfl rfl) dX11_init_115 ?_
  obtain ⟨S125, hS126⟩ : ∃ z, z = sR S120 1119 a0 (some q118) := ⟨_, rfl⟩
  rw [← hS126] at h ⊢
  have hf124 : a0 ∈ gL S125 ∧ gK S125 a0 = 11 := by rw [hS126]; exact hf124
  refine z_aload_n 0 dX11_init_118 rfl rfl ?_
  refine z_bipush (v := 61) dX11_init_119 rfl ?_
  refine z_newa (c := 12) (N := 61) (.inl ⟨rfl, rfl⟩) zw_135 rfl (Nat.le_of_ble_eq_true rfl) (Nat.le_of_ble_eq_true rfl) (Nat.le_of_ble_eq_true rfl) dX11_init_121 (fun q127 hq128 => ?_)
  have h := h q127 hq128 _ rfl
  obtain ⟨S129, hS130⟩ : ∃ z, z = nA S125 q127 12 61 := ⟨_, rfl⟩
  rw [← hS130] at h ⊢
  refine z_widen (k' := 15) (n' := 761) (Nat.le_refl _) (Nat.le_refl _) ?_
  obtain ⟨hf133, h⟩ := h
  have h := h _ rfl
  refine z_putV (c := 11) (j := 21) (ty0 := tyX11) (S' := sR S129 1121 a0 (some q127)) hf133.1 hf133.2 (Nat.le_of_ble_eq_true rfl) rfl zU_X11 tyX11_ok nmX11 (Nat.le_of_ble_eq_true rfl) (Nat.le_of_ble_eq_true rfl) ⟨_, zw_1319, Or.inl rfl⟩ (.inr ⟨rfl, rfl⟩) (zrefn (ty := tyX11 21) (o := (some q127)) (by decide)) (zreff (ty := tyX11 21) (o := (some q127)) (by decide)) rfl (zUpR (v := (some q127)) hf133.2 (Nat.le_of_ble_eq_true rfl) (Nat.le_of_ble_eq_true rfl) rfl rfl) dX11_init_123 ?_
  obtain ⟨S134, hS135⟩ : ∃ z, z = sR S129 1121 a0 (some q127) := ⟨_, rfl⟩
  rw [← hS135] at h ⊢
  have hf133 : a0 ∈ gL S134 ∧ gK S134 a0 = 11 := by rw [hS135]; exact hf133
  refine z_aload_n 0 dX11_init_126 rfl rfl ?_
  refine z_sipush (v := 244) dX11_init_127 rfl ?_
  refine z_newa (c := 12) (N := 244) (.inl ⟨rfl, rfl⟩) zw_135 rfl (Nat.le_of_ble_eq_true rfl) (Nat.le_of_ble_eq_true rfl) (Nat.le_of_ble_eq_true rfl) dX11_init_130 (fun q136 hq137 => ?_)
  have h := h q136 hq137 _ rfl
  obtain ⟨S138, hS139⟩ : ∃ z, z = nA S134 q136 12 244 := ⟨_, rfl⟩
  rw [← hS139] at h ⊢
  refine z_widen (k' := 16) (n' := 1005) (Nat.le_refl _) (Nat.le_refl _) ?_
  obtain ⟨hf142, h⟩ := h
  have h := h _ rfl
  refine z_putV (c := 11) (j := 22) (ty0 := tyX11) (S' := sR S138 1122 a0 (some q136)) hf142.1 hf142.2 (Nat.le_of_ble_eq_true rfl) rfl zU_X11 tyX11_ok nmX11 (Nat.le_of_ble_eq_true rfl) (Nat.le_of_ble_eq_true rfl) ⟨_, zw_1320, Or.inl rfl⟩ (.inr ⟨rfl, rfl⟩) (zrefn (ty := tyX11 22) (o := (some q136)) (by decide)) (zreff (ty := tyX11 22) (o := (some q136)) (by decide)) rfl (zUpR (v := (some q136)) hf142.2 (Nat.le_of_ble_eq_true rfl) (Nat.le_of_ble_eq_true rfl) rfl rfl) dX11_init_132 ?_
  obtain ⟨S143, hS144⟩ : ∃ z, z = sR S138 1122 a0 (some q136) := ⟨_, rfl⟩
  rw [← hS144] at h ⊢
  have hf142 : a0 ∈ gL S143 ∧ gK S143 a0 = 11 := by rw [hS144]; exact hf142
  refine z_aload_n 0 dX11_init_135 rfl rfl ?_
  refine z_iconst (v := 4) dX11_init_136 rfl ?_
  refine z_newa (c := 12) (N := 4) (.inl ⟨rfl, rfl⟩) zw_135 rfl (Nat.le_of_ble_eq_true rfl) (Nat.le_of_ble_eq_true rfl) (Nat.le_of_ble_eq_true rfl) dX11_init_137 (fun q145 hq146 => ?_)
  have h := h q145 hq146 _ rfl
  obtain ⟨S147, hS148⟩ : ∃ z, z = nA S143 q145 12 4 := ⟨_, rfl⟩
  rw [← hS148] at h ⊢
  refine z_widen (k' := 17) (n' := 1009) (Nat.le_refl _) (Nat.le_refl _) ?_
  refine z_dup dX11_init_139 rfl ?_
  refine z_iconst (v := 0) dX11_init_140 rfl ?_
  refine z_bipush (v := 6) dX11_init_141 rfl ?_
  obtain ⟨hf151, h⟩ := h
  obtain ⟨hj153, h⟩ := h
  have h := h _ rfl
  refine z_iast (j := 0) hf151.1 hf151.2 rfl hj153.1 hj153.2 dX11_init_143 ?_
  obtain ⟨S154, hS155⟩ : ∃ z, z = sA S147 q145 0 6 := ⟨_, rfl⟩
  rw [← hS155] at h ⊢
  have hf151 : q145 ∈ gL S154 ∧ gK S154 q145 = 12 := by rw [hS155]; exact hf151
  refine z_dup dX11_init_144 rfl ?_
  refine z_iconst (v := 1) dX11_init_145 rfl ?_
  refine z_bipush (v := 6) dX11_init_146 rfl ?_
  obtain ⟨hj157, h⟩ := h
  have h := h _ rfl
  refine z_iast (j := 1) hf151.1 hf151.2 rfl hj157.1 hj157.2 dX11_init_148 ?_
  obtain ⟨S158, hS159⟩ : ∃ z, z = sA S154 q145 1 6 := ⟨_, rfl⟩
  rw [← hS159] at h ⊢
  have hf151 : q145 ∈ gL S158 ∧ gK S158 q145 = 12 := by rw [hS159]; exact hf151
  refine z_dup dX11_init_149 rfl ?_
  refine z_iconst (v := 2) dX11_init_150 rfl ?_
  refine z_bipush (v := 6) dX11_init_151 rfl ?_
  obtain ⟨hj161, h⟩ := h
  have h := h _ rfl
  refine z_iast (j := 2) hf151.1 hf151.2 rfl hj161.1 hj161.2 dX11_init_153 ?_
  obtain ⟨S162, hS163⟩ : ∃ z, z = sA S158 q145 2 6 := ⟨_, rfl⟩
  rw [← hS163] at h ⊢
  have hf151 : q145 ∈ gL S162 ∧ gK S162 q145 = 12 := by rw [hS163]; exact hf151
  refine z_dup dX11_init_154 rfl ?_
  refine z_iconst (v := 3) dX11_init_155 rfl ?_
  refine z_bipush (v := 6) dX11_init_156 rfl ?_
  obtain ⟨hj165, h⟩ := h
  have h := h _ rfl
  refine z_iast (j := 3) hf151.1 hf151.2 rfl hj165.1 hj165.2 dX11_init_158 ?_
  obtain ⟨S166, hS167⟩ : ∃ z, z = sA S162 q145 3 6 := ⟨_, rfl⟩
  rw [← hS167] at h ⊢
  have hf151 : q145 ∈ gL S166 ∧ gK S166 q145 = 12 := by rw [hS167]; exact hf151
  obtain ⟨hf168, h⟩ := h
  have h := h _ rfl
  refine z_putV (c := 11) (j := 24) (ty0 := tyX11) (S' := sR S166 1124 a0 (some q145)) hf168.1 hf168.2 (Nat.le_of_ble_eq_true rfl) rfl zU_X11 tyX11_ok nmX11 (Nat.le_of_ble_eq_true rfl) (Nat.le_of_ble_eq_true rfl) ⟨_, zw_1322, Or.inl rfl⟩ (.inr ⟨rfl, rfl⟩) (zrefn (ty := tyX11 24) (o := (some q145)) (by decide)) (zreff (ty := tyX11 24) (o := (some q145)) (by decide)) rfl (zUpR (v := (some q145)) hf168.2 (Nat.le_of_ble_eq_true rfl) (Nat.le_of_ble_eq_true rfl) rfl rfl) dX11_init_159 ?_
  obtain ⟨S169, hS170⟩ : ∃ z, z = sR S166 1124 a0 (some q145) := ⟨_, rfl⟩
  rw [← hS170] at h ⊢
  have hf168 : a0 ∈ gL S169 ∧ gK S169 a0 = 11 := by rw [hS170]; exact hf168
  have hf151 : q145 ∈ gL S169 ∧ gK S169 q145 = 12 := by rw [hS170]; exact hf151
  refine z_aload_n 0 dX11_init_162 rfl rfl ?_
  refine z_iconst (v := (-1)) dX11_init_163 rfl ?_
  have h := h _ rfl
  refine z_putV (c := 11) (j := 26) (ty0 := tyX11) (S' := sI S169 1126 a0 (-1)) hf168.1 hf168.2 (Nat.le_of_ble_eq_true rfl) rfl zU_X11 tyX11_ok nmX11 (Nat.le_of_ble_eq_true rfl) (Nat.le_of_ble_eq_true rfl) ⟨_, zw_1324, Or.inl rfl⟩ (.inl rfl) rfl rfl rfl (zUpI (v := (-1)) hf168.2 (Nat.le_of_ble_eq_true rfl) (Nat.le_of_ble_eq_true rfl) rfl rfl) dX11_init_164 ?_
  obtain ⟨S171, hS172⟩ : ∃ z, z = sI S169 1126 a0 (-1) := ⟨_, rfl⟩
  rw [← hS172] at h ⊢
  have hf168 : a0 ∈ gL S171 ∧ gK S171 a0 = 11 := by rw [hS172]; exact hf168
  have hf151 : q145 ∈ gL S171 ∧ gK S171 q145 = 12 := by rw [hS172]; exact hf151
  refine z_aload_n 0 dX11_init_167 rfl rfl ?_
  refine z_sipush (v := 200) dX11_init_168 rfl ?_
  have h := h _ rfl
  refine z_putV (c := 11) (j := 33) (ty0 := tyX11) (S' := sI S171 1133 a0 200) hf168.1 hf168.2 (Nat.le_of_ble_eq_true rfl) rfl zU_X11 tyX11_ok nmX11 (Nat.le_of_ble_eq_true rfl) (Nat.le_of_ble_eq_true rfl) ⟨_, zw_1331, Or.inl rfl⟩ (.inl rfl) rfl rfl rfl (zUpI (v := 200) hf168.2 (Nat.le_of_ble_eq_true rfl) (Nat.le_of_ble_eq_true rfl) rfl rfl) dX11_init_171 ?_
  obtain ⟨S173, hS174⟩ : ∃ z, z = sI S171 1133 a0 200 := ⟨_, rfl⟩
  rw [← hS174] at h ⊢
  have hf168 : a0 ∈ gL S173 ∧ gK S173 a0 = 11 := by rw [hS174]; exact hf168
  have hf151 : q145 ∈ gL S173 ∧ gK S173 q145 = 12 := by rw [hS174]; exact hf151
  refine z_aload_n 0 dX11_init_174 rfl rfl ?_
  refine z_bipush (v := 6) dX11_init_175 rfl ?_
  refine z_newa (c := 12) (N := 6) (.inl ⟨rfl, rfl⟩) zw_135 rfl (Nat.le_of_ble_eq_true rfl) (Nat.le_of_ble_eq_true rfl) (Nat.le_of_ble_eq_true rfl) dX11_init_177 (fun q175 hq176 => ?_)
  have h := h q175 hq176 _ rfl
  obtain ⟨S177, hS178⟩ : ∃ z, z = nA S173 q175 12 6 := ⟨_, rfl⟩
  rw [← hS178] at h ⊢
  refine z_widen (k' := 18) (n' := 1015) (Nat.le_refl _) (Nat.le_refl _) ?_
  obtain ⟨hf181, h⟩ := h
  have h := h _ rfl
  refine z_putV (c := 11) (j := 34) (ty0 := tyX11) (S' := sR S177 1134 a0 (some q175)) hf181.1 hf181.2 (Nat.le_of_ble_eq_true rfl) rfl zU_X11 tyX11_ok nmX11 (Nat.le_of_ble_eq_true rfl) (Nat.le_of_ble_eq_true rfl) ⟨_, zw_1332, Or.inl rfl⟩ (.inr ⟨rfl, rfl⟩) (zrefn (ty := tyX11 34) (o := (some q175)) (by decide)) (zreff (ty := tyX11 34) (o := (some q175)) (by decide)) rfl (zUpR (v := (some q175)) hf181.2 (Nat.le_of_ble_eq_true rfl) (Nat.le_of_ble_eq_true rfl) rfl rfl) dX11_init_179 ?_
  obtain ⟨S182, hS183⟩ : ∃ z, z = sR S177 1134 a0 (some q175) := ⟨_, rfl⟩
  rw [← hS183] at h ⊢
  have hf181 : a0 ∈ gL S182 ∧ gK S182 a0 = 11 := by rw [hS183]; exact hf181
  refine z_aload_n 0 dX11_init_182 rfl rfl ?_
  refine z_sipush (v := 1440) dX11_init_183 rfl ?_
  refine z_newa (c := 12) (N := 1440) (.inl ⟨rfl, rfl⟩) zw_135 rfl (Nat.le_of_ble_eq_true rfl) (Nat.le_of_ble_eq_true rfl) (Nat.le_of_ble_eq_true rfl) dX11_init_186 (fun q184 hq185 => ?_)
  have h := h q184 hq185 _ rfl
  obtain ⟨S186, hS187⟩ : ∃ z, z = nA S182 q184 12 1440 := ⟨_, rfl⟩
  rw [← hS187] at h ⊢
  refine z_widen (k' := 19) (n' := 2455) (Nat.le_refl _) (Nat.le_refl _) ?_
  obtain ⟨hf190, h⟩ := h
  have h := h _ rfl
  refine z_putV (c := 11) (j := 35) (ty0 := tyX11) (S' := sR S186 1135 a0 (some q184)) hf190.1 hf190.2 (Nat.le_of_ble_eq_true rfl) rfl zU_X11 tyX11_ok nmX11 (Nat.le_of_ble_eq_true rfl) (Nat.le_of_ble_eq_true rfl) ⟨_, zw_1333, Or.inl rfl⟩ (.inr ⟨rfl, rfl⟩) (zrefn (ty := tyX11 35) (o := (some q184)) (by decide)) (zreff (ty := tyX11 35) (o := (some q184)) (by decide)) rfl (zUpR (v := (some q184)) hf190.2 (Nat.le_of_ble_eq_true rfl) (Nat.le_of_ble_eq_true rfl) rfl rfl) dX11_init_188 ?_
  obtain ⟨S191, hS192⟩ : ∃ z, z = sR S186 1135 a0 (some q184) := ⟨_, rfl⟩
  rw [← hS192] at h ⊢
  have hf190 : a0 ∈ gL S191 ∧ gK S191 a0 = 11 := by rw [hS192]; exact hf190
  refine z_aload_n 0 dX11_init_191 rfl rfl ?_
  refine z_bipush (v := 6) dX11_init_192 rfl ?_
  refine z_newa (c := 12) (N := 6) (.inl ⟨rfl, rfl⟩) zw_135 rfl (Nat.le_of_ble_eq_true rfl) (Nat.le_of_ble_eq_true rfl) (Nat.le_of_ble_eq_true rfl) dX11_init_194 (fun q193 hq194 => ?_)
  have h := h q193 hq194 _ rfl
  obtain ⟨S195, hS196⟩ : ∃ z, z = nA S191 q193 12 6 := ⟨_, rfl⟩
  rw [← hS196] at h ⊢
  refine z_widen (k' := 20) (n' := 2461) (Nat.le_refl _) (Nat.le_refl _) ?_
  obtain ⟨hf199, h⟩ := h
  have h := h _ rfl
  refine z_putV (c := 11) (j := 36) (ty0 := tyX11) (S' := sR S195 1136 a0 (some q193)) hf199.1 hf199.2 (Nat.le_of_ble_eq_true rfl) rfl zU_X11 tyX11_ok nmX11 (Nat.le_of_ble_eq_true rfl) (Nat.le_of_ble_eq_true rfl) ⟨_, zw_1334, Or.inl rfl⟩ (.inr ⟨rfl, rfl⟩) (zrefn (ty := tyX11 36) (o := (some q193)) (by decide)) (zreff (ty := tyX11 36) (o := (some q193)) (by decide)) rfl (zUpR (v := (some q193)) hf199.2 (Nat.le_of_ble_eq_true rfl) (Nat.le_of_ble_eq_true rfl) rfl rfl) dX11_init_196 ?_
  obtain ⟨S200, hS201⟩ : ∃ z, z = sR S195 1136 a0 (some q193) := ⟨_, rfl⟩
  rw [← hS201] at h ⊢
  have hf199 : a0 ∈ gL S200 ∧ gK S200 a0 = 11 := by rw [hS201]; exact hf199
  refine z_aload_n 0 dX11_init_199 rfl rfl ?_
  refine z_bipush (v := 6) dX11_init_200 rfl ?_
  refine z_newa (c := 12) (N := 6) (.inl ⟨rfl, rfl⟩) zw_135 rfl (Nat.le_of_ble_eq_true rfl) (Nat.le_of_ble_eq_true rfl) (Nat.le_of_ble_eq_true rfl) dX11_init_202 (fun q202 hq203 => ?_)
  have h := h q202 hq203 _ rfl
  obtain ⟨S204, hS205⟩ : ∃ z, z = nA S200 q202 12 6 := ⟨_, rfl⟩
  rw [← hS205] at h ⊢
  refine z_widen (k' := 21) (n' := 2467) (Nat.le_refl _) (Nat.le_refl _) ?_
  obtain ⟨hf208, h⟩ := h
  have h := h _ rfl
  refine z_putV (c := 11) (j := 37) (ty0 := tyX11) (S' := sR S204 1137 a0 (some q202)) hf208.1 hf208.2 (Nat.le_of_ble_eq_true rfl) rfl zU_X11 tyX11_ok nmX11 (Nat.le_of_ble_eq_true rfl) (Nat.le_of_ble_eq_true rfl) ⟨_, zw_1335, Or.inl rfl⟩ (.inr ⟨rfl, rfl⟩) (zrefn (ty := tyX11 37) (o := (some q202)) (by decide)) (zreff (ty := tyX11 37) (o := (some q202)) (by decide)) rfl (zUpR (v := (some q202)) hf208.2 (Nat.le_of_ble_eq_true rfl) (Nat.le_of_ble_eq_true rfl) rfl rfl) dX11_init_204 ?_
  obtain ⟨S209, hS210⟩ : ∃ z, z = sR S204 1137 a0 (some q202) := ⟨_, rfl⟩
  rw [← hS210] at h ⊢
  have hf208 : a0 ∈ gL S209 ∧ gK S209 a0 = 11 := by rw [hS210]; exact hf208
  refine z_aload_n 0 dX11_init_207 rfl rfl ?_
  refine z_bipush (v := 6) dX11_init_208 rfl ?_
  refine z_newa (c := 12) (N := 6) (.inl ⟨rfl, rfl⟩) zw_135 rfl (Nat.le_of_ble_eq_true rfl) (Nat.le_of_ble_eq_true rfl) (Nat.le_of_ble_eq_true rfl) dX11_init_210 (fun q211 hq212 => ?_)
  have h := h q211 hq212 _ rfl
  obtain ⟨S213, hS214⟩ : ∃ z, z = nA S209 q211 12 6 := ⟨_, rfl⟩
  rw [← hS214] at h ⊢
  refine z_widen (k' := 22) (n' := 2473) (Nat.le_refl _) (Nat.le_refl _) ?_
  obtain ⟨hf217, h⟩ := h
  have h := h _ rfl
  refine z_putV (c := 11) (j := 38) (ty0 := tyX11) (S' := sR S213 1138 a0 (some q211)) hf217.1 hf217.2 (Nat.le_of_ble_eq_true rfl) rfl zU_X11 tyX11_ok nmX11 (Nat.le_of_ble_eq_true rfl) (Nat.le_of_ble_eq_true rfl) ⟨_, zw_1336, Or.inl rfl⟩ (.inr ⟨rfl, rfl⟩) (zrefn (ty := tyX11 38) (o := (some q211)) (by decide)) (zreff (ty := tyX11 38) (o := (some q211)) (by decide)) rfl (zUpR (v := (some q211)) hf217.2 (Nat.le_of_ble_eq_true rfl) (Nat.le_of_ble_eq_true rfl) rfl rfl) dX11_init_212 ?_
  obtain ⟨S218, hS219⟩ : ∃ z, z = sR S213 1138 a0 (some q211) := ⟨_, rfl⟩
  rw [← hS219] at h ⊢
  have hf217 : a0 ∈ gL S218 ∧ gK S218 a0 = 11 := by rw [hS219]; exact hf217
  refine z_aload_n 0 dX11_init_215 rfl rfl ?_
  refine z_iconst (v := (-1)) dX11_init_216 rfl ?_
  have h := h _ rfl
  refine z_putV (c := 11) (j := 41) (ty0 := tyX11) (S' := sI S218 1141 a0 (-1)) hf217.1 hf217.2 (Nat.le_of_ble_eq_true rfl) rfl zU_X11 tyX11_ok nmX11 (Nat.le_of_ble_eq_true rfl) (Nat.le_of_ble_eq_true rfl) ⟨_, zw_1339, Or.inl rfl⟩ (.inl rfl) rfl rfl rfl (zUpI (v := (-1)) hf217.2 (Nat.le_of_ble_eq_true rfl) (Nat.le_of_ble_eq_true rfl) rfl rfl) dX11_init_217 ?_
  obtain ⟨S220, hS221⟩ : ∃ z, z = sI S218 1141 a0 (-1) := ⟨_, rfl⟩
  rw [← hS221] at h ⊢
  have hf217 : a0 ∈ gL S220 ∧ gK S220 a0 = 11 := by rw [hS221]; exact hf217
  exact z_return ⟨rfl, rfl, h⟩ rfl (Nat.le_of_ble_eq_true rfl) (Nat.le_of_ble_eq_true rfl) dX11_init_220
set_option maxRecDepth 20000 in
set_option maxHeartbeats 4000000 in
theorem w_X11_thrown {E : zE} {a0 : Nat} {S : zS} {Q : Int32 → zS → Prop} {X : String → zS → Prop} (h : p_X11_thrown E a0 S Q X) : zM E yX11_thrown cX11_thrown 1 (some .int) ({ frames := 0, cells := 0, slots := 0, locals := 0 } : Room) [.ref a0] S (qI Q) X := by
  unfold p_X11_thrown at h
  refine zM_of RX11 false (by decide) rfl (fun h => by cases h) (Nat.le_of_ble_eq_true rfl) ?_
  refine z_aload_n 0 dX11_thrown_0 rfl rfl ?_
  obtain ⟨hf1, h⟩ := h
  refine z_getI (c := 11) (j := 0) (f := 1100) hf1.1 hf1.2 (Nat.le_of_ble_eq_true rfl) rfl zU_X11 (Nat.le_of_ble_eq_true rfl) (Nat.le_of_ble_eq_true rfl) ⟨_, zw_1298, Or.inl rfl⟩ rfl rfl dX11_thrown_1 ?_
  exact z_ireturn ⟨rfl, _, rfl, h⟩ rfl (Nat.le_of_ble_eq_true rfl) (Nat.le_of_ble_eq_true rfl) dX11_thrown_4
set_option maxRecDepth 20000 in
set_option maxHeartbeats 4000000 in
theorem w_X11_in {E : zE} {l0 : Int32} {l1 : Int32} {l2 : Int32} {S : zS} {Q : Int32 → zS → Prop} {X : String → zS → Prop} (h : p_X11_in E l0 l1 l2 S Q X) : zM E yX11_in cX11_in 3 (some .boolean) ({ frames := 0, cells := 0, slots := 0, locals := 0 } : Room) [.int l0, .int l1, .int l2] S (qI Q) X := by
  unfold p_X11_in at h
  refine zM_of RX11 false (by decide) rfl (fun h => by cases h) (Nat.le_of_ble_eq_true rfl) ?_
  refine z_iload_n 0 dX11_in_0 rfl rfl ?_
  refine z_iload_n 1 dX11_in_1 rfl rfl ?_
  refine z_icmp_lt 14 dX11_in_2 (by decide) (fun c5 => ?_) (fun c5 => ?_)
  · have h := h.1 c5
    refine z_iconst (v := 0) dX11_in_14 rfl ?_
    obtain ⟨hz1, h⟩ := h
    exact z_zreturn ⟨rfl, _, rfl, h⟩ rfl (zbn hz1) (Nat.le_of_ble_eq_true rfl) (Nat.le_of_ble_eq_true rfl) dX11_in_15
  · have h := h.2 c5
    refine z_iload_n 0 dX11_in_5 rfl rfl ?_
    refine z_iload_n 2 dX11_in_6 rfl rfl ?_
    refine z_icmp_gt 14 dX11_in_7 (by decide) (fun c4 => ?_) (fun c4 => ?_)
    · have h := h.1 c4
      refine z_iconst (v := 0) dX11_in_14 rfl ?_
      obtain ⟨hz2, h⟩ := h
      exact z_zreturn ⟨rfl, _, rfl, h⟩ rfl (zbn hz2) (Nat.le_of_ble_eq_true rfl) (Nat.le_of_ble_eq_true rfl) dX11_in_15
    · have h := h.2 c4
      refine z_iconst (v := 1) dX11_in_10 rfl ?_
      refine z_goto 15 dX11_in_11 (by decide) ?_
      obtain ⟨hz3, h⟩ := h
      exact z_zreturn ⟨rfl, _, rfl, h⟩ rfl (zbn hz3) (Nat.le_of_ble_eq_true rfl) (Nat.le_of_ble_eq_true rfl) dX11_in_15
set_option maxRecDepth 20000 in
set_option maxHeartbeats 4000000 in
theorem w_X11_isChange_J37 {E : zE} {B16 : Int32 → Int32 → Int32 → Int32 → Int32 → zS → Prop} {Q : Int32 → zS → Prop} {X : String → zS → Prop} (hB16 : ∀ (l0 : Int32) (l1 : Int32) (l2 : Int32) (l3 : Int32) (l4 : Int32) (S : zS), B16 l0 l1 l2 l3 l4 S → zJ E (RX11, cX11_isChange, 6, (some .boolean), false, [], zTr) ({ frames := 1, cells := 0, slots := 0, locals := 22 } : Room) (zq (qI Q)) (zx X) 16 [(0, .int l0), (1, .int l1), (2, .int l2), (3, .int l3), (4, .int l4)] [] [] S 0 0) (l0 : Int32) (l1 : Int32) (l2 : Int32) (l3 : Int32) (l4 : Int32) (l100 : Int32) (S : zS) (h : p_X11_isChange_J37 E B16 Q X l0 l1 l2 l3 l4 l100 S) : zJ E (RX11, cX11_isChange, 6, (some .boolean), false, [], zTr) ({ frames := 1, cells := 0, slots := 0, locals := 22 } : Room) (zq (qI Q)) (zx X) 37 [(0, .int l0), (1, .int l1), (2, .int l2), (3, .int l3), (4, .int l4)] [.int l100] [] S 0 0 := by
  unfold p_X11_isChange_J37 at h
  refine z_istore (lv' := [(5, .int l100), (0, .int l0), (1, .int l1), (2, .int l2), (3, .int l3), (4, .int l4)]) dX11_isChange_37 (Nat.le_of_ble_eq_true rfl) rfl ?_
  refine z_iload_n 3 dX11_isChange_39 rfl rfl ?_
  refine z_if_eq 58 dX11_isChange_40 (by decide) (fun c9 => ?_) (fun c9 => ?_)
  · have h := h.1 c9
    refine z_iconst (v := 0) dX11_isChange_58 rfl ?_
    refine z_istore_n (lv' := [(2, .int 0), (5, .int l100), (0, .int l0), (1, .int l1), (3, .int l3), (4, .int l4)]) dX11_isChange_59 rfl (Nat.le_of_ble_eq_true rfl) rfl ?_
    refine z_iload 1 dX11_isChange_60 rfl ?_
    refine z_if_eq 69 dX11_isChange_62 (by decide) (fun c3 => ?_) (fun c3 => ?_)
    · have h := h.1 c3
      refine z_iload_n 4 dX11_isChange_69 rfl rfl ?_
      refine z_iconst (v := 1) dX11_isChange_70 rfl ?_
      refine z_iadd dX11_isChange_71 ?_
      refine z_istore_n (lv' := [(3, .int (l3 + 1)), (2, .int 0), (5, .int l100), (0, .int l0), (1, .int l1), (4, .int l4)]) dX11_isChange_72 rfl (Nat.le_of_ble_eq_true rfl) rfl ?_
      refine z_iinc (v := (l4 + 1)) (lv' := [(4, .int (l4 + 1)), (3, .int (l3 + 1)), (2, .int 0), (5, .int l100), (0, .int l0), (1, .int l1)]) 5 dX11_isChange_73 rfl rfl (Nat.le_of_ble_eq_true rfl) rfl ?_
      refine z_goto 16 dX11_isChange_76 (by decide) ?_
      refine z_sub [4, 5, 2, 1, 0] rfl ?_
      exact hB16 l0 l1 0 (l3 + 1) (l4 + 1) S h
    · have h := h.2 c3
      refine z_iconst (v := 0) dX11_isChange_65 rfl ?_
      refine z_goto 72 dX11_isChange_66 (by decide) ?_
      refine z_istore_n (lv' := [(3, .int 0), (2, .int 0), (5, .int l100), (0, .int l0), (1, .int l1), (4, .int l4)]) dX11_isChange_72 rfl (Nat.le_of_ble_eq_true rfl) rfl ?_
      refine z_iinc (v := (l4 + 1)) (lv' := [(4, .int (l4 + 1)), (3, .int 0), (2, .int 0), (5, .int l100), (0, .int l0), (1, .int l1)]) 5 dX11_isChange_73 rfl rfl (Nat.le_of_ble_eq_true rfl) rfl ?_
      refine z_goto 16 dX11_isChange_76 (by decide) ?_
      refine z_sub [4, 5, 2, 1, 0] rfl ?_
      exact hB16 l0 l1 0 0 (l4 + 1) S h
  · have h := h.2 c9
    refine z_iload 0 dX11_isChange_43 rfl ?_
    refine z_if_eq 54 dX11_isChange_45 (by decide) (fun c8 => ?_) (fun c8 => ?_)
    · have h := h.1 c8
      refine z_iconst (v := 1) dX11_isChange_54 rfl ?_
      refine z_goto 59 dX11_isChange_55 (by decide) ?_
      refine z_istore_n (lv' := [(2, .int 1), (5, .int l100), (0, .int l0), (1, .int l1), (3, .int l3), (4, .int l4)]) dX11_isChange_59 rfl (Nat.le_of_ble_eq_true rfl) rfl ?_
      refine z_iload 1 dX11_isChange_60 rfl ?_
      refine z_if_eq 69 dX11_isChange_62 (by decide) (fun c4 => ?_) (fun c4 => ?_)
      · have h := h.1 c4
        refine z_iload_n 4 dX11_isChange_69 rfl rfl ?_
        refine z_iconst (v := 1) dX11_isChange_70 rfl ?_
        refine z_iadd dX11_isChange_71 ?_
        refine z_istore_n (lv' := [(3, .int (l3 + 1)), (2, .int 1), (5, .int l100), (0, .int l0), (1, .int l1), (4, .int l4)]) dX11_isChange_72 rfl (Nat.le_of_ble_eq_true rfl) rfl ?_
        refine z_iinc (v := (l4 + 1)) (lv' := [(4, .int (l4 + 1)), (3, .int (l3 + 1)), (2, .int 1), (5, .int l100), (0, .int l0), (1, .int l1)]) 5 dX11_isChange_73 rfl rfl (Nat.le_of_ble_eq_true rfl) rfl ?_
        refine z_goto 16 dX11_isChange_76 (by decide) ?_
        refine z_sub [4, 5, 2, 1, 0] rfl ?_
        exact hB16 l0 l1 1 (l3 + 1) (l4 + 1) S h
      · have h := h.2 c4
        refine z_iconst (v := 0) dX11_isChange_65 rfl ?_
        refine z_goto 72 dX11_isChange_66 (by decide) ?_
        refine z_istore_n (lv' := [(3, .int 0), (2, .int 1), (5, .int l100), (0, .int l0), (1, .int l1), (4, .int l4)]) dX11_isChange_72 rfl (Nat.le_of_ble_eq_true rfl) rfl ?_
        refine z_iinc (v := (l4 + 1)) (lv' := [(4, .int (l4 + 1)), (3, .int 0), (2, .int 1), (5, .int l100), (0, .int l0), (1, .int l1)]) 5 dX11_isChange_73 rfl rfl (Nat.le_of_ble_eq_true rfl) rfl ?_
        refine z_goto 16 dX11_isChange_76 (by decide) ?_
        refine z_sub [4, 5, 2, 1, 0] rfl ?_
        exact hB16 l0 l1 1 0 (l4 + 1) S h
    · have h := h.2 c8
      refine z_iload_n 4 dX11_isChange_48 rfl rfl ?_
      refine z_iconst (v := 2) dX11_isChange_49 rfl ?_
      refine z_irem dX11_isChange_50 (by decide) ?_
      refine z_if_ne 58 dX11_isChange_51 (by decide) (fun c7 => ?_) (fun c7 => ?_)
      · have h := h.1 c7
        refine z_iconst (v := 0) dX11_isChange_58 rfl ?_
        refine z_istore_n (lv' := [(2, .int 0), (5, .int l100), (0, .int l0), (1, .int l1), (3, .int l3), (4, .int l4)]) dX11_isChange_59 rfl (Nat.le_of_ble_eq_true rfl) rfl ?_
        refine z_iload 1 dX11_isChange_60 rfl ?_
        refine z_if_eq 69 dX11_isChange_62 (by decide) (fun c5 => ?_) (fun c5 => ?_)
        · have h := h.1 c5
          refine z_iload_n 4 dX11_isChange_69 rfl rfl ?_
          refine z_iconst (v := 1) dX11_isChange_70 rfl ?_
          refine z_iadd dX11_isChange_71 ?_
          refine z_istore_n (lv' := [(3, .int (l3 + 1)), (2, .int 0), (5, .int l100), (0, .int l0), (1, .int l1), (4, .int l4)]) dX11_isChange_72 rfl (Nat.le_of_ble_eq_true rfl) rfl ?_
          refine z_iinc (v := (l4 + 1)) (lv' := [(4, .int (l4 + 1)), (3, .int (l3 + 1)), (2, .int 0), (5, .int l100), (0, .int l0), (1, .int l1)]) 5 dX11_isChange_73 rfl rfl (Nat.le_of_ble_eq_true rfl) rfl ?_
          refine z_goto 16 dX11_isChange_76 (by decide) ?_
          refine z_sub [4, 5, 2, 1, 0] rfl ?_
          exact hB16 l0 l1 0 (l3 + 1) (l4 + 1) S h
        · have h := h.2 c5
          refine z_iconst (v := 0) dX11_isChange_65 rfl ?_
          refine z_goto 72 dX11_isChange_66 (by decide) ?_
          refine z_istore_n (lv' := [(3, .int 0), (2, .int 0), (5, .int l100), (0, .int l0), (1, .int l1), (4, .int l4)]) dX11_isChange_72 rfl (Nat.le_of_ble_eq_true rfl) rfl ?_
          refine z_iinc (v := (l4 + 1)) (lv' := [(4, .int (l4 + 1)), (3, .int 0), (2, .int 0), (5, .int l100), (0, .int l0), (1, .int l1)]) 5 dX11_isChange_73 rfl rfl (Nat.le_of_ble_eq_true rfl) rfl ?_
          refine z_goto 16 dX11_isChange_76 (by decide) ?_
          refine z_sub [4, 5, 2, 1, 0] rfl ?_
          exact hB16 l0 l1 0 0 (l4 + 1) S h
      · have h := h.2 c7
        refine z_iconst (v := 1) dX11_isChange_54 rfl ?_
        refine z_goto 59 dX11_isChange_55 (by decide) ?_
        refine z_istore_n (lv' := [(2, .int 1), (5, .int l100), (0, .int l0), (1, .int l1), (3, .int l3), (4, .int l4)]) dX11_isChange_59 rfl (Nat.le_of_ble_eq_true rfl) rfl ?_
        refine z_iload 1 dX11_isChange_60 rfl ?_
        refine z_if_eq 69 dX11_isChange_62 (by decide) (fun c6 => ?_) (fun c6 => ?_)
        · have h := h.1 c6
          refine z_iload_n 4 dX11_isChange_69 rfl rfl ?_
          refine z_iconst (v := 1) dX11_isChange_70 rfl ?_
          refine z_iadd dX11_isChange_71 ?_
          refine z_istore_n (lv' := [(3, .int (l3 + 1)), (2, .int 1), (5, .int l100), (0, .int l0), (1, .int l1), (4, .int l4)]) dX11_isChange_72 rfl (Nat.le_of_ble_eq_true rfl) rfl ?_
          refine z_iinc (v := (l4 + 1)) (lv' := [(4, .int (l4 + 1)), (3, .int (l3 + 1)), (2, .int 1), (5, .int l100), (0, .int l0), (1, .int l1)]) 5 dX11_isChange_73 rfl rfl (Nat.le_of_ble_eq_true rfl) rfl ?_
          refine z_goto 16 dX11_isChange_76 (by decide) ?_
          refine z_sub [4, 5, 2, 1, 0] rfl ?_
          exact hB16 l0 l1 1 (l3 + 1) (l4 + 1) S h
        · have h := h.2 c6
          refine z_iconst (v := 0) dX11_isChange_65 rfl ?_
          refine z_goto 72 dX11_isChange_66 (by decide) ?_
          refine z_istore_n (lv' := [(3, .int 0), (2, .int 1), (5, .int l100), (0, .int l0), (1, .int l1), (4, .int l4)]) dX11_isChange_72 rfl (Nat.le_of_ble_eq_true rfl) rfl ?_
          refine z_iinc (v := (l4 + 1)) (lv' := [(4, .int (l4 + 1)), (3, .int 0), (2, .int 1), (5, .int l100), (0, .int l0), (1, .int l1)]) 5 dX11_isChange_73 rfl rfl (Nat.le_of_ble_eq_true rfl) rfl ?_
          refine z_goto 16 dX11_isChange_76 (by decide) ?_
          refine z_sub [4, 5, 2, 1, 0] rfl ?_
          exact hB16 l0 l1 1 0 (l4 + 1) S h
set_option maxRecDepth 20000 in
set_option maxHeartbeats 4000000 in
theorem w_X11_isChange_L16 {E : zE} {K79 : Int32 → Int32 → zS → Prop} {Q : Int32 → zS → Prop} {X : String → zS → Prop} (hK79 : ∀ (l2 : Int32) (l3 : Int32) (S : zS), K79 l2 l3 S → zJ E (RX11, cX11_isChange, 6, (some .boolean), false, [], zTr) ({ frames := 1, cells := 0, slots := 0, locals := 22 } : Room) (zq (qI Q)) (zx X) 79 [(2, .int l2), (3, .int l3)] [] [] S 0 0) : ∀ (m16 : Nat) (l0 : Int32) (l1 : Int32) (l2 : Int32) (l3 : Int32) (l4 : Int32) (S : zS), p_X11_isChange_L16 E K79 Q X m16 l0 l1 l2 l3 l4 S → zJ E (RX11, cX11_isChange, 6, (some .boolean), false, [], zTr) ({ frames := 1, cells := 0, slots := 0, locals := 22 } : Room) (zq (qI Q)) (zx X) 16 [(0, .int l0), (1, .int l1), (2, .int l2), (3, .int l3), (4, .int l4)] [] [] S 0 0 := by
  intro m16
  induction m16 with
  | zero => intro l0 l1 l2 l3 l4 S h; exact (show False from h).elim
  | succ m16 ih =>
    intro l0 l1 l2 l3 l4 S h
    unfold p_X11_isChange_L16 at h
    refine z_iload 4 dX11_isChange_16 rfl ?_
    refine z_iload_n 0 dX11_isChange_18 rfl rfl ?_
    refine z_icmp_ge 79 dX11_isChange_19 (by decide) (fun c11 => ?_) (fun c11 => ?_)
    · have h := h.1 c11
      refine z_sub [2, 3] rfl ?_
      exact hK79 l2 l3 S h
    · have h := h.2 c11
      refine z_iload_n 1 dX11_isChange_22 rfl rfl ?_
      refine z_iload 4 dX11_isChange_23 rfl ?_
      refine z_ishr dX11_isChange_25 ?_
      refine z_iconst (v := 1) dX11_isChange_26 rfl ?_
      refine z_iand dX11_isChange_27 ?_
      refine z_iconst (v := 1) dX11_isChange_28 rfl ?_
      refine z_icmp_ne 36 dX11_isChange_29 (by decide) (fun c10 => ?_) (fun c10 => ?_)
      · have h := h.1 c10
        refine z_iconst (v := 0) dX11_isChange_36 rfl ?_
        refine w_X11_isChange_J37 (fun l0 l1 l2 l3 l4 S h => ?_) l0 l1 l2 l3 l4 0 S h
        exact ih l0 l1 l2 l3 l4 S h
      · have h := h.2 c10
        refine z_iconst (v := 1) dX11_isChange_32 rfl ?_
        refine z_goto 37 dX11_isChange_33 (by decide) ?_
        refine w_X11_isChange_J37 (fun l0 l1 l2 l3 l4 S h => ?_) l0 l1 l2 l3 l4 1 S h
        exact ih l0 l1 l2 l3 l4 S h
set_option maxRecDepth 20000 in
set_option maxHeartbeats 4000000 in
theorem w_X11_isChange {E : zE} {l0 : Int32} {l1 : Int32} {S : zS} {Q : Int32 → zS → Prop} {X : String → zS → Prop} (h : p_X11_isChange E l0 l1 S Q X) : zM E yX11_isChange cX11_isChange 6 (some .boolean) ({ frames := 1, cells := 0, slots := 0, locals := 22 } : Room) [.int l0, .int l1] S (qI Q) X := by
  unfold p_X11_isChange at h
  refine zM_of RX11 false (by decide) rfl (fun h => by cases h) (Nat.le_of_ble_eq_true rfl) ?_
  refine z_iload_n 1 dX11_isChange_0 rfl rfl ?_
  refine z_iconst (v := 0) dX11_isChange_1 rfl ?_
  refine z_iconst (v := 1) dX11_isChange_2 rfl ?_
  refine z_iload_n 0 dX11_isChange_3 rfl rfl ?_
  refine z_ishl dX11_isChange_4 ?_
  refine z_iconst (v := 2) dX11_isChange_5 rfl ?_
  refine z_isub dX11_isChange_6 ?_
  refine z_callSI (st := []) (w_X11_in h) zw_1435 zw_1433 zw_1434 zw_74 zy_X11_in rfl rfl ⟨Nat.le_of_ble_eq_true rfl, Nat.le_of_ble_eq_true rfl⟩ ⟨(Nat.le_of_ble_eq_true rfl), (Nat.le_of_ble_eq_true rfl)⟩ (Nat.le_of_ble_eq_true rfl) dX11_isChange_7 (fun _ _ hx => hx.elim) (fun r2 S1 h => ?_)
  refine z_widen (k' := 0) (n' := 0) (Nat.le_refl _) (Nat.le_refl _) ?_
  refine z_istore_n (lv' := [(2, .int r2), (0, .int l0), (1, .int l1)]) dX11_isChange_10 rfl (Nat.le_of_ble_eq_true rfl) rfl ?_
  refine z_iconst (v := 0) dX11_isChange_11 rfl ?_
  refine z_istore_n (lv' := [(3, .int 0), (2, .int r2), (0, .int l0), (1, .int l1)]) dX11_isChange_12 rfl (Nat.le_of_ble_eq_true rfl) rfl ?_
  refine z_iconst (v := 0) dX11_isChange_13 rfl ?_
  refine z_istore (lv' := [(4, .int 0), (3, .int 0), (2, .int r2), (0, .int l0), (1, .int l1)]) dX11_isChange_14 (Nat.le_of_ble_eq_true rfl) rfl ?_
  obtain ⟨m16, h⟩ := h
  refine z_sub [3, 4, 2, 1, 0] rfl ?_
  refine w_X11_isChange_L16 (fun l2 l3 S h => ?_) m16 l0 l1 r2 0 0 S1 h
  refine z_iload_n 0 dX11_isChange_79 rfl rfl ?_
  refine z_if_eq 93 dX11_isChange_80 (by decide) (fun c16 => ?_) (fun c16 => ?_)
  · have h := h.1 c16
    refine z_iconst (v := 0) dX11_isChange_93 rfl ?_
    obtain ⟨hz12, h⟩ := h
    exact z_zreturn ⟨rfl, _, rfl, h⟩ rfl (zbn hz12) (Nat.le_of_ble_eq_true rfl) (Nat.le_of_ble_eq_true rfl) dX11_isChange_94
  · have h := h.2 c16
    refine z_iload_n 1 dX11_isChange_83 rfl rfl ?_
    refine z_iconst (v := 2) dX11_isChange_84 rfl ?_
    refine z_irem dX11_isChange_85 (by decide) ?_
    refine z_if_ne 93 dX11_isChange_86 (by decide) (fun c15 => ?_) (fun c15 => ?_)
    · have h := h.1 c15
      refine z_iconst (v := 0) dX11_isChange_93 rfl ?_
      obtain ⟨hz13, h⟩ := h
      exact z_zreturn ⟨rfl, _, rfl, h⟩ rfl (zbn hz13) (Nat.le_of_ble_eq_true rfl) (Nat.le_of_ble_eq_true rfl) dX11_isChange_94
    · have h := h.2 c15
      refine z_iconst (v := 1) dX11_isChange_89 rfl ?_
      refine z_goto 94 dX11_isChange_90 (by decide) ?_
      obtain ⟨hz14, h⟩ := h
      exact z_zreturn ⟨rfl, _, rfl, h⟩ rfl (zbn hz14) (Nat.le_of_ble_eq_true rfl) (Nat.le_of_ble_eq_true rfl) dX11_isChange_94
set_option maxRecDepth 20000 in
set_option maxHeartbeats 4000000 in
theorem w_X11_bell {E : zE} {l0 : Int32} {l1 : Int32} {S : zS} {Q : Int32 → zS → Prop} {X : String → zS → Prop} (h : p_X11_bell E l0 l1 S Q X) : zM E yX11_bell cX11_bell 2 (some .int) ({ frames := 0, cells := 0, slots := 0, locals := 0 } : Room) [.int l0, .int l1] S (qI Q) X := by
  unfold p_X11_bell at h
  refine zM_of RX11 false (by decide) rfl (fun h => by cases h) (Nat.le_of_ble_eq_true rfl) ?_
  refine z_iload_n 0 dX11_bell_0 rfl rfl ?_
  refine z_iconst (v := 3) dX11_bell_1 rfl ?_
  refine z_iload_n 1 dX11_bell_2 rfl rfl ?_
  refine z_imul dX11_bell_3 ?_
  refine z_ishr dX11_bell_4 ?_
  refine z_bipush (v := 7) dX11_bell_5 rfl ?_
  refine z_iand dX11_bell_7 ?_
  exact z_ireturn ⟨rfl, _, rfl, h⟩ rfl (Nat.le_of_ble_eq_true rfl) (Nat.le_of_ble_eq_true rfl) dX11_bell_8
set_option maxRecDepth 20000 in
set_option maxHeartbeats 4000000 in
theorem w_X11_rounds_L4 {E : zE} {K23 : Int32 → zS → Prop} {Q : Int32 → zS → Prop} {X : String → zS → Prop} (hK23 : ∀ (l1 : Int32) (S : zS), K23 l1 S → zJ E (RX11, cX11_rounds, 3, (some .int), false, [], zTr) ({ frames := 0, cells := 0, slots := 0, locals := 0 } : Room) (zq (qI Q)) (zx X) 23 [(1, .int l1)] [] [] S 0 0) : ∀ (m4 : Nat) (l0 : Int32) (l1 : Int32) (l2 : Int32) (S : zS), p_X11_rounds_L4 E K23 Q X m4 l0 l1 l2 S → zJ E (RX11, cX11_rounds, 3, (some .int), false, [], zTr) ({ frames := 0, cells := 0, slots := 0, locals := 0 } : Room) (zq (qI Q)) (zx X) 4 [(0, .int l0), (1, .int l1), (2, .int l2)] [] [] S 0 0 := by
  intro m4
  induction m4 with
  | zero => intro l0 l1 l2 S h; exact (show False from h).elim
  | succ m4 ih =>
    intro l0 l1 l2 S h
    unfold p_X11_rounds_L4 at h
    refine z_iload_n 2 dX11_rounds_4 rfl rfl ?_
    refine z_iload_n 0 dX11_rounds_5 rfl rfl ?_
    refine z_icmp_ge 23 dX11_rounds_6 (by decide) (fun c1 => ?_) (fun c1 => ?_)
    · have h := h.1 c1
      refine z_sub [1] rfl ?_
      exact hK23 l1 S h
    · have h := h.2 c1
      refine z_iload_n 1 dX11_rounds_9 rfl rfl ?_
      refine z_iload_n 2 dX11_rounds_10 rfl rfl ?_
      refine z_iconst (v := 3) dX11_rounds_11 rfl ?_
      refine z_iload_n 2 dX11_rounds_12 rfl rfl ?_
      refine z_imul dX11_rounds_13 ?_
      refine z_ishl dX11_rounds_14 ?_
      refine z_ior dX11_rounds_15 ?_
      refine z_istore_n (lv' := [(1, .int (l1 ||| (l2 <<< ((3 * l2) &&& 31)))), (0, .int l0), (2, .int l2)]) dX11_rounds_16 rfl (Nat.le_of_ble_eq_true rfl) rfl ?_
      refine z_iinc (v := (l2 + 1)) (lv' := [(2, .int (l2 + 1)), (1, .int (l1 ||| (l2 <<< ((3 * l2) &&& 31)))), (0, .int l0)]) 2 dX11_rounds_17 rfl rfl (Nat.le_of_ble_eq_true rfl) rfl ?_
      refine z_goto 4 dX11_rounds_20 (by decide) ?_
      refine z_sub [2, 1, 0] rfl ?_
      exact ih l0 (l1 ||| (l2 <<< ((3 * l2) &&& 31))) (l2 + 1) S h
set_option maxRecDepth 20000 in
set_option maxHeartbeats 4000000 in
theorem w_X11_rounds {E : zE} {l0 : Int32} {S : zS} {Q : Int32 → zS → Prop} {X : String → zS → Prop} (h : p_X11_rounds E l0 S Q X) : zM E yX11_rounds cX11_rounds 3 (some .int) ({ frames := 0, cells := 0, slots := 0, locals := 0 } : Room) [.int l0] S (qI Q) X := by
  unfold p_X11_rounds at h
  refine zM_of RX11 false (by decide) rfl (fun h => by cases h) (Nat.le_of_ble_eq_true rfl) ?_
  refine z_iconst (v := 0) dX11_rounds_0 rfl ?_
  refine z_istore_n (lv' := [(1, .int 0), (0, .int l0)]) dX11_rounds_1 rfl (Nat.le_of_ble_eq_true rfl) rfl ?_
  refine z_iconst (v := 0) dX11_rounds_2 rfl ?_
  refine z_istore_n (lv' := [(2, .int 0), (1, .int 0), (0, .int l0)]) dX11_rounds_3 rfl (Nat.le_of_ble_eq_true rfl) rfl ?_
  obtain ⟨m4, h⟩ := h
  refine z_sub [2, 1, 0] rfl ?_
  refine w_X11_rounds_L4 (fun l1 S h => ?_) m4 l0 0 0 S h
  refine z_iload_n 0 dX11_rounds_23 rfl rfl ?_
  exact z_ireturn ⟨rfl, _, rfl, h⟩ rfl (Nat.le_of_ble_eq_true rfl) (Nat.le_of_ble_eq_true rfl) dX11_rounds_24
set_option maxRecDepth 20000 in
set_option maxHeartbeats 4000000 in
theorem w_X11_changed_L5 {E : zE} {K77 : Int32 → zS → Prop} {Q : Int32 → zS → Prop} {X : String → zS → Prop} (hK77 : ∀ (l3 : Int32) (S : zS), K77 l3 S → zJ E (RX11, cX11_changed, 5, (some .int), false, [], zTr) ({ frames := 1, cells := 0, slots := 0, locals := 21 } : Room) (zq (qI Q)) (zx X) 77 [(3, .int l3)] [] [] S 0 0) : ∀ (m5 : Nat) (l0 : Int32) (l1 : Int32) (l2 : Int32) (l3 : Int32) (l4 : Int32) (S : zS), p_X11_changed_L5 E K77 Q X m5 l0 l1 l2 l3 l4 S → zJ E (RX11, cX11_changed, 5, (some .int), false, [], zTr) ({ frames := 1, cells := 0, slots := 0, locals := 21 } : Room) (zq (qI Q)) (zx X) 5 [(0, .int l0), (1, .int l1), (2, .int l2), (3, .int l3), (4, .int l4)] [] [] S 0 0 := by
  intro m5
  induction m5 with
  | zero => intro l0 l1 l2 l3 l4 S h; exact (show False from h).elim
  | succ m5 ih =>
    intro l0 l1 l2 l3 l4 S h
    unfold p_X11_changed_L5 at h
    refine z_iload 4 dX11_changed_5 rfl ?_
    refine z_iload_n 1 dX11_changed_7 rfl rfl ?_
    refine z_icmp_ge 77 dX11_changed_8 (by decide) (fun c10 => ?_) (fun c10 => ?_)
    · have h := h.1 c10
      refine z_sub [3] rfl ?_
      exact hK77 l3 S h
    · have h := h.2 c10
      refine z_iload_n 2 dX11_changed_11 rfl rfl ?_
      refine z_iload 4 dX11_changed_12 rfl ?_
      refine z_ishr dX11_changed_14 ?_
      refine z_iconst (v := 1) dX11_changed_15 rfl ?_
      refine z_iand dX11_changed_16 ?_
      refine z_iconst (v := 1) dX11_changed_17 rfl ?_
      refine z_icmp_ne 41 dX11_changed_18 (by decide) (fun c9 => ?_) (fun c9 => ?_)
      · have h := h.1 c9
        refine z_iload_n 3 dX11_changed_41 rfl rfl ?_
        refine z_iload_n 0 dX11_changed_42 rfl rfl ?_
        refine z_iload 4 dX11_changed_43 rfl ?_
        refine z_iconst (v := 1) dX11_changed_45 rfl ?_
        refine z_iadd dX11_changed_46 ?_
        refine z_callSI (st := [.int l3]) (w_X11_bell h) zw_1491 zw_1489 zw_1490 zw_74 zy_X11_bell rfl rfl ⟨Nat.le_of_ble_eq_true rfl, Nat.le_of_ble_eq_true rfl⟩ ⟨(Nat.le_of_ble_eq_true rfl), (Nat.le_of_ble_eq_true rfl)⟩ (Nat.le_of_ble_eq_true rfl) dX11_changed_47 (fun _ _ hx => hx.elim) (fun r2 S1 h => ?_)
        refine z_widen (k' := 0) (n' := 0) (Nat.le_refl _) (Nat.le_refl _) ?_
        refine z_iconst (v := 3) dX11_changed_50 rfl ?_
        refine z_iload 4 dX11_changed_51 rfl ?_
        refine z_imul dX11_changed_53 ?_
        refine z_ishl dX11_changed_54 ?_
        refine z_iload_n 0 dX11_changed_55 rfl rfl ?_
        refine z_iload 4 dX11_changed_56 rfl ?_
        refine z_callSI (st := [.int (r2 <<< ((3 * l4) &&& 31)), .int l3]) (w_X11_bell h) zw_1491 zw_1489 zw_1490 zw_74 zy_X11_bell rfl rfl ⟨Nat.le_of_ble_eq_true rfl, Nat.le_of_ble_eq_true rfl⟩ ⟨(Nat.le_of_ble_eq_true rfl), (Nat.le_of_ble_eq_true rfl)⟩ (Nat.le_of_ble_eq_true rfl) dX11_changed_58 (fun _ _ hx => hx.elim) (fun r4 S3 h => ?_)
        refine z_widen (k' := 0) (n' := 0) (Nat.le_refl _) (Nat.le_refl _) ?_
        refine z_iconst (v := 3) dX11_changed_61 rfl ?_
        refine z_iload 4 dX11_changed_62 rfl ?_
        refine z_imul dX11_changed_64 ?_
        refine z_iconst (v := 3) dX11_changed_65 rfl ?_
        refine z_iadd dX11_changed_66 ?_
        refine z_ishl dX11_changed_67 ?_
        refine z_ior dX11_changed_68 ?_
        refine z_ior dX11_changed_69 ?_
        refine z_top (fun x5 hx6 => ?_)
        have h := h x5 hx6
        refine z_istore_n (lv' := [(3, .int x5), (0, .int l0), (1, .int l1), (2, .int l2), (4, .int l4)]) dX11_changed_70 rfl (Nat.le_of_ble_eq_true rfl) rfl ?_
        refine z_iinc (v := (l4 + 2)) (lv' := [(4, .int (l4 + 2)), (3, .int x5), (0, .int l0), (1, .int l1), (2, .int l2)]) 4 dX11_changed_71 rfl rfl (Nat.le_of_ble_eq_true rfl) rfl ?_
        refine z_goto 5 dX11_changed_74 (by decide) ?_
        refine z_sub [2, 3, 4, 1, 0] rfl ?_
        exact ih l0 l1 l2 x5 (l4 + 2) S3 h
      · have h := h.2 c9
        refine z_iload_n 3 dX11_changed_21 rfl rfl ?_
        refine z_iload_n 0 dX11_changed_22 rfl rfl ?_
        refine z_iload 4 dX11_changed_23 rfl ?_
        refine z_callSI (st := [.int l3]) (w_X11_bell h) zw_1491 zw_1489 zw_1490 zw_74 zy_X11_bell rfl rfl ⟨Nat.le_of_ble_eq_true rfl, Nat.le_of_ble_eq_true rfl⟩ ⟨(Nat.le_of_ble_eq_true rfl), (Nat.le_of_ble_eq_true rfl)⟩ (Nat.le_of_ble_eq_true rfl) dX11_changed_25 (fun _ _ hx => hx.elim) (fun r8 S7 h => ?_)
        refine z_widen (k' := 0) (n' := 0) (Nat.le_refl _) (Nat.le_refl _) ?_
        refine z_iconst (v := 3) dX11_changed_28 rfl ?_
        refine z_iload 4 dX11_changed_29 rfl ?_
        refine z_imul dX11_changed_31 ?_
        refine z_ishl dX11_changed_32 ?_
        refine z_ior dX11_changed_33 ?_
        refine z_istore_n (lv' := [(3, .int (l3 ||| (r8 <<< ((3 * l4) &&& 31)))), (0, .int l0), (1, .int l1), (2, .int l2), (4, .int l4)]) dX11_changed_34 rfl (Nat.le_of_ble_eq_true rfl) rfl ?_
        refine z_iinc (v := (l4 + 1)) (lv' := [(4, .int (l4 + 1)), (3, .int (l3 ||| (r8 <<< ((3 * l4) &&& 31)))), (0, .int l0), (1, .int l1), (2, .int l2)]) 4 dX11_changed_35 rfl rfl (Nat.le_of_ble_eq_true rfl) rfl ?_
        refine z_goto 5 dX11_changed_38 (by decide) ?_
        refine z_sub [2, 3, 4, 1, 0] rfl ?_
        exact ih l0 l1 l2 (l3 ||| (r8 <<< ((3 * l4) &&& 31))) (l4 + 1) S7 h
set_option maxRecDepth 20000 in
set_option maxHeartbeats 4000000 in
theorem w_X11_changed {E : zE} {l0 : Int32} {l1 : Int32} {l2 : Int32} {S : zS} {Q : Int32 → zS → Prop} {X : String → zS → Prop} (h : p_X11_changed E l0 l1 l2 S Q X) : zM E yX11_changed cX11_changed 5 (some .int) ({ frames := 1, cells := 0, slots := 0, locals := 21 } : Room) [.int l0, .int l1, .int l2] S (qI Q) X := by
  unfold p_X11_changed at h
  refine zM_of RX11 false (by decide) rfl (fun h => by cases h) (Nat.le_of_ble_eq_true rfl) ?_
  refine z_iconst (v := 0) dX11_changed_0 rfl ?_
  refine z_istore_n (lv' := [(3, .int 0), (0, .int l0), (1, .int l1), (2, .int l2)]) dX11_changed_1 rfl (Nat.le_of_ble_eq_true rfl) rfl ?_
  refine z_iconst (v := 0) dX11_changed_2 rfl ?_
  refine z_istore (lv' := [(4, .int 0), (3, .int 0), (0, .int l0), (1, .int l1), (2, .int l2)]) dX11_changed_3 (Nat.le_of_ble_eq_true rfl) rfl ?_
  obtain ⟨m5, h⟩ := h
  refine z_sub [2, 3, 4, 1, 0] rfl ?_
  refine w_X11_changed_L5 (fun l3 S h => ?_) m5 l0 l1 l2 0 0 S h
  refine z_iload_n 0 dX11_changed_77 rfl rfl ?_
  exact z_ireturn ⟨rfl, _, rfl, h⟩ rfl (Nat.le_of_ble_eq_true rfl) (Nat.le_of_ble_eq_true rfl) dX11_changed_78
set_option maxRecDepth 20000 in
set_option maxHeartbeats 4000000 in
theorem w_X11_number_L17 {E : zE} {K53 : Int32 → Int32 → Int32 → Int32 → Int32 → zS → Prop} {Q : Int32 → zS → Prop} {X : String → zS → Prop} (hK53 : ∀ (l0 : Int32) (l1 : Int32) (l2 : Int32) (l3 : Int32) (l4 : Int32) (S : zS), K53 l0 l1 l2 l3 l4 S → zJ E (RX11, cX11_number, 6, (some .int), false, [], zTr) ({ frames := 1, cells := 0, slots := 0, locals := 21 } : Room) (zq (qI Q)) (zx X) 53 [(0, .int l0), (1, .int l1), (2, .int l2), (3, .int l3), (4, .int l4)] [] [] S 0 0) : ∀ (m17 : Nat) (l0 : Int32) (l1 : Int32) (l2 : Int32) (l3 : Int32) (l4 : Int32) (l5 : Int32) (S : zS), p_X11_number_L17 E K53 Q X m17 l0 l1 l2 l3 l4 l5 S → zJ E (RX11, cX11_number, 6, (some .int), false, [], zTr) ({ frames := 1, cells := 0, slots := 0, locals := 21 } : Room) (zq (qI Q)) (zx X) 17 [(0, .int l0), (1, .int l1), (2, .int l2), (3, .int l3), (4, .int l4), (5, .int l5)] [] [] S 0 0 := by
  intro m17
  induction m17 with
  | zero => intro l0 l1 l2 l3 l4 l5 S h; exact (show False from h).elim
  | succ m17 ih =>
    intro l0 l1 l2 l3 l4 l5 S h
    unfold p_X11_number_L17 at h
    refine z_iload 5 dX11_number_17 rfl ?_
    refine z_iload_n 1 dX11_number_19 rfl rfl ?_
    refine z_icmp_ge 53 dX11_number_20 (by decide) (fun c6 => ?_) (fun c6 => ?_)
    · have h := h.1 c6
      refine z_sub [0, 1, 2, 3, 4] rfl ?_
      exact hK53 l0 l1 l2 l3 l4 S h
    · have h := h.2 c6
      refine z_iload 4 dX11_number_23 rfl ?_
      refine z_iload_n 0 dX11_number_25 rfl rfl ?_
      refine z_iload 5 dX11_number_26 rfl ?_
      refine z_callSI (st := [.int l4]) (w_X11_bell h) zw_1491 zw_1489 zw_1490 zw_74 zy_X11_bell rfl rfl ⟨Nat.le_of_ble_eq_true rfl, Nat.le_of_ble_eq_true rfl⟩ ⟨(Nat.le_of_ble_eq_true rfl), (Nat.le_of_ble_eq_true rfl)⟩ (Nat.le_of_ble_eq_true rfl) dX11_number_28 (fun _ _ hx => hx.elim) (fun r2 S1 h => ?_)
      refine z_widen (k' := 0) (n' := 0) (Nat.le_refl _) (Nat.le_refl _) ?_
      refine z_iload_n 0 dX11_number_31 rfl rfl ?_
      refine z_iload_n 3 dX11_number_32 rfl rfl ?_
      refine z_callSI (st := [.int r2, .int l4]) (w_X11_bell h) zw_1491 zw_1489 zw_1490 zw_74 zy_X11_bell rfl rfl ⟨Nat.le_of_ble_eq_true rfl, Nat.le_of_ble_eq_true rfl⟩ ⟨(Nat.le_of_ble_eq_true rfl), (Nat.le_of_ble_eq_true rfl)⟩ (Nat.le_of_ble_eq_true rfl) dX11_number_33 (fun _ _ hx => hx.elim) (fun r4 S3 h => ?_)
      refine z_widen (k' := 0) (n' := 0) (Nat.le_refl _) (Nat.le_refl _) ?_
      refine z_icmp_ge 43 dX11_number_36 (by decide) (fun c5 => ?_) (fun c5 => ?_)
      · have h := h.1 c5
        refine z_iconst (v := 0) dX11_number_43 rfl ?_
        refine z_iadd dX11_number_44 ?_
        refine z_istore (lv' := [(4, .int (l4 + 0)), (0, .int l0), (1, .int l1), (2, .int l2), (3, .int l3), (5, .int l5)]) dX11_number_45 (Nat.le_of_ble_eq_true rfl) rfl ?_
        refine z_iinc (v := (l5 + 1)) (lv' := [(5, .int (l5 + 1)), (4, .int (l4 + 0)), (0, .int l0), (1, .int l1), (2, .int l2), (3, .int l3)]) 5 dX11_number_47 rfl rfl (Nat.le_of_ble_eq_true rfl) rfl ?_
        refine z_goto 17 dX11_number_50 (by decide) ?_
        refine z_sub [2, 3, 4, 5, 1, 0] rfl ?_
        exact ih l0 l1 l2 l3 (l4 + 0) (l5 + 1) S3 h
      · have h := h.2 c5
        refine z_iconst (v := 1) dX11_number_39 rfl ?_
        refine z_goto 44 dX11_number_40 (by decide) ?_
        refine z_iadd dX11_number_44 ?_
        refine z_istore (lv' := [(4, .int (l4 + 1)), (0, .int l0), (1, .int l1), (2, .int l2), (3, .int l3), (5, .int l5)]) dX11_number_45 (Nat.le_of_ble_eq_true rfl) rfl ?_
        refine z_iinc (v := (l5 + 1)) (lv' := [(5, .int (l5 + 1)), (4, .int (l4 + 1)), (0, .int l0), (1, .int l1), (2, .int l2), (3, .int l3)]) 5 dX11_number_47 rfl rfl (Nat.le_of_ble_eq_true rfl) rfl ?_
        refine z_goto 17 dX11_number_50 (by decide) ?_
        refine z_sub [2, 3, 4, 5, 1, 0] rfl ?_
        exact ih l0 l1 l2 l3 (l4 + 1) (l5 + 1) S3 h
set_option maxRecDepth 20000 in
set_option maxHeartbeats 4000000 in
theorem w_X11_number_L4 {E : zE} {K68 : Int32 → zS → Prop} {Q : Int32 → zS → Prop} {X : String → zS → Prop} (hK68 : ∀ (l2 : Int32) (S : zS), K68 l2 S → zJ E (RX11, cX11_number, 6, (some .int), false, [], zTr) ({ frames := 1, cells := 0, slots := 0, locals := 21 } : Room) (zq (qI Q)) (zx X) 68 [(2, .int l2)] [] [] S 0 0) : ∀ (m4 : Nat) (l0 : Int32) (l1 : Int32) (l2 : Int32) (l3 : Int32) (S : zS), p_X11_number_L4 E K68 Q X m4 l0 l1 l2 l3 S → zJ E (RX11, cX11_number, 6, (some .int), false, [], zTr) ({ frames := 1, cells := 0, slots := 0, locals := 21 } : Room) (zq (qI Q)) (zx X) 4 [(0, .int l0), (1, .int l1), (2, .int l2), (3, .int l3)] [] [] S 0 0 := by
  intro m4
  induction m4 with
  | zero => intro l0 l1 l2 l3 S h; exact (show False from h).elim
  | succ m4 ih =>
    intro l0 l1 l2 l3 S h
    unfold p_X11_number_L4 at h
    refine z_iload_n 3 dX11_number_4 rfl rfl ?_
    refine z_iload_n 1 dX11_number_5 rfl rfl ?_
    refine z_icmp_ge 68 dX11_number_6 (by decide) (fun c7 => ?_) (fun c7 => ?_)
    · have h := h.1 c7
      refine z_sub [2] rfl ?_
      exact hK68 l2 S h
    · have h := h.2 c7
      refine z_iconst (v := 0) dX11_number_9 rfl ?_
      refine z_istore (lv' := [(4, .int 0), (0, .int l0), (1, .int l1), (2, .int l2), (3, .int l3)]) dX11_number_10 (Nat.le_of_ble_eq_true rfl) rfl ?_
      refine z_iload_n 4 dX11_number_12 rfl rfl ?_
      refine z_iconst (v := 1) dX11_number_13 rfl ?_
      refine z_iadd dX11_number_14 ?_
      refine z_istore (lv' := [(5, .int (l3 + 1)), (4, .int 0), (0, .int l0), (1, .int l1), (2, .int l2), (3, .int l3)]) dX11_number_15 (Nat.le_of_ble_eq_true rfl) rfl ?_
      obtain ⟨m17, h⟩ := h
      refine z_sub [2, 3, 4, 5, 1, 0] rfl ?_
      refine w_X11_number_L17 (fun l0 l1 l2 l3 l4 S h => ?_) m17 l0 l1 l2 l3 0 (l3 + 1) S h
      refine z_iload_n 2 dX11_number_53 rfl rfl ?_
      refine z_iload_n 1 dX11_number_54 rfl rfl ?_
      refine z_iload_n 3 dX11_number_55 rfl rfl ?_
      refine z_isub dX11_number_56 ?_
      refine z_imul dX11_number_57 ?_
      refine z_iload 4 dX11_number_58 rfl ?_
      refine z_iadd dX11_number_60 ?_
      refine z_istore_n (lv' := [(2, .int ((l2 * (l1 - l3)) + l4)), (0, .int l0), (1, .int l1), (3, .int l3), (4, .int l4)]) dX11_number_61 rfl (Nat.le_of_ble_eq_true rfl) rfl ?_
      refine z_iinc (v := (l3 + 1)) (lv' := [(3, .int (l3 + 1)), (2, .int ((l2 * (l1 - l3)) + l4)), (0, .int l0), (1, .int l1), (4, .int l4)]) 3 dX11_number_62 rfl rfl (Nat.le_of_ble_eq_true rfl) rfl ?_
      refine z_goto 4 dX11_number_65 (by decide) ?_
      refine z_sub [2, 3, 1, 0] rfl ?_
      exact ih l0 l1 ((l2 * (l1 - l3)) + l4) (l3 + 1) S h
set_option maxRecDepth 20000 in
set_option maxHeartbeats 4000000 in
theorem w_X11_number {E : zE} {l0 : Int32} {l1 : Int32} {S : zS} {Q : Int32 → zS → Prop} {X : String → zS → Prop} (h : p_X11_number E l0 l1 S Q X) : zM E yX11_number cX11_number 6 (some .int) ({ frames := 1, cells := 0, slots := 0, locals := 21 } : Room) [.int l0, .int l1] S (qI Q) X := by
  unfold p_X11_number at h
  refine zM_of RX11 false (by decide) rfl (fun h => by cases h) (Nat.le_of_ble_eq_true rfl) ?_
  refine z_iconst (v := 0) dX11_number_0 rfl ?_
  refine z_istore_n (lv' := [(2, .int 0), (0, .int l0), (1, .int l1)]) dX11_number_1 rfl (Nat.le_of_ble_eq_true rfl) rfl ?_
  refine z_iconst (v := 0) dX11_number_2 rfl ?_
  refine z_istore_n (lv' := [(3, .int 0), (2, .int 0), (0, .int l0), (1, .int l1)]) dX11_number_3 rfl (Nat.le_of_ble_eq_true rfl) rfl ?_
  obtain ⟨m4, h⟩ := h
  refine z_sub [2, 3, 1, 0] rfl ?_
  refine w_X11_number_L4 (fun l2 S h => ?_) m4 l0 l1 0 0 S h
  refine z_iload_n 0 dX11_number_68 rfl rfl ?_
  exact z_ireturn ⟨rfl, _, rfl, h⟩ rfl (Nat.le_of_ble_eq_true rfl) (Nat.le_of_ble_eq_true rfl) dX11_number_69
set_option maxRecDepth 20000 in
set_option maxHeartbeats 4000000 in
theorem w_X11_all {E : zE} {l0 : Int32} {S : zS} {Q : Int32 → zS → Prop} {X : String → zS → Prop} (h : p_X11_all E l0 S Q X) : zM E yX11_all cX11_all 1 (some .int) ({ frames := 0, cells := 0, slots := 0, locals := 0 } : Room) [.int l0] S (qI Q) X := by
  unfold p_X11_all at h
  refine zM_of RX11 false (by decide) rfl (fun h => by cases h) (Nat.le_of_ble_eq_true rfl) ?_
  refine z_iload_n 0 dX11_all_0 rfl rfl ?_
  refine z_iconst (v := 4) dX11_all_1 rfl ?_
  refine z_icmp_ne 10 dX11_all_2 (by decide) (fun c2 => ?_) (fun c2 => ?_)
  · have h := h.1 c2
    refine z_iload_n 0 dX11_all_10 rfl rfl ?_
    refine z_iconst (v := 5) dX11_all_11 rfl ?_
    refine z_icmp_ne 20 dX11_all_12 (by decide) (fun c1 => ?_) (fun c1 => ?_)
    · have h := h.1 c1
      refine z_sipush (v := 720) dX11_all_20 rfl ?_
      exact z_ireturn ⟨rfl, _, rfl, h⟩ rfl (Nat.le_of_ble_eq_true rfl) (Nat.le_of_ble_eq_true rfl) dX11_all_23
    · have h := h.2 c1
      refine z_bipush (v := 120) dX11_all_15 rfl ?_
      refine z_goto 23 dX11_all_17 (by decide) ?_
      exact z_ireturn ⟨rfl, _, rfl, h⟩ rfl (Nat.le_of_ble_eq_true rfl) (Nat.le_of_ble_eq_true rfl) dX11_all_23
  · have h := h.2 c2
    refine z_bipush (v := 24) dX11_all_5 rfl ?_
    refine z_goto 23 dX11_all_7 (by decide) ?_
    exact z_ireturn ⟨rfl, _, rfl, h⟩ rfl (Nat.le_of_ble_eq_true rfl) (Nat.le_of_ble_eq_true rfl) dX11_all_23
set_option maxRecDepth 20000 in
set_option maxHeartbeats 4000000 in
theorem w_X11_rowOf_L7 {E : zE} {K38 : Nat → Int32 → zS → Prop} {Q : Int32 → zS → Prop} {X : String → zS → Prop} (hK38 : ∀ (a0 : Nat) (l2 : Int32) (S : zS), K38 a0 l2 S → zJ E (RX11, cX11_rowOf, 9, (some .int), false, [], zTr) ({ frames := 0, cells := 0, slots := 0, locals := 0 } : Room) (zq (qI Q)) (zx X) 38 [(0, .ref a0), (2, .int l2)] [] [] S 0 0) : ∀ (m7 : Nat) (a0 : Nat) (l2 : Int32) (l3 : Int32) (l4 : Int32) (S : zS), p_X11_rowOf_L7 E K38 Q X m7 a0 l2 l3 l4 S → zJ E (RX11, cX11_rowOf, 9, (some .int), false, [], zTr) ({ frames := 0, cells := 0, slots := 0, locals := 0 } : Room) (zq (qI Q)) (zx X) 7 [(0, .ref a0), (2, .int l2), (3, .int l3), (4, .int l4)] [] [] S 0 0 := by
  intro m7
  induction m7 with
  | zero => intro a0 l2 l3 l4 S h; exact (show False from h).elim
  | succ m7 ih =>
    intro a0 l2 l3 l4 S h
    unfold p_X11_rowOf_L7 at h
    refine z_iload 3 dX11_rowOf_7 rfl ?_
    refine z_if_lt 38 dX11_rowOf_9 (by decide) (fun c12 => ?_) (fun c12 => ?_)
    · have h := h.1 c12
      refine z_sub [0, 1] rfl ?_
      exact hK38 a0 l2 S h
    · have h := h.2 c12
      refine z_aload_n 0 dX11_rowOf_12 rfl rfl ?_
      obtain ⟨hf1, h⟩ := h
      refine z_getQ (c := 11) (j := 16) (f := 1116) hf1.1 hf1.2 (Nat.le_of_ble_eq_true rfl) rfl zU_X11 (Nat.le_of_ble_eq_true rfl) (Nat.le_of_ble_eq_true rfl) ⟨_, zw_1314, Or.inl rfl⟩ rfl rfl dX11_rowOf_13 ?_
      refine z_iload 3 dX11_rowOf_16 rfl ?_
      refine z_iload_n 2 dX11_rowOf_18 rfl rfl ?_
      refine z_iload_n 1 dX11_rowOf_19 rfl rfl ?_
      refine z_iload 3 dX11_rowOf_20 rfl ?_
      refine z_isub dX11_rowOf_22 ?_
      obtain ⟨hy11, h⟩ := h
      refine z_irem dX11_rowOf_23 hy11 ?_
      obtain ⟨b2, hb3, h⟩ := h
      rw [show va_rf (gR S 1116 a0) = Value.ref b2 from by rw [hb3]; rfl]
      obtain ⟨hf4, h⟩ := h
      obtain ⟨j5, hj6, h⟩ := h
      have h := h _ rfl
      refine z_iast (j := j5) hf4.1 hf4.2 hj6.1 hj6.2.1 hj6.2.2 dX11_rowOf_24 ?_
      obtain ⟨S7, hS8⟩ : ∃ z, z = sA S b2 j5 (l3 - l3 / (l2 - l4) * (l2 - l4)) := ⟨_, rfl⟩
      rw [← hS8] at h ⊢
      have hf1 : a0 ∈ gL S7 ∧ gK S7 a0 = 11 := by rw [hS8]; exact hf1
      have hf4 : b2 ∈ gL S7 ∧ gK S7 b2 = 12 := by rw [hS8]; exact hf4
      refine z_iload_n 2 dX11_rowOf_25 rfl rfl ?_
      refine z_iload_n 1 dX11_rowOf_26 rfl rfl ?_
      refine z_iload 3 dX11_rowOf_27 rfl ?_
      refine z_isub dX11_rowOf_29 ?_
      obtain ⟨hy9, h⟩ := h
      refine z_idiv dX11_rowOf_30 hy9 ?_
      refine z_istore_n (lv' := [(3, .int (l3 / (l2 - l4))), (0, .ref a0), (2, .int l2), (4, .int l4)]) dX11_rowOf_31 rfl (Nat.le_of_ble_eq_true rfl) rfl ?_
      refine z_iinc (v := (l4 + (-1))) (lv' := [(4, .int (l4 + (-1))), (3, .int (l3 / (l2 - l4))), (0, .ref a0), (2, .int l2)]) 3 dX11_rowOf_32 rfl rfl (Nat.le_of_ble_eq_true rfl) rfl ?_
      refine z_goto 7 dX11_rowOf_35 (by decide) ?_
      refine z_sub [2, 3, 1, 0] rfl ?_
      exact ih a0 l2 (l3 / (l2 - l4)) (l4 + (-1)) S7 h
set_option maxRecDepth 20000 in
set_option maxHeartbeats 4000000 in
theorem w_X11_rowOf_J81 {E : zE} {B65 : Nat → Int32 → Int32 → Int32 → Int32 → Int32 → Int32 → zS → Prop} {Q : Int32 → zS → Prop} {X : String → zS → Prop} (hB65 : ∀ (a0 : Nat) (l2 : Int32) (l4 : Int32) (l5 : Int32) (l6 : Int32) (l7 : Int32) (l8 : Int32) (S : zS), B65 a0 l2 l4 l5 l6 l7 l8 S → zJ E (RX11, cX11_rowOf, 9, (some .int), false, [], zTr) ({ frames := 0, cells := 0, slots := 0, locals := 0 } : Room) (zq (qI Q)) (zx X) 65 [(0, .ref a0), (2, .int l2), (4, .int l4), (5, .int l5), (6, .int l6), (7, .int l7), (8, .int l8)] [] [] S 0 0) (a0 : Nat) (l2 : Int32) (l4 : Int32) (l5 : Int32) (l6 : Int32) (l7 : Int32) (l8 : Int32) (S : zS) (h : p_X11_rowOf_J81 E B65 Q X a0 l2 l4 l5 l6 l7 l8 S) : zJ E (RX11, cX11_rowOf, 9, (some .int), false, [], zTr) ({ frames := 0, cells := 0, slots := 0, locals := 0 } : Room) (zq (qI Q)) (zx X) 81 [(0, .ref a0), (2, .int l2), (4, .int l4), (5, .int l5), (6, .int l6), (7, .int l7), (8, .int l8)] [] [] S 0 0 := by
  unfold p_X11_rowOf_J81 at h
  refine z_iload 6 dX11_rowOf_81 rfl ?_
  refine z_iload 3 dX11_rowOf_83 rfl ?_
  refine z_iload 5 dX11_rowOf_85 rfl ?_
  refine z_ishr dX11_rowOf_87 ?_
  refine z_iconst (v := 1) dX11_rowOf_88 rfl ?_
  refine z_iand dX11_rowOf_89 ?_
  refine z_iconst (v := 1) dX11_rowOf_90 rfl ?_
  refine z_icmp_ne 98 dX11_rowOf_91 (by decide) (fun c19 => ?_) (fun c19 => ?_)
  · have h := h.1 c19
    refine z_iconst (v := 1) dX11_rowOf_98 rfl ?_
    refine z_isub dX11_rowOf_99 ?_
    refine z_istore (lv' := [(8, .int (l8 - 1)), (0, .ref a0), (2, .int l2), (4, .int l4), (5, .int l5), (6, .int l6), (7, .int l7)]) dX11_rowOf_100 (Nat.le_of_ble_eq_true rfl) rfl ?_
    refine z_iinc (v := (l7 + 1)) (lv' := [(7, .int (l7 + 1)), (8, .int (l8 - 1)), (0, .ref a0), (2, .int l2), (4, .int l4), (5, .int l5), (6, .int l6)]) 6 dX11_rowOf_102 rfl rfl (Nat.le_of_ble_eq_true rfl) rfl ?_
    refine z_goto 65 dX11_rowOf_105 (by decide) ?_
    refine z_sub [2, 3, 4, 5, 6, 0, 1] rfl ?_
    exact hB65 a0 l2 l4 l5 l6 (l7 + 1) (l8 - 1) S h
  · have h := h.2 c19
    refine z_iconst (v := 0) dX11_rowOf_94 rfl ?_
    refine z_goto 99 dX11_rowOf_95 (by decide) ?_
    refine z_isub dX11_rowOf_99 ?_
    refine z_istore (lv' := [(8, .int (l8 - 0)), (0, .ref a0), (2, .int l2), (4, .int l4), (5, .int l5), (6, .int l6), (7, .int l7)]) dX11_rowOf_100 (Nat.le_of_ble_eq_true rfl) rfl ?_
    refine z_iinc (v := (l7 + 1)) (lv' := [(7, .int (l7 + 1)), (8, .int (l8 - 0)), (0, .ref a0), (2, .int l2), (4, .int l4), (5, .int l5), (6, .int l6)]) 6 dX11_rowOf_102 rfl rfl (Nat.le_of_ble_eq_true rfl) rfl ?_
    refine z_goto 65 dX11_rowOf_105 (by decide) ?_
    refine z_sub [2, 3, 4, 5, 6, 0, 1] rfl ?_
    exact hB65 a0 l2 l4 l5 l6 (l7 + 1) (l8 - 0) S h
set_option maxRecDepth 20000 in
set_option maxHeartbeats 4000000 in
theorem w_X11_rowOf_L65 {E : zE} {K108 : Nat → Int32 → Int32 → Int32 → Int32 → Int32 → zS → Prop} {Q : Int32 → zS → Prop} {X : String → zS → Prop} (hK108 : ∀ (a0 : Nat) (l2 : Int32) (l4 : Int32) (l5 : Int32) (l6 : Int32) (l7 : Int32) (S : zS), K108 a0 l2 l4 l5 l6 l7 S → zJ E (RX11, cX11_rowOf, 9, (some .int), false, [], zTr) ({ frames := 0, cells := 0, slots := 0, locals := 0 } : Room) (zq (qI Q)) (zx X) 108 [(0, .ref a0), (2, .int l2), (4, .int l4), (5, .int l5), (6, .int l6), (7, .int l7)] [] [] S 0 0) : ∀ (m65 : Nat) (a0 : Nat) (l2 : Int32) (l4 : Int32) (l5 : Int32) (l6 : Int32) (l7 : Int32) (l8 : Int32) (S : zS), p_X11_rowOf_L65 E K108 Q X m65 a0 l2 l4 l5 l6 l7 l8 S → zJ E (RX11, cX11_rowOf, 9, (some .int), false, [], zTr) ({ frames := 0, cells := 0, slots := 0, locals := 0 } : Room) (zq (qI Q)) (zx X) 65 [(0, .ref a0), (2, .int l2), (4, .int l4), (5, .int l5), (6, .int l6), (7, .int l7), (8, .int l8)] [] [] S 0 0 := by
  intro m65
  induction m65 with
  | zero => intro a0 l2 l4 l5 l6 l7 l8 S h; exact (show False from h).elim
  | succ m65 ih =>
    intro a0 l2 l4 l5 l6 l7 l8 S h
    unfold p_X11_rowOf_L65 at h
    refine z_iload 6 dX11_rowOf_65 rfl ?_
    refine z_if_gt 81 dX11_rowOf_67 (by decide) (fun c21 => ?_) (fun c21 => ?_)
    · have h := h.1 c21
      refine w_X11_rowOf_J81 (fun a0 l2 l4 l5 l6 l7 l8 S h => ?_) a0 l2 l4 l5 l6 l7 l8 S h
      exact ih a0 l2 l4 l5 l6 l7 l8 S h
    · have h := h.2 c21
      refine z_iload 3 dX11_rowOf_70 rfl ?_
      refine z_iload 5 dX11_rowOf_72 rfl ?_
      refine z_ishr dX11_rowOf_74 ?_
      refine z_iconst (v := 1) dX11_rowOf_75 rfl ?_
      refine z_iand dX11_rowOf_76 ?_
      refine z_iconst (v := 1) dX11_rowOf_77 rfl ?_
      refine z_icmp_ne 108 dX11_rowOf_78 (by decide) (fun c20 => ?_) (fun c20 => ?_)
      · have h := h.1 c20
        refine z_sub [0, 1, 2, 3, 4, 5] rfl ?_
        exact hK108 a0 l2 l4 l5 l6 l7 S h
      · have h := h.2 c20
        refine w_X11_rowOf_J81 (fun a0 l2 l4 l5 l6 l7 l8 S h => ?_) a0 l2 l4 l5 l6 l7 l8 S h
        exact ih a0 l2 l4 l5 l6 l7 l8 S h
set_option maxRecDepth 20000 in
set_option maxHeartbeats 4000000 in
theorem w_X11_rowOf_L47 {E : zE} {K135 : Int32 → zS → Prop} {Q : Int32 → zS → Prop} {X : String → zS → Prop} (hK135 : ∀ (l4 : Int32) (S : zS), K135 l4 S → zJ E (RX11, cX11_rowOf, 9, (some .int), false, [], zTr) ({ frames := 0, cells := 0, slots := 0, locals := 0 } : Room) (zq (qI Q)) (zx X) 135 [(4, .int l4)] [] [] S 0 0) : ∀ (m47 : Nat) (a0 : Nat) (l2 : Int32) (l4 : Int32) (l5 : Int32) (l6 : Int32) (S : zS), p_X11_rowOf_L47 E K135 Q X m47 a0 l2 l4 l5 l6 S → zJ E (RX11, cX11_rowOf, 9, (some .int), false, [], zTr) ({ frames := 0, cells := 0, slots := 0, locals := 0 } : Room) (zq (qI Q)) (zx X) 47 [(0, .ref a0), (2, .int l2), (4, .int l4), (5, .int l5), (6, .int l6)] [] [] S 0 0 := by
  intro m47
  induction m47 with
  | zero => intro a0 l2 l4 l5 l6 S h; exact (show False from h).elim
  | succ m47 ih =>
    intro a0 l2 l4 l5 l6 S h
    unfold p_X11_rowOf_L47 at h
    refine z_iload 4 dX11_rowOf_47 rfl ?_
    refine z_iload_n 1 dX11_rowOf_49 rfl rfl ?_
    refine z_icmp_ge 135 dX11_rowOf_50 (by decide) (fun c22 => ?_) (fun c22 => ?_)
    · have h := h.1 c22
      refine z_sub [2] rfl ?_
      exact hK135 l4 S h
    · have h := h.2 c22
      refine z_iconst (v := 0) dX11_rowOf_53 rfl ?_
      refine z_istore (lv' := [(7, .int 0), (0, .ref a0), (2, .int l2), (4, .int l4), (5, .int l5), (6, .int l6)]) dX11_rowOf_54 (Nat.le_of_ble_eq_true rfl) rfl ?_
      refine z_aload_n 1 dX11_rowOf_56 rfl rfl ?_
      obtain ⟨hf13, h⟩ := h
      refine z_getQ (c := 11) (j := 16) (f := 1116) hf13.1 hf13.2 (Nat.le_of_ble_eq_true rfl) rfl zU_X11 (Nat.le_of_ble_eq_true rfl) (Nat.le_of_ble_eq_true rfl) ⟨_, zw_1314, Or.inl rfl⟩ rfl rfl dX11_rowOf_57 ?_
      refine z_iload 5 dX11_rowOf_60 rfl ?_
      obtain ⟨b14, hb15, h⟩ := h
      rw [show va_rf (gR S 1116 a0) = Value.ref b14 from by rw [hb15]; rfl]
      obtain ⟨hf16, h⟩ := h
      obtain ⟨j17, hj18, h⟩ := h
      refine z_iald (j := j17) hf16.1 hf16.2 hj18.1 hj18.2.1 hj18.2.2 dX11_rowOf_62 ?_
      refine z_istore (lv' := [(8, .int (gA S b14 j17)), (7, .int 0), (0, .ref a0), (2, .int l2), (4, .int l4), (5, .int l5), (6, .int l6)]) dX11_rowOf_63 (Nat.le_of_ble_eq_true rfl) rfl ?_
      obtain ⟨m65, h⟩ := h
      refine z_sub [2, 3, 4, 5, 6, 1, 0] rfl ?_
      refine w_X11_rowOf_L65 (fun a0 l2 l4 l5 l6 l7 S h => ?_) m65 a0 l2 l4 l5 l6 0 (gA S b14 j17) S h
      refine z_iload 3 dX11_rowOf_108 rfl ?_
      refine z_iconst (v := 1) dX11_rowOf_110 rfl ?_
      refine z_iload 5 dX11_rowOf_111 rfl ?_
      refine z_ishl dX11_rowOf_113 ?_
      refine z_ior dX11_rowOf_114 ?_
      refine z_istore (lv' := [(5, .int (l5 ||| (1 <<< (l7 &&& 31)))), (0, .ref a0), (2, .int l2), (4, .int l4), (6, .int l6), (7, .int l7)]) dX11_rowOf_115 (Nat.le_of_ble_eq_true rfl) rfl ?_
      refine z_iload 3 dX11_rowOf_117 rfl ?_
      refine z_iload 5 dX11_rowOf_119 rfl ?_
      refine z_iconst (v := 3) dX11_rowOf_121 rfl ?_
      refine z_iload 4 dX11_rowOf_122 rfl ?_
      refine z_imul dX11_rowOf_124 ?_
      refine z_ishl dX11_rowOf_125 ?_
      refine z_ior dX11_rowOf_126 ?_
      refine z_istore (lv' := [(4, .int (l4 ||| (l7 <<< ((3 * l6) &&& 31)))), (5, .int (l5 ||| (1 <<< (l7 &&& 31)))), (0, .ref a0), (2, .int l2), (6, .int l6), (7, .int l7)]) dX11_rowOf_127 (Nat.le_of_ble_eq_true rfl) rfl ?_
      refine z_iinc (v := (l6 + 1)) (lv' := [(6, .int (l6 + 1)), (4, .int (l4 ||| (l7 <<< ((3 * l6) &&& 31)))), (5, .int (l5 ||| (1 <<< (l7 &&& 31)))), (0, .ref a0), (2, .int l2), (7, .int l7)]) 4 dX11_rowOf_129 rfl rfl (Nat.le_of_ble_eq_true rfl) rfl ?_
      refine z_goto 47 dX11_rowOf_132 (by decide) ?_
      refine z_sub [3, 4, 1, 2, 0] rfl ?_
      exact ih a0 l2 (l4 ||| (l7 <<< ((3 * l6) &&& 31))) (l5 ||| (1 <<< (l7 &&& 31))) (l6 + 1) S h
set_option maxRecDepth 20000 in
set_option maxHeartbeats 4000000 in
theorem w_X11_rowOf {E : zE} {a0 : Nat} {l1 : Int32} {l2 : Int32} {S : zS} {Q : Int32 → zS → Prop} {X : String → zS → Prop} (h : p_X11_rowOf E a0 l1 l2 S Q X) : zM E yX11_rowOf cX11_rowOf 9 (some .int) ({ frames := 0, cells := 0, slots := 0, locals := 0 } : Room) [.ref a0, .int l1, .int l2] S (qI Q) X := by
  unfold p_X11_rowOf at h
  refine zM_of RX11 false (by decide) rfl (fun h => by cases h) (Nat.le_of_ble_eq_true rfl) ?_
  refine z_iload_n 1 dX11_rowOf_0 rfl rfl ?_
  refine z_istore_n (lv' := [(3, .int l1), (0, .ref a0), (1, .int l1), (2, .int l2)]) dX11_rowOf_1 rfl (Nat.le_of_ble_eq_true rfl) rfl ?_
  refine z_iload_n 3 dX11_rowOf_2 rfl rfl ?_
  refine z_iconst (v := 1) dX11_rowOf_3 rfl ?_
  refine z_isub dX11_rowOf_4 ?_
  refine z_istore (lv' := [(4, .int (l2 - 1)), (3, .int l1), (0, .ref a0), (1, .int l1), (2, .int l2)]) dX11_rowOf_5 (Nat.le_of_ble_eq_true rfl) rfl ?_
  obtain ⟨m7, h⟩ := h
  refine z_sub [2, 4, 1, 0] rfl ?_
  refine w_X11_rowOf_L7 (fun a0 l2 S h => ?_) m7 a0 l2 l1 (l2 - 1) S h
  refine z_iconst (v := 0) dX11_rowOf_38 rfl ?_
  refine z_istore (lv' := [(4, .int 0), (0, .ref a0), (2, .int l2)]) dX11_rowOf_39 (Nat.le_of_ble_eq_true rfl) rfl ?_
  refine z_iconst (v := 0) dX11_rowOf_41 rfl ?_
  refine z_istore (lv' := [(5, .int 0), (4, .int 0), (0, .ref a0), (2, .int l2)]) dX11_rowOf_42 (Nat.le_of_ble_eq_true rfl) rfl ?_
  refine z_iconst (v := 0) dX11_rowOf_44 rfl ?_
  refine z_istore (lv' := [(6, .int 0), (5, .int 0), (4, .int 0), (0, .ref a0), (2, .int l2)]) dX11_rowOf_45 (Nat.le_of_ble_eq_true rfl) rfl ?_
  obtain ⟨m47, h⟩ := h
  refine z_sub [3, 4, 2, 1, 0] rfl ?_
  refine w_X11_rowOf_L47 (fun l4 S h => ?_) m47 a0 l2 0 0 0 S h
  refine z_iload 0 dX11_rowOf_135 rfl ?_
  exact z_ireturn ⟨rfl, _, rfl, h⟩ rfl (Nat.le_of_ble_eq_true rfl) (Nat.le_of_ble_eq_true rfl) dX11_rowOf_137
set_option maxRecDepth 20000 in
set_option maxHeartbeats 4000000 in
theorem w_X11_change_J29 {E : zE}  {Q : Int32 → zS → Prop} {X : String → zS → Prop}  (a0 : Nat) (l1 : Int32) (l100 : Int32) (a101 : Nat) (S : zS) (h : p_X11_change_J29 E  Q X a0 l1 l100 a101 S) : zJ E (RX11, cX11_change, 2, (some .int), false, [], zTr) ({ frames := 1, cells := 0, slots := 0, locals := 22 } : Room) (zq (qI Q)) (zx X) 29 [(0, .ref a0), (1, .int l1)] [.int l100, .ref a101] [] S 0 0 := by
  unfold p_X11_change_J29 at h
  obtain ⟨hf4, h⟩ := h
  have h := h _ rfl
  refine z_putV (c := 11) (j := 0) (ty0 := tyX11) (S' := sI S 1100 a101 l100) hf4.1 hf4.2 (Nat.le_of_ble_eq_true rfl) rfl zU_X11 tyX11_ok nmX11 (Nat.le_of_ble_eq_true rfl) (Nat.le_of_ble_eq_true rfl) ⟨_, zw_1298, Or.inl rfl⟩ (.inl rfl) rfl rfl rfl (zUpI (v := l100) hf4.2 (Nat.le_of_ble_eq_true rfl) (Nat.le_of_ble_eq_true rfl) rfl rfl) dX11_change_29 ?_
  obtain ⟨S5, hS6⟩ : ∃ z, z = sI S 1100 a101 l100 := ⟨_, rfl⟩
  rw [← hS6] at h ⊢
  have hf4 : a101 ∈ gL S5 ∧ gK S5 a101 = 11 := by rw [hS6]; exact hf4
  refine z_aload_n 0 dX11_change_32 rfl rfl ?_
  obtain ⟨hf7, h⟩ := h
  refine z_getI (c := 11) (j := 0) (f := 1100) hf7.1 hf7.2 (Nat.le_of_ble_eq_true rfl) rfl zU_X11 (Nat.le_of_ble_eq_true rfl) (Nat.le_of_ble_eq_true rfl) ⟨_, zw_1298, Or.inl rfl⟩ rfl rfl dX11_change_33 ?_
  refine z_if_le 41 dX11_change_36 (by decide) (fun c18 => ?_) (fun c18 => ?_)
  · have h := h.1 c18
    refine z_aload_n 0 dX11_change_41 rfl rfl ?_
    refine z_getQ (c := 11) (j := 2) (f := 1102) hf7.1 hf7.2 (Nat.le_of_ble_eq_true rfl) rfl zU_X11 (Nat.le_of_ble_eq_true rfl) (Nat.le_of_ble_eq_true rfl) ⟨_, zw_1300, Or.inl rfl⟩ rfl rfl dX11_change_42 ?_
    refine z_aload_n 0 dX11_change_45 rfl rfl ?_
    refine z_getI (c := 11) (j := 1) (f := 1101) hf7.1 hf7.2 (Nat.le_of_ble_eq_true rfl) rfl zU_X11 (Nat.le_of_ble_eq_true rfl) (Nat.le_of_ble_eq_true rfl) ⟨_, zw_1299, Or.inl rfl⟩ rfl rfl dX11_change_46 ?_
    refine z_iload_n 1 dX11_change_49 rfl rfl ?_
    obtain ⟨b8, hb9, h⟩ := h
    rw [show va_rf (gR S5 1102 a0) = Value.ref b8 from by rw [hb9]; rfl]
    obtain ⟨hf10, h⟩ := h
    obtain ⟨j11, hj12, h⟩ := h
    have h := h _ rfl
    refine z_iast (j := j11) hf10.1 hf10.2 hj12.1 hj12.2.1 hj12.2.2 dX11_change_50 ?_
    obtain ⟨S13, hS14⟩ : ∃ z, z = sA S5 b8 j11 l1 := ⟨_, rfl⟩
    rw [← hS14] at h ⊢
    have hf7 : a0 ∈ gL S13 ∧ gK S13 a0 = 11 := by rw [hS14]; exact hf7
    have hf4 : a101 ∈ gL S13 ∧ gK S13 a101 = 11 := by rw [hS14]; exact hf4
    have hf10 : b8 ∈ gL S13 ∧ gK S13 b8 = 12 := by rw [hS14]; exact hf10
    refine z_aload_n 0 dX11_change_51 rfl rfl ?_
    refine z_dup dX11_change_52 rfl ?_
    refine z_getI (c := 11) (j := 1) (f := 1101) hf7.1 hf7.2 (Nat.le_of_ble_eq_true rfl) rfl zU_X11 (Nat.le_of_ble_eq_true rfl) (Nat.le_of_ble_eq_true rfl) ⟨_, zw_1299, Or.inl rfl⟩ rfl rfl dX11_change_53 ?_
    refine z_iconst (v := 1) dX11_change_56 rfl ?_
    refine z_iadd dX11_change_57 ?_
    have h := h _ rfl
    refine z_putV (c := 11) (j := 1) (ty0 := tyX11) (S' := sI S13 1101 a0 ((gI S13 1101 a0) + 1)) hf7.1 hf7.2 (Nat.le_of_ble_eq_true rfl) rfl zU_X11 tyX11_ok nmX11 (Nat.le_of_ble_eq_true rfl) (Nat.le_of_ble_eq_true rfl) ⟨_, zw_1299, Or.inl rfl⟩ (.inl rfl) rfl rfl rfl (zUpI (v := ((gI S13 1101 a0) + 1)) hf7.2 (Nat.le_of_ble_eq_true rfl) (Nat.le_of_ble_eq_true rfl) rfl rfl) dX11_change_58 ?_
    obtain ⟨S15, hS16⟩ : ∃ z, z = sI S13 1101 a0 ((gI S13 1101 a0) + 1) := ⟨_, rfl⟩
    rw [← hS16] at h ⊢
    have hf7 : a0 ∈ gL S15 ∧ gK S15 a0 = 11 := by rw [hS16]; exact hf7
    have hf4 : a101 ∈ gL S15 ∧ gK S15 a101 = 11 := by rw [hS16]; exact hf4
    have hf10 : b8 ∈ gL S15 ∧ gK S15 b8 = 12 := by rw [hS16]; exact hf10
    refine z_aload_n 0 dX11_change_61 rfl rfl ?_
    refine z_getI (c := 11) (j := 1) (f := 1101) hf7.1 hf7.2 (Nat.le_of_ble_eq_true rfl) rfl zU_X11 (Nat.le_of_ble_eq_true rfl) (Nat.le_of_ble_eq_true rfl) ⟨_, zw_1299, Or.inl rfl⟩ rfl rfl dX11_change_62 ?_
    exact z_ireturn ⟨rfl, _, rfl, h⟩ rfl (Nat.le_of_ble_eq_true rfl) (Nat.le_of_ble_eq_true rfl) dX11_change_65
  · have h := h.2 c18
    refine z_iconst (v := 0) dX11_change_39 rfl ?_
    exact z_ireturn ⟨rfl, _, rfl, h⟩ rfl (Nat.le_of_ble_eq_true rfl) (Nat.le_of_ble_eq_true rfl) dX11_change_40
set_option maxRecDepth 20000 in
set_option maxHeartbeats 4000000 in
theorem w_X11_change {E : zE} {a0 : Nat} {l1 : Int32} {S : zS} {Q : Int32 → zS → Prop} {X : String → zS → Prop} (h : p_X11_change E a0 l1 S Q X) : zM E yX11_change cX11_change 2 (some .int) ({ frames := 1, cells := 0, slots := 0, locals := 22 } : Room) [.ref a0, .int l1] S (qI Q) X := by
  unfold p_X11_change at h
  refine zM_of RX11 false (by decide) rfl (fun h => by cases h) (Nat.le_of_ble_eq_true rfl) ?_
  refine z_aload_n 0 dX11_change_0 rfl rfl ?_
  refine z_iload_n 1 dX11_change_1 rfl rfl ?_
  refine z_iconst (v := 0) dX11_change_2 rfl ?_
  refine z_bipush (v := 63) dX11_change_3 rfl ?_
  refine z_callSI (st := [.ref a0]) (w_X11_in h) zw_1435 zw_1433 zw_1434 zw_74 zy_X11_in rfl rfl ⟨Nat.le_of_ble_eq_true rfl, Nat.le_of_ble_eq_true rfl⟩ ⟨(Nat.le_of_ble_eq_true rfl), (Nat.le_of_ble_eq_true rfl)⟩ (Nat.le_of_ble_eq_true rfl) dX11_change_5 (fun _ _ hx => hx.elim) (fun r2 S1 h => ?_)
  refine z_widen (k' := 0) (n' := 0) (Nat.le_refl _) (Nat.le_refl _) ?_
  refine z_if_ne 15 dX11_change_8 (by decide) (fun c20 => ?_) (fun c20 => ?_)
  · have h := h.1 c20
    refine z_aload_n 0 dX11_change_15 rfl rfl ?_
    obtain ⟨hf3, h⟩ := h
    refine z_getI (c := 11) (j := 1) (f := 1101) hf3.1 hf3.2 (Nat.le_of_ble_eq_true rfl) rfl zU_X11 (Nat.le_of_ble_eq_true rfl) (Nat.le_of_ble_eq_true rfl) ⟨_, zw_1299, Or.inl rfl⟩ rfl rfl dX11_change_16 ?_
    refine z_bipush (v := 12) dX11_change_19 rfl ?_
    refine z_icmp_ne 28 dX11_change_21 (by decide) (fun c19 => ?_) (fun c19 => ?_)
    · have h := h.1 c19
      refine z_iconst (v := 0) dX11_change_28 rfl ?_
      refine w_X11_change_J29 a0 l1 0 a0 S1 h
    · have h := h.2 c19
      refine z_iconst (v := 2) dX11_change_24 rfl ?_
      refine z_goto 29 dX11_change_25 (by decide) ?_
      refine w_X11_change_J29 a0 l1 2 a0 S1 h
  · have h := h.2 c20
    refine z_iconst (v := 1) dX11_change_11 rfl ?_
    refine z_goto 29 dX11_change_12 (by decide) ?_
    refine w_X11_change_J29 a0 l1 1 a0 S1 h
set_option maxRecDepth 20000 in
set_option maxHeartbeats 4000000 in
theorem w_X11_dropChanges {E : zE} {a0 : Nat} {S : zS} {Q : Int32 → zS → Prop} {X : String → zS → Prop} (h : p_X11_dropChanges E a0 S Q X) : zM E yX11_dropChanges cX11_dropChanges 2 (some .int) ({ frames := 0, cells := 0, slots := 0, locals := 0 } : Room) [.ref a0] S (qI Q) X := by
  unfold p_X11_dropChanges at h
  refine zM_of RX11 false (by decide) rfl (fun h => by cases h) (Nat.le_of_ble_eq_true rfl) ?_
  refine z_aload_n 0 dX11_dropChanges_0 rfl rfl ?_
  refine z_iconst (v := 0) dX11_dropChanges_1 rfl ?_
  obtain ⟨hf1, h⟩ := h
  have h := h _ rfl
  refine z_putV (c := 11) (j := 0) (ty0 := tyX11) (S' := sI S 1100 a0 0) hf1.1 hf1.2 (Nat.le_of_ble_eq_true rfl) rfl zU_X11 tyX11_ok nmX11 (Nat.le_of_ble_eq_true rfl) (Nat.le_of_ble_eq_true rfl) ⟨_, zw_1298, Or.inl rfl⟩ (.inl rfl) rfl rfl rfl (zUpI (v := 0) hf1.2 (Nat.le_of_ble_eq_true rfl) (Nat.le_of_ble_eq_true rfl) rfl rfl) dX11_dropChanges_2 ?_
  obtain ⟨S2, hS3⟩ : ∃ z, z = sI S 1100 a0 0 := ⟨_, rfl⟩
  rw [← hS3] at h ⊢
  have hf1 : a0 ∈ gL S2 ∧ gK S2 a0 = 11 := by rw [hS3]; exact hf1
  refine z_aload_n 0 dX11_dropChanges_5 rfl rfl ?_
  refine z_getI (c := 11) (j := 1) (f := 1101) hf1.1 hf1.2 (Nat.le_of_ble_eq_true rfl) rfl zU_X11 (Nat.le_of_ble_eq_true rfl) (Nat.le_of_ble_eq_true rfl) ⟨_, zw_1299, Or.inl rfl⟩ rfl rfl dX11_dropChanges_6 ?_
  refine z_istore_n (lv' := [(1, .int (gI S2 1101 a0)), (0, .ref a0)]) dX11_dropChanges_9 rfl (Nat.le_of_ble_eq_true rfl) rfl ?_
  refine z_aload_n 1 dX11_dropChanges_10 rfl rfl ?_
  refine z_iconst (v := 0) dX11_dropChanges_11 rfl ?_
  have h := h _ rfl
  refine z_putV (c := 11) (j := 1) (ty0 := tyX11) (S' := sI S2 1101 a0 0) hf1.1 hf1.2 (Nat.le_of_ble_eq_true rfl) rfl zU_X11 tyX11_ok nmX11 (Nat.le_of_ble_eq_true rfl) (Nat.le_of_ble_eq_true rfl) ⟨_, zw_1299, Or.inl rfl⟩ (.inl rfl) rfl rfl rfl (zUpI (v := 0) hf1.2 (Nat.le_of_ble_eq_true rfl) (Nat.le_of_ble_eq_true rfl) rfl rfl) dX11_dropChanges_12 ?_
  obtain ⟨S4, hS5⟩ : ∃ z, z = sI S2 1101 a0 0 := ⟨_, rfl⟩
  rw [← hS5] at h ⊢
  have hf1 : a0 ∈ gL S4 ∧ gK S4 a0 = 11 := by rw [hS5]; exact hf1
  refine z_iload_n 0 dX11_dropChanges_15 rfl rfl ?_
  exact z_ireturn ⟨rfl, _, rfl, h⟩ rfl (Nat.le_of_ble_eq_true rfl) (Nat.le_of_ble_eq_true rfl) dX11_dropChanges_16
set_option maxRecDepth 20000 in
set_option maxHeartbeats 4000000 in
theorem w_X11_method_L52 {E : zE} {K89 : Nat → Int32 → Int32 → zS → Prop} {Q : Int32 → zS → Prop} {X : String → zS → Prop} (hK89 : ∀ (a0 : Nat) (l1 : Int32) (l2 : Int32) (S : zS), K89 a0 l1 l2 S → zJ E (RX11, cX11_method, 4, (some .int), false, [], zTr) ({ frames := 2, cells := 0, slots := 0, locals := 47 } : Room) (zq (qI Q)) (zx X) 89 [(0, .ref a0), (1, .int l1), (2, .int l2)] [] [] S 0 0) : ∀ (m52 : Nat) (a0 : Nat) (l1 : Int32) (l2 : Int32) (l3 : Int32) (S : zS), p_X11_method_L52 E K89 Q X m52 a0 l1 l2 l3 S → zJ E (RX11, cX11_method, 4, (some .int), false, [], zTr) ({ frames := 2, cells := 0, slots := 0, locals := 47 } : Room) (zq (qI Q)) (zx X) 52 [(0, .ref a0), (1, .int l1), (2, .int l2), (3, .int l3)] [] [] S 0 0 := by
  intro m52
  induction m52 with
  | zero => intro a0 l1 l2 l3 S h; exact (show False from h).elim
  | succ m52 ih =>
    intro a0 l1 l2 l3 S h
    unfold p_X11_method_L52 at h
    refine z_iload_n 3 dX11_method_52 rfl rfl ?_
    refine z_aload_n 0 dX11_method_53 rfl rfl ?_
    obtain ⟨hf7, h⟩ := h
    refine z_getI (c := 11) (j := 1) (f := 1101) hf7.1 hf7.2 (Nat.le_of_ble_eq_true rfl) rfl zU_X11 (Nat.le_of_ble_eq_true rfl) (Nat.le_of_ble_eq_true rfl) ⟨_, zw_1299, Or.inl rfl⟩ rfl rfl dX11_method_54 ?_
    refine z_icmp_ge 89 dX11_method_57 (by decide) (fun c17 => ?_) (fun c17 => ?_)
    · have h := h.1 c17
      refine z_sub [0, 1, 2] rfl ?_
      exact hK89 a0 l1 l2 S h
    · have h := h.2 c17
      refine z_iload_n 2 dX11_method_60 rfl rfl ?_
      refine z_if_eq 81 dX11_method_61 (by decide) (fun c16 => ?_) (fun c16 => ?_)
      · have h := h.1 c16
        refine z_iconst (v := 0) dX11_method_81 rfl ?_
        refine z_istore_n (lv' := [(2, .int 0), (0, .ref a0), (1, .int l1), (3, .int l3)]) dX11_method_82 rfl (Nat.le_of_ble_eq_true rfl) rfl ?_
        refine z_iinc (v := (l3 + 1)) (lv' := [(3, .int (l3 + 1)), (2, .int 0), (0, .ref a0), (1, .int l1)]) 3 dX11_method_83 rfl rfl (Nat.le_of_ble_eq_true rfl) rfl ?_
        refine z_goto 52 dX11_method_86 (by decide) ?_
        refine z_sub [2, 3, 1, 0] rfl ?_
        exact ih a0 l1 0 (l3 + 1) S h
      · have h := h.2 c16
        refine z_iload_n 1 dX11_method_64 rfl rfl ?_
        refine z_aload_n 0 dX11_method_65 rfl rfl ?_
        refine z_getQ (c := 11) (j := 2) (f := 1102) hf7.1 hf7.2 (Nat.le_of_ble_eq_true rfl) rfl zU_X11 (Nat.le_of_ble_eq_true rfl) (Nat.le_of_ble_eq_true rfl) ⟨_, zw_1300, Or.inl rfl⟩ rfl rfl dX11_method_66 ?_
        refine z_iload_n 3 dX11_method_69 rfl rfl ?_
        obtain ⟨b8, hb9, h⟩ := h
        rw [show va_rf (gR S 1102 a0) = Value.ref b8 from by rw [hb9]; rfl]
        obtain ⟨hf10, h⟩ := h
        obtain ⟨j11, hj12, h⟩ := h
        refine z_iald (j := j11) hf10.1 hf10.2 hj12.1 hj12.2.1 hj12.2.2 dX11_method_70 ?_
        refine z_callSI (st := []) (w_X11_isChange h) zw_1446 zw_1444 zw_1445 zw_74 zy_X11_isChange rfl rfl ⟨Nat.le_of_ble_eq_true rfl, Nat.le_of_ble_eq_true rfl⟩ ⟨(Nat.le_of_ble_eq_true rfl), (Nat.le_of_ble_eq_true rfl)⟩ (Nat.le_of_ble_eq_true rfl) dX11_method_71 (fun _ _ hx => hx.elim) (fun r14 S13 h => ?_)
        refine z_widen (k' := 0) (n' := 0) (Nat.le_refl _) (Nat.le_refl _) ?_
        refine z_if_eq 81 dX11_method_74 (by decide) (fun c15 => ?_) (fun c15 => ?_)
        · have h := h.1 c15
          refine z_iconst (v := 0) dX11_method_81 rfl ?_
          refine z_istore_n (lv' := [(2, .int 0), (0, .ref a0), (1, .int l1), (3, .int l3)]) dX11_method_82 rfl (Nat.le_of_ble_eq_true rfl) rfl ?_
          refine z_iinc (v := (l3 + 1)) (lv' := [(3, .int (l3 + 1)), (2, .int 0), (0, .ref a0), (1, .int l1)]) 3 dX11_method_83 rfl rfl (Nat.le_of_ble_eq_true rfl) rfl ?_
          refine z_goto 52 dX11_method_86 (by decide) ?_
          refine z_sub [2, 3, 1, 0] rfl ?_
          exact ih a0 l1 0 (l3 + 1) S13 h
        · have h := h.2 c15
          refine z_iconst (v := 1) dX11_method_77 rfl ?_
          refine z_goto 82 dX11_method_78 (by decide) ?_
          refine z_istore_n (lv' := [(2, .int 1), (0, .ref a0), (1, .int l1), (3, .int l3)]) dX11_method_82 rfl (Nat.le_of_ble_eq_true rfl) rfl ?_
          refine z_iinc (v := (l3 + 1)) (lv' := [(3, .int (l3 + 1)), (2, .int 1), (0, .ref a0), (1, .int l1)]) 3 dX11_method_83 rfl rfl (Nat.le_of_ble_eq_true rfl) rfl ?_
          refine z_goto 52 dX11_method_86 (by decide) ?_
          refine z_sub [2, 3, 1, 0] rfl ?_
          exact ih a0 l1 1 (l3 + 1) S13 h
set_option maxRecDepth 20000 in
set_option maxHeartbeats 4000000 in
theorem w_X11_method_L125 {E : zE} {K159 : Nat → zS → Prop} {Q : Int32 → zS → Prop} {X : String → zS → Prop} (hK159 : ∀ (a0 : Nat) (S : zS), K159 a0 S → zJ E (RX11, cX11_method, 4, (some .int), false, [], zTr) ({ frames := 2, cells := 0, slots := 0, locals := 47 } : Room) (zq (qI Q)) (zx X) 159 [(0, .ref a0)] [] [] S 0 0) : ∀ (m125 : Nat) (a0 : Nat) (l3 : Int32) (S : zS), p_X11_method_L125 E K159 Q X m125 a0 l3 S → zJ E (RX11, cX11_method, 4, (some .int), false, [], zTr) ({ frames := 2, cells := 0, slots := 0, locals := 47 } : Room) (zq (qI Q)) (zx X) 125 [(0, .ref a0), (3, .int l3)] [] [] S 0 0 := by
  intro m125
  induction m125 with
  | zero => intro a0 l3 S h; exact (show False from h).elim
  | succ m125 ih =>
    intro a0 l3 S h
    unfold p_X11_method_L125 at h
    refine z_iload_n 1 dX11_method_125 rfl rfl ?_
    refine z_aload_n 0 dX11_method_126 rfl rfl ?_
    obtain ⟨hf33, h⟩ := h
    refine z_getI (c := 11) (j := 1) (f := 1101) hf33.1 hf33.2 (Nat.le_of_ble_eq_true rfl) rfl zU_X11 (Nat.le_of_ble_eq_true rfl) (Nat.le_of_ble_eq_true rfl) ⟨_, zw_1299, Or.inl rfl⟩ rfl rfl dX11_method_127 ?_
    refine z_icmp_ge 159 dX11_method_130 (by decide) (fun c47 => ?_) (fun c47 => ?_)
    · have h := h.1 c47
      refine z_sub [0] rfl ?_
      exact hK159 a0 S h
    · have h := h.2 c47
      refine z_aload_n 0 dX11_method_133 rfl rfl ?_
      refine z_getQ (c := 11) (j := 6) (f := 1106) hf33.1 hf33.2 (Nat.le_of_ble_eq_true rfl) rfl zU_X11 (Nat.le_of_ble_eq_true rfl) (Nat.le_of_ble_eq_true rfl) ⟨_, zw_1304, Or.inl rfl⟩ rfl rfl dX11_method_134 ?_
      refine z_bipush (v := 12) dX11_method_137 rfl ?_
      refine z_aload_n 0 dX11_method_139 rfl rfl ?_
      refine z_getI (c := 11) (j := 3) (f := 1103) hf33.1 hf33.2 (Nat.le_of_ble_eq_true rfl) rfl zU_X11 (Nat.le_of_ble_eq_true rfl) (Nat.le_of_ble_eq_true rfl) ⟨_, zw_1301, Or.inl rfl⟩ rfl rfl dX11_method_140 ?_
      refine z_imul dX11_method_143 ?_
      refine z_iload_n 1 dX11_method_144 rfl rfl ?_
      refine z_iadd dX11_method_145 ?_
      refine z_aload_n 0 dX11_method_146 rfl rfl ?_
      refine z_getQ (c := 11) (j := 2) (f := 1102) hf33.1 hf33.2 (Nat.le_of_ble_eq_true rfl) rfl zU_X11 (Nat.le_of_ble_eq_true rfl) (Nat.le_of_ble_eq_true rfl) ⟨_, zw_1300, Or.inl rfl⟩ rfl rfl dX11_method_147 ?_
      refine z_iload_n 1 dX11_method_150 rfl rfl ?_
      obtain ⟨b34, hb35, h⟩ := h
      rw [show va_rf (gR S 1102 a0) = Value.ref b34 from by rw [hb35]; rfl]
      obtain ⟨hf36, h⟩ := h
      obtain ⟨j37, hj38, h⟩ := h
      refine z_iald (j := j37) hf36.1 hf36.2 hj38.1 hj38.2.1 hj38.2.2 dX11_method_151 ?_
      obtain ⟨b39, hb40, h⟩ := h
      rw [show va_rf (gR S 1106 a0) = Value.ref b39 from by rw [hb40]; rfl]
      obtain ⟨hf41, h⟩ := h
      obtain ⟨j42, hj43, h⟩ := h
      have h := h _ rfl
      refine z_iast (j := j42) hf41.1 hf41.2 hj43.1 hj43.2.1 hj43.2.2 dX11_method_152 ?_
      obtain ⟨S44, hS45⟩ : ∃ z, z = sA S b39 j42 (gA S b34 j37) := ⟨_, rfl⟩
      rw [← hS45] at h ⊢
      have hf33 : a0 ∈ gL S44 ∧ gK S44 a0 = 11 := by rw [hS45]; exact hf33
      have hf36 : b34 ∈ gL S44 ∧ gK S44 b34 = 12 := by rw [hS45]; exact hf36
      have hf41 : b39 ∈ gL S44 ∧ gK S44 b39 = 12 := by rw [hS45]; exact hf41
      refine z_iinc (v := (l3 + 1)) (lv' := [(3, .int (l3 + 1)), (0, .ref a0)]) 1 dX11_method_153 rfl rfl (Nat.le_of_ble_eq_true rfl) rfl ?_
      refine z_goto 125 dX11_method_156 (by decide) ?_
      refine z_sub [1, 0] rfl ?_
      exact ih a0 (l3 + 1) S44 h
set_option maxRecDepth 20000 in
set_option maxHeartbeats 4000000 in
theorem w_X11_method_J49 {E : zE}  {Q : Int32 → zS → Prop} {X : String → zS → Prop}  (a0 : Nat) (l1 : Int32) (l100 : Int32) (S : zS) (h : p_X11_method_J49 E  Q X a0 l1 l100 S) : zJ E (RX11, cX11_method, 4, (some .int), false, [], zTr) ({ frames := 2, cells := 0, slots := 0, locals := 47 } : Room) (zq (qI Q)) (zx X) 49 [(0, .ref a0), (1, .int l1)] [.int l100] [] S 0 0 := by
  unfold p_X11_method_J49 at h
  refine z_istore_n (lv' := [(2, .int l100), (0, .ref a0), (1, .int l1)]) dX11_method_49 rfl (Nat.le_of_ble_eq_true rfl) rfl ?_
  refine z_iconst (v := 0) dX11_method_50 rfl ?_
  refine z_istore_n (lv' := [(3, .int 0), (2, .int l100), (0, .ref a0), (1, .int l1)]) dX11_method_51 rfl (Nat.le_of_ble_eq_true rfl) rfl ?_
  obtain ⟨m52, h⟩ := h
  refine z_sub [2, 3, 1, 0] rfl ?_
  refine w_X11_method_L52 (fun a0 l1 l2 S h => ?_) m52 a0 l1 l100 0 S h
  refine z_iload_n 2 dX11_method_89 rfl rfl ?_
  refine z_if_ne 100 dX11_method_90 (by decide) (fun c84 => ?_) (fun c84 => ?_)
  · have h := h.1 c84
    refine z_aload_n 0 dX11_method_100 rfl rfl ?_
    obtain ⟨hf18, h⟩ := h
    refine z_getQ (c := 11) (j := 4) (f := 1104) hf18.1 hf18.2 (Nat.le_of_ble_eq_true rfl) rfl zU_X11 (Nat.le_of_ble_eq_true rfl) (Nat.le_of_ble_eq_true rfl) ⟨_, zw_1302, Or.inl rfl⟩ rfl rfl dX11_method_101 ?_
    refine z_aload_n 0 dX11_method_104 rfl rfl ?_
    refine z_getI (c := 11) (j := 3) (f := 1103) hf18.1 hf18.2 (Nat.le_of_ble_eq_true rfl) rfl zU_X11 (Nat.le_of_ble_eq_true rfl) (Nat.le_of_ble_eq_true rfl) ⟨_, zw_1301, Or.inl rfl⟩ rfl rfl dX11_method_105 ?_
    refine z_iload_n 1 dX11_method_108 rfl rfl ?_
    obtain ⟨b19, hb20, h⟩ := h
    rw [show va_rf (gR S 1104 a0) = Value.ref b19 from by rw [hb20]; rfl]
    obtain ⟨hf21, h⟩ := h
    obtain ⟨j22, hj23, h⟩ := h
    have h := h _ rfl
    refine z_iast (j := j22) hf21.1 hf21.2 hj23.1 hj23.2.1 hj23.2.2 dX11_method_109 ?_
    obtain ⟨S24, hS25⟩ : ∃ z, z = sA S b19 j22 l1 := ⟨_, rfl⟩
    rw [← hS25] at h ⊢
    have hf18 : a0 ∈ gL S24 ∧ gK S24 a0 = 11 := by rw [hS25]; exact hf18
    have hf21 : b19 ∈ gL S24 ∧ gK S24 b19 = 12 := by rw [hS25]; exact hf21
    refine z_aload_n 0 dX11_method_110 rfl rfl ?_
    refine z_getQ (c := 11) (j := 5) (f := 1105) hf18.1 hf18.2 (Nat.le_of_ble_eq_true rfl) rfl zU_X11 (Nat.le_of_ble_eq_true rfl) (Nat.le_of_ble_eq_true rfl) ⟨_, zw_1303, Or.inl rfl⟩ rfl rfl dX11_method_111 ?_
    refine z_aload_n 0 dX11_method_114 rfl rfl ?_
    refine z_getI (c := 11) (j := 3) (f := 1103) hf18.1 hf18.2 (Nat.le_of_ble_eq_true rfl) rfl zU_X11 (Nat.le_of_ble_eq_true rfl) (Nat.le_of_ble_eq_true rfl) ⟨_, zw_1301, Or.inl rfl⟩ rfl rfl dX11_method_115 ?_
    refine z_aload_n 0 dX11_method_118 rfl rfl ?_
    refine z_getI (c := 11) (j := 1) (f := 1101) hf18.1 hf18.2 (Nat.le_of_ble_eq_true rfl) rfl zU_X11 (Nat.le_of_ble_eq_true rfl) (Nat.le_of_ble_eq_true rfl) ⟨_, zw_1299, Or.inl rfl⟩ rfl rfl dX11_method_119 ?_
    obtain ⟨b26, hb27, h⟩ := h
    rw [show va_rf (gR S24 1105 a0) = Value.ref b26 from by rw [hb27]; rfl]
    obtain ⟨hf28, h⟩ := h
    obtain ⟨j29, hj30, h⟩ := h
    have h := h _ rfl
    refine z_iast (j := j29) hf28.1 hf28.2 hj30.1 hj30.2.1 hj30.2.2 dX11_method_122 ?_
    obtain ⟨S31, hS32⟩ : ∃ z, z = sA S24 b26 j29 (gI S24 1101 a0) := ⟨_, rfl⟩
    rw [← hS32] at h ⊢
    have hf18 : a0 ∈ gL S31 ∧ gK S31 a0 = 11 := by rw [hS32]; exact hf18
    have hf21 : b19 ∈ gL S31 ∧ gK S31 b19 = 12 := by rw [hS32]; exact hf21
    have hf28 : b26 ∈ gL S31 ∧ gK S31 b26 = 12 := by rw [hS32]; exact hf28
    refine z_iconst (v := 0) dX11_method_123 rfl ?_
    refine z_istore_n (lv' := [(3, .int 0), (0, .ref a0), (1, .int l1), (2, .int l2)]) dX11_method_124 rfl (Nat.le_of_ble_eq_true rfl) rfl ?_
    obtain ⟨m125, h⟩ := h
    refine z_sub [1, 0] rfl ?_
    refine w_X11_method_L125 (fun a0 S h => ?_) m125 a0 0 S31 h
    refine z_aload_n 0 dX11_method_159 rfl rfl ?_
    obtain ⟨hf48, h⟩ := h
    refine z_getQ (c := 11) (j := 7) (f := 1107) hf48.1 hf48.2 (Nat.le_of_ble_eq_true rfl) rfl zU_X11 (Nat.le_of_ble_eq_true rfl) (Nat.le_of_ble_eq_true rfl) ⟨_, zw_1305, Or.inl rfl⟩ rfl rfl dX11_method_160 ?_
    refine z_iconst (v := 2) dX11_method_163 rfl ?_
    refine z_aload_n 0 dX11_method_164 rfl rfl ?_
    refine z_getI (c := 11) (j := 3) (f := 1103) hf48.1 hf48.2 (Nat.le_of_ble_eq_true rfl) rfl zU_X11 (Nat.le_of_ble_eq_true rfl) (Nat.le_of_ble_eq_true rfl) ⟨_, zw_1301, Or.inl rfl⟩ rfl rfl dX11_method_165 ?_
    refine z_imul dX11_method_168 ?_
    refine z_aload_n 0 dX11_method_169 rfl rfl ?_
    refine z_getQ (c := 11) (j := 2) (f := 1102) hf48.1 hf48.2 (Nat.le_of_ble_eq_true rfl) rfl zU_X11 (Nat.le_of_ble_eq_true rfl) (Nat.le_of_ble_eq_true rfl) ⟨_, zw_1300, Or.inl rfl⟩ rfl rfl dX11_method_170 ?_
    refine z_aload_n 0 dX11_method_173 rfl rfl ?_
    refine z_getI (c := 11) (j := 1) (f := 1101) hf48.1 hf48.2 (Nat.le_of_ble_eq_true rfl) rfl zU_X11 (Nat.le_of_ble_eq_true rfl) (Nat.le_of_ble_eq_true rfl) ⟨_, zw_1299, Or.inl rfl⟩ rfl rfl dX11_method_174 ?_
    refine z_iconst (v := 1) dX11_method_177 rfl ?_
    refine z_isub dX11_method_178 ?_
    obtain ⟨b49, hb50, h⟩ := h
    rw [show va_rf (gR S 1102 a0) = Value.ref b49 from by rw [hb50]; rfl]
    obtain ⟨hf51, h⟩ := h
    obtain ⟨j52, hj53, h⟩ := h
    refine z_iald (j := j52) hf51.1 hf51.2 hj53.1 hj53.2.1 hj53.2.2 dX11_method_179 ?_
    obtain ⟨b54, hb55, h⟩ := h
    rw [show va_rf (gR S 1107 a0) = Value.ref b54 from by rw [hb55]; rfl]
    obtain ⟨hf56, h⟩ := h
    obtain ⟨j57, hj58, h⟩ := h
    have h := h _ rfl
    refine z_iast (j := j57) hf56.1 hf56.2 hj58.1 hj58.2.1 hj58.2.2 dX11_method_180 ?_
    obtain ⟨S59, hS60⟩ : ∃ z, z = sA S b54 j57 (gA S b49 j52) := ⟨_, rfl⟩
    rw [← hS60] at h ⊢
    have hf48 : a0 ∈ gL S59 ∧ gK S59 a0 = 11 := by rw [hS60]; exact hf48
    have hf51 : b49 ∈ gL S59 ∧ gK S59 b49 = 12 := by rw [hS60]; exact hf51
    have hf56 : b54 ∈ gL S59 ∧ gK S59 b54 = 12 := by rw [hS60]; exact hf56
    refine z_aload_n 0 dX11_method_181 rfl rfl ?_
    refine z_getQ (c := 11) (j := 7) (f := 1107) hf48.1 hf48.2 (Nat.le_of_ble_eq_true rfl) rfl zU_X11 (Nat.le_of_ble_eq_true rfl) (Nat.le_of_ble_eq_true rfl) ⟨_, zw_1305, Or.inl rfl⟩ rfl rfl dX11_method_182 ?_
    refine z_iconst (v := 2) dX11_method_185 rfl ?_
    refine z_aload_n 0 dX11_method_186 rfl rfl ?_
    refine z_getI (c := 11) (j := 3) (f := 1103) hf48.1 hf48.2 (Nat.le_of_ble_eq_true rfl) rfl zU_X11 (Nat.le_of_ble_eq_true rfl) (Nat.le_of_ble_eq_true rfl) ⟨_, zw_1301, Or.inl rfl⟩ rfl rfl dX11_method_187 ?_
    refine z_imul dX11_method_190 ?_
    refine z_iconst (v := 1) dX11_method_191 rfl ?_
    refine z_iadd dX11_method_192 ?_
    refine z_aload_n 0 dX11_method_193 rfl rfl ?_
    refine z_getQ (c := 11) (j := 2) (f := 1102) hf48.1 hf48.2 (Nat.le_of_ble_eq_true rfl) rfl zU_X11 (Nat.le_of_ble_eq_true rfl) (Nat.le_of_ble_eq_true rfl) ⟨_, zw_1300, Or.inl rfl⟩ rfl rfl dX11_method_194 ?_
    refine z_aload_n 0 dX11_method_197 rfl rfl ?_
    refine z_getI (c := 11) (j := 1) (f := 1101) hf48.1 hf48.2 (Nat.le_of_ble_eq_true rfl) rfl zU_X11 (Nat.le_of_ble_eq_true rfl) (Nat.le_of_ble_eq_true rfl) ⟨_, zw_1299, Or.inl rfl⟩ rfl rfl dX11_method_198 ?_
    refine z_iconst (v := 1) dX11_method_201 rfl ?_
    refine z_isub dX11_method_202 ?_
    obtain ⟨b61, hb62, h⟩ := h
    rw [show va_rf (gR S59 1102 a0) = Value.ref b61 from by rw [hb62]; rfl]
    obtain ⟨hf63, h⟩ := h
    obtain ⟨j64, hj65, h⟩ := h
    refine z_iald (j := j64) hf63.1 hf63.2 hj65.1 hj65.2.1 hj65.2.2 dX11_method_203 ?_
    obtain ⟨b66, hb67, h⟩ := h
    rw [show va_rf (gR S59 1107 a0) = Value.ref b66 from by rw [hb67]; rfl]
    obtain ⟨hf68, h⟩ := h
    obtain ⟨j69, hj70, h⟩ := h
    have h := h _ rfl
    refine z_iast (j := j69) hf68.1 hf68.2 hj70.1 hj70.2.1 hj70.2.2 dX11_method_204 ?_
    obtain ⟨S71, hS72⟩ : ∃ z, z = sA S59 b66 j69 (gA S59 b61 j64) := ⟨_, rfl⟩
    rw [← hS72] at h ⊢
    have hf48 : a0 ∈ gL S71 ∧ gK S71 a0 = 11 := by rw [hS72]; exact hf48
    have hf51 : b49 ∈ gL S71 ∧ gK S71 b49 = 12 := by rw [hS72]; exact hf51
    have hf56 : b54 ∈ gL S71 ∧ gK S71 b54 = 12 := by rw [hS72]; exact hf56
    have hf63 : b61 ∈ gL S71 ∧ gK S71 b61 = 12 := by rw [hS72]; exact hf63
    have hf68 : b66 ∈ gL S71 ∧ gK S71 b66 = 12 := by rw [hS72]; exact hf68
    refine z_aload_n 0 dX11_method_205 rfl rfl ?_
    refine z_iconst (v := 0) dX11_method_206 rfl ?_
    have h := h _ rfl
    refine z_putV (c := 11) (j := 1) (ty0 := tyX11) (S' := sI S71 1101 a0 0) hf48.1 hf48.2 (Nat.le_of_ble_eq_true rfl) rfl zU_X11 tyX11_ok nmX11 (Nat.le_of_ble_eq_true rfl) (Nat.le_of_ble_eq_true rfl) ⟨_, zw_1299, Or.inl rfl⟩ (.inl rfl) rfl rfl rfl (zUpI (v := 0) hf48.2 (Nat.le_of_ble_eq_true rfl) (Nat.le_of_ble_eq_true rfl) rfl rfl) dX11_method_207 ?_
    obtain ⟨S73, hS74⟩ : ∃ z, z = sI S71 1101 a0 0 := ⟨_, rfl⟩
    rw [← hS74] at h ⊢
    have hf48 : a0 ∈ gL S73 ∧ gK S73 a0 = 11 := by rw [hS74]; exact hf48
    have hf51 : b49 ∈ gL S73 ∧ gK S73 b49 = 12 := by rw [hS74]; exact hf51
    have hf56 : b54 ∈ gL S73 ∧ gK S73 b54 = 12 := by rw [hS74]; exact hf56
    have hf63 : b61 ∈ gL S73 ∧ gK S73 b61 = 12 := by rw [hS74]; exact hf63
    have hf68 : b66 ∈ gL S73 ∧ gK S73 b66 = 12 := by rw [hS74]; exact hf68
    refine z_aload_n 0 dX11_method_210 rfl rfl ?_
    refine z_dup dX11_method_211 rfl ?_
    refine z_getI (c := 11) (j := 3) (f := 1103) hf48.1 hf48.2 (Nat.le_of_ble_eq_true rfl) rfl zU_X11 (Nat.le_of_ble_eq_true rfl) (Nat.le_of_ble_eq_true rfl) ⟨_, zw_1301, Or.inl rfl⟩ rfl rfl dX11_method_212 ?_
    refine z_iconst (v := 1) dX11_method_215 rfl ?_
    refine z_iadd dX11_method_216 ?_
    have h := h _ rfl
    refine z_putV (c := 11) (j := 3) (ty0 := tyX11) (S' := sI S73 1103 a0 ((gI S73 1103 a0) + 1)) hf48.1 hf48.2 (Nat.le_of_ble_eq_true rfl) rfl zU_X11 tyX11_ok nmX11 (Nat.le_of_ble_eq_true rfl) (Nat.le_of_ble_eq_true rfl) ⟨_, zw_1301, Or.inl rfl⟩ (.inl rfl) rfl rfl rfl (zUpI (v := ((gI S73 1103 a0) + 1)) hf48.2 (Nat.le_of_ble_eq_true rfl) (Nat.le_of_ble_eq_true rfl) rfl rfl) dX11_method_217 ?_
    obtain ⟨S75, hS76⟩ : ∃ z, z = sI S73 1103 a0 ((gI S73 1103 a0) + 1) := ⟨_, rfl⟩
    rw [← hS76] at h ⊢
    have hf48 : a0 ∈ gL S75 ∧ gK S75 a0 = 11 := by rw [hS76]; exact hf48
    have hf51 : b49 ∈ gL S75 ∧ gK S75 b49 = 12 := by rw [hS76]; exact hf51
    have hf56 : b54 ∈ gL S75 ∧ gK S75 b54 = 12 := by rw [hS76]; exact hf56
    have hf63 : b61 ∈ gL S75 ∧ gK S75 b61 = 12 := by rw [hS76]; exact hf63
    have hf68 : b66 ∈ gL S75 ∧ gK S75 b66 = 12 := by rw [hS76]; exact hf68
    refine z_aload_n 0 dX11_method_220 rfl rfl ?_
    refine z_getI (c := 11) (j := 3) (f := 1103) hf48.1 hf48.2 (Nat.le_of_ble_eq_true rfl) rfl zU_X11 (Nat.le_of_ble_eq_true rfl) (Nat.le_of_ble_eq_true rfl) ⟨_, zw_1301, Or.inl rfl⟩ rfl rfl dX11_method_221 ?_
    refine z_iconst (v := 1) dX11_method_224 rfl ?_
    refine z_isub dX11_method_225 ?_
    exact z_ireturn ⟨rfl, _, rfl, h⟩ rfl (Nat.le_of_ble_eq_true rfl) (Nat.le_of_ble_eq_true rfl) dX11_method_226
  · have h := h.2 c84
    refine z_aload_n 0 dX11_method_93 rfl rfl ?_
    refine z_iconst (v := 2) dX11_method_94 rfl ?_
    obtain ⟨hf81, h⟩ := h
    have h := h _ rfl
    refine z_putV (c := 11) (j := 0) (ty0 := tyX11) (S' := sI S 1100 a0 2) hf81.1 hf81.2 (Nat.le_of_ble_eq_true rfl) rfl zU_X11 tyX11_ok nmX11 (Nat.le_of_ble_eq_true rfl) (Nat.le_of_ble_eq_true rfl) ⟨_, zw_1298, Or.inl rfl⟩ (.inl rfl) rfl rfl rfl (zUpI (v := 2) hf81.2 (Nat.le_of_ble_eq_true rfl) (Nat.le_of_ble_eq_true rfl) rfl rfl) dX11_method_95 ?_
    obtain ⟨S82, hS83⟩ : ∃ z, z = sI S 1100 a0 2 := ⟨_, rfl⟩
    rw [← hS83] at h ⊢
    have hf81 : a0 ∈ gL S82 ∧ gK S82 a0 = 11 := by rw [hS83]; exact hf81
    refine z_iconst (v := 0) dX11_method_98 rfl ?_
    exact z_ireturn ⟨rfl, _, rfl, h⟩ rfl (Nat.le_of_ble_eq_true rfl) (Nat.le_of_ble_eq_true rfl) dX11_method_99
set_option maxRecDepth 20000 in
set_option maxHeartbeats 4000000 in
theorem w_X11_method_J48 {E : zE}  {Q : Int32 → zS → Prop} {X : String → zS → Prop}  (a0 : Nat) (l1 : Int32) (S : zS) (h : p_X11_method_J48 E  Q X a0 l1 S) : zJ E (RX11, cX11_method, 4, (some .int), false, [], zTr) ({ frames := 2, cells := 0, slots := 0, locals := 47 } : Room) (zq (qI Q)) (zx X) 48 [(0, .ref a0), (1, .int l1)] [] [] S 0 0 := by
  unfold p_X11_method_J48 at h
  refine z_iconst (v := 0) dX11_method_48 rfl ?_
  refine w_X11_method_J49 a0 l1 0 S h
set_option maxRecDepth 20000 in
set_option maxHeartbeats 4000000 in
theorem w_X11_method_J16 {E : zE}  {Q : Int32 → zS → Prop} {X : String → zS → Prop}  (a0 : Nat) (l1 : Int32) (l100 : Int32) (a101 : Nat) (S : zS) (h : p_X11_method_J16 E  Q X a0 l1 l100 a101 S) : zJ E (RX11, cX11_method, 4, (some .int), false, [], zTr) ({ frames := 2, cells := 0, slots := 0, locals := 47 } : Room) (zq (qI Q)) (zx X) 16 [(0, .ref a0), (1, .int l1)] [.int l100, .ref a101] [] S 0 0 := by
  unfold p_X11_method_J16 at h
  obtain ⟨hf3, h⟩ := h
  have h := h _ rfl
  refine z_putV (c := 11) (j := 0) (ty0 := tyX11) (S' := sI S 1100 a101 l100) hf3.1 hf3.2 (Nat.le_of_ble_eq_true rfl) rfl zU_X11 tyX11_ok nmX11 (Nat.le_of_ble_eq_true rfl) (Nat.le_of_ble_eq_true rfl) ⟨_, zw_1298, Or.inl rfl⟩ (.inl rfl) rfl rfl rfl (zUpI (v := l100) hf3.2 (Nat.le_of_ble_eq_true rfl) (Nat.le_of_ble_eq_true rfl) rfl rfl) dX11_method_16 ?_
  obtain ⟨S4, hS5⟩ : ∃ z, z = sI S 1100 a101 l100 := ⟨_, rfl⟩
  rw [← hS5] at h ⊢
  have hf3 : a101 ∈ gL S4 ∧ gK S4 a101 = 11 := by rw [hS5]; exact hf3
  refine z_aload_n 0 dX11_method_19 rfl rfl ?_
  obtain ⟨hf6, h⟩ := h
  refine z_getI (c := 11) (j := 0) (f := 1100) hf6.1 hf6.2 (Nat.le_of_ble_eq_true rfl) rfl zU_X11 (Nat.le_of_ble_eq_true rfl) (Nat.le_of_ble_eq_true rfl) ⟨_, zw_1298, Or.inl rfl⟩ rfl rfl dX11_method_20 ?_
  refine z_if_le 28 dX11_method_23 (by decide) (fun c87 => ?_) (fun c87 => ?_)
  · have h := h.1 c87
    refine z_aload_n 0 dX11_method_28 rfl rfl ?_
    refine z_getI (c := 11) (j := 1) (f := 1101) hf6.1 hf6.2 (Nat.le_of_ble_eq_true rfl) rfl zU_X11 (Nat.le_of_ble_eq_true rfl) (Nat.le_of_ble_eq_true rfl) ⟨_, zw_1299, Or.inl rfl⟩ rfl rfl dX11_method_29 ?_
    refine z_if_le 48 dX11_method_32 (by decide) (fun c86 => ?_) (fun c86 => ?_)
    · have h := h.1 c86
      refine w_X11_method_J48 a0 l1 S4 h
    · have h := h.2 c86
      refine z_aload_n 0 dX11_method_35 rfl rfl ?_
      refine z_getI (c := 11) (j := 3) (f := 1103) hf6.1 hf6.2 (Nat.le_of_ble_eq_true rfl) rfl zU_X11 (Nat.le_of_ble_eq_true rfl) (Nat.le_of_ble_eq_true rfl) ⟨_, zw_1301, Or.inl rfl⟩ rfl rfl dX11_method_36 ?_
      refine z_bipush (v := 8) dX11_method_39 rfl ?_
      refine z_icmp_ge 48 dX11_method_41 (by decide) (fun c85 => ?_) (fun c85 => ?_)
      · have h := h.1 c85
        refine w_X11_method_J48 a0 l1 S4 h
      · have h := h.2 c85
        refine z_iconst (v := 1) dX11_method_44 rfl ?_
        refine z_goto 49 dX11_method_45 (by decide) ?_
        refine w_X11_method_J49 a0 l1 1 S4 h
  · have h := h.2 c87
    refine z_iconst (v := 0) dX11_method_26 rfl ?_
    exact z_ireturn ⟨rfl, _, rfl, h⟩ rfl (Nat.le_of_ble_eq_true rfl) (Nat.le_of_ble_eq_true rfl) dX11_method_27
set_option maxRecDepth 20000 in
set_option maxHeartbeats 4000000 in
theorem w_X11_method {E : zE} {a0 : Nat} {l1 : Int32} {S : zS} {Q : Int32 → zS → Prop} {X : String → zS → Prop} (h : p_X11_method E a0 l1 S Q X) : zM E yX11_method cX11_method 4 (some .int) ({ frames := 2, cells := 0, slots := 0, locals := 47 } : Room) [.ref a0, .int l1] S (qI Q) X := by
  unfold p_X11_method at h
  refine zM_of RX11 false (by decide) rfl (fun h => by cases h) (Nat.le_of_ble_eq_true rfl) ?_
  refine z_aload_n 0 dX11_method_0 rfl rfl ?_
  refine z_iload_n 1 dX11_method_1 rfl rfl ?_
  refine z_iconst (v := 4) dX11_method_2 rfl ?_
  refine z_bipush (v := 6) dX11_method_3 rfl ?_
  refine z_callSI (st := [.ref a0]) (w_X11_in h) zw_1435 zw_1433 zw_1434 zw_74 zy_X11_in rfl rfl ⟨Nat.le_of_ble_eq_true rfl, Nat.le_of_ble_eq_true rfl⟩ ⟨(Nat.le_of_ble_eq_true rfl), (Nat.le_of_ble_eq_true rfl)⟩ (Nat.le_of_ble_eq_true rfl) dX11_method_5 (fun _ _ hx => hx.elim) (fun r2 S1 h => ?_)
  refine z_widen (k' := 0) (n' := 0) (Nat.le_refl _) (Nat.le_refl _) ?_
  refine z_if_eq 15 dX11_method_8 (by decide) (fun c88 => ?_) (fun c88 => ?_)
  · have h := h.1 c88
    refine z_iconst (v := 1) dX11_method_15 rfl ?_
    refine w_X11_method_J16 a0 l1 1 a0 S1 h
  · have h := h.2 c88
    refine z_iconst (v := 0) dX11_method_11 rfl ?_
    refine z_goto 16 dX11_method_12 (by decide) ?_
    refine w_X11_method_J16 a0 l1 0 a0 S1 h
set_option maxRecDepth 20000 in
set_option maxHeartbeats 4000000 in
theorem w_X11_isMethod {E : zE} {a0 : Nat} {l1 : Int32} {S : zS} {Q : Int32 → zS → Prop} {X : String → zS → Prop} (h : p_X11_isMethod E a0 l1 S Q X) : zM E yX11_isMethod cX11_isMethod 2 (some .boolean) ({ frames := 1, cells := 0, slots := 0, locals := 22 } : Room) [.ref a0, .int l1] S (qI Q) X := by
  unfold p_X11_isMethod at h
  refine zM_of RX11 false (by decide) rfl (fun h => by cases h) (Nat.le_of_ble_eq_true rfl) ?_
  refine z_iload_n 1 dX11_isMethod_0 rfl rfl ?_
  refine z_iconst (v := 0) dX11_isMethod_1 rfl ?_
  refine z_aload_n 0 dX11_isMethod_2 rfl rfl ?_
  obtain ⟨hf1, h⟩ := h
  refine z_getI (c := 11) (j := 3) (f := 1103) hf1.1 hf1.2 (Nat.le_of_ble_eq_true rfl) rfl zU_X11 (Nat.le_of_ble_eq_true rfl) (Nat.le_of_ble_eq_true rfl) ⟨_, zw_1301, Or.inl rfl⟩ rfl rfl dX11_isMethod_3 ?_
  refine z_iconst (v := 1) dX11_isMethod_6 rfl ?_
  refine z_isub dX11_isMethod_7 ?_
  refine z_callSI (st := []) (w_X11_in h) zw_1435 zw_1433 zw_1434 zw_74 zy_X11_in rfl rfl ⟨Nat.le_of_ble_eq_true rfl, Nat.le_of_ble_eq_true rfl⟩ ⟨(Nat.le_of_ble_eq_true rfl), (Nat.le_of_ble_eq_true rfl)⟩ (Nat.le_of_ble_eq_true rfl) dX11_isMethod_8 (fun _ _ hx => hx.elim) (fun r3 S2 h => ?_)
  refine z_widen (k' := 0) (n' := 0) (Nat.le_refl _) (Nat.le_refl _) ?_
  obtain ⟨hz4, h⟩ := h
  exact z_zreturn ⟨rfl, _, rfl, h⟩ rfl (zbn hz4) (Nat.le_of_ble_eq_true rfl) (Nat.le_of_ble_eq_true rfl) dX11_isMethod_11
set_option maxRecDepth 20000 in
set_option maxHeartbeats 4000000 in
theorem w_X11_isCall {E : zE} {l0 : Int32} {S : zS} {Q : Int32 → zS → Prop} {X : String → zS → Prop} (h : p_X11_isCall E l0 S Q X) : zM E yX11_isCall cX11_isCall 1 (some .boolean) ({ frames := 1, cells := 0, slots := 0, locals := 22 } : Room) [.int l0] S (qI Q) X := by
  unfold p_X11_isCall at h
  refine zM_of RX11 false (by decide) rfl (fun h => by cases h) (Nat.le_of_ble_eq_true rfl) ?_
  refine z_iload_n 0 dX11_isCall_0 rfl rfl ?_
  refine z_iconst (v := 0) dX11_isCall_1 rfl ?_
  refine z_iconst (v := 2) dX11_isCall_2 rfl ?_
  refine z_callSI (st := []) (w_X11_in h) zw_1435 zw_1433 zw_1434 zw_74 zy_X11_in rfl rfl ⟨Nat.le_of_ble_eq_true rfl, Nat.le_of_ble_eq_true rfl⟩ ⟨(Nat.le_of_ble_eq_true rfl), (Nat.le_of_ble_eq_true rfl)⟩ (Nat.le_of_ble_eq_true rfl) dX11_isCall_3 (fun _ _ hx => hx.elim) (fun r2 S1 h => ?_)
  refine z_widen (k' := 0) (n' := 0) (Nat.le_refl _) (Nat.le_refl _) ?_
  obtain ⟨hz3, h⟩ := h
  exact z_zreturn ⟨rfl, _, rfl, h⟩ rfl (zbn hz3) (Nat.le_of_ble_eq_true rfl) (Nat.le_of_ble_eq_true rfl) dX11_isCall_6
set_option maxRecDepth 20000 in
set_option maxHeartbeats 4000000 in
theorem w_X11_stageOf {E : zE} {a0 : Nat} {l1 : Int32} {S : zS} {Q : Int32 → zS → Prop} {X : String → zS → Prop} (h : p_X11_stageOf E a0 l1 S Q X) : zM E yX11_stageOf cX11_stageOf 2 (some .int) ({ frames := 0, cells := 0, slots := 0, locals := 0 } : Room) [.ref a0, .int l1] S (qI Q) X := by
  unfold p_X11_stageOf at h
  refine zM_of RX11 false (by decide) rfl (fun h => by cases h) (Nat.le_of_ble_eq_true rfl) ?_
  refine z_aload_n 0 dX11_stageOf_0 rfl rfl ?_
  obtain ⟨hf1, h⟩ := h
  refine z_getQ (c := 11) (j := 4) (f := 1104) hf1.1 hf1.2 (Nat.le_of_ble_eq_true rfl) rfl zU_X11 (Nat.le_of_ble_eq_true rfl) (Nat.le_of_ble_eq_true rfl) ⟨_, zw_1302, Or.inl rfl⟩ rfl rfl dX11_stageOf_1 ?_
  refine z_aload_n 0 dX11_stageOf_4 rfl rfl ?_
  refine z_getQ (c := 11) (j := 12) (f := 1112) hf1.1 hf1.2 (Nat.le_of_ble_eq_true rfl) rfl zU_X11 (Nat.le_of_ble_eq_true rfl) (Nat.le_of_ble_eq_true rfl) ⟨_, zw_1310, Or.inl rfl⟩ rfl rfl dX11_stageOf_5 ?_
  refine z_bipush (v := 20) dX11_stageOf_8 rfl ?_
  refine z_iload_n 1 dX11_stageOf_10 rfl rfl ?_
  refine z_imul dX11_stageOf_11 ?_
  obtain ⟨b2, hb3, h⟩ := h
  rw [show va_rf (gR S 1112 a0) = Value.ref b2 from by rw [hb3]; rfl]
  obtain ⟨hf4, h⟩ := h
  obtain ⟨j5, hj6, h⟩ := h
  refine z_iald (j := j5) hf4.1 hf4.2 hj6.1 hj6.2.1 hj6.2.2 dX11_stageOf_12 ?_
  refine z_iconst (v := 3) dX11_stageOf_13 rfl ?_
  refine z_idiv dX11_stageOf_14 (by decide) ?_
  obtain ⟨b7, hb8, h⟩ := h
  rw [show va_rf (gR S 1104 a0) = Value.ref b7 from by rw [hb8]; rfl]
  obtain ⟨hf9, h⟩ := h
  obtain ⟨j10, hj11, h⟩ := h
  refine z_iald (j := j10) hf9.1 hf9.2 hj11.1 hj11.2.1 hj11.2.2 dX11_stageOf_15 ?_
  exact z_ireturn ⟨rfl, _, rfl, h⟩ rfl (Nat.le_of_ble_eq_true rfl) (Nat.le_of_ble_eq_true rfl) dX11_stageOf_16
set_option maxRecDepth 20000 in
set_option maxHeartbeats 4000000 in
theorem w_X11_isInNow {E : zE} {a0 : Nat} {l1 : Int32} {S : zS} {Q : Int32 → zS → Prop} {X : String → zS → Prop} (h : p_X11_isInNow E a0 l1 S Q X) : zM E yX11_isInNow cX11_isInNow 2 (some .boolean) ({ frames := 0, cells := 0, slots := 0, locals := 0 } : Room) [.ref a0, .int l1] S (qI Q) X := by
  unfold p_X11_isInNow at h
  refine zM_of RX11 false (by decide) rfl (fun h => by cases h) (Nat.le_of_ble_eq_true rfl) ?_
  refine z_aload_n 0 dX11_isInNow_0 rfl rfl ?_
  obtain ⟨hf1, h⟩ := h
  refine z_getQ (c := 11) (j := 19) (f := 1119) hf1.1 hf1.2 (Nat.le_of_ble_eq_true rfl) rfl zU_X11 (Nat.le_of_ble_eq_true rfl) (Nat.le_of_ble_eq_true rfl) ⟨_, zw_1317, Or.inl rfl⟩ rfl rfl dX11_isInNow_1 ?_
  refine z_iload_n 1 dX11_isInNow_4 rfl rfl ?_
  obtain ⟨b2, hb3, h⟩ := h
  rw [show va_rf (gR S 1119 a0) = Value.ref b2 from by rw [hb3]; rfl]
  obtain ⟨hf4, h⟩ := h
  obtain ⟨j5, hj6, h⟩ := h
  refine z_zald (j := j5) hf4.1 hf4.2 hj6.1 hj6.2.1 hj6.2.2 dX11_isInNow_5 ?_
  refine z_if_ne 34 dX11_isInNow_6 (by decide) (fun c23 => ?_) (fun c23 => ?_)
  · have h := h.1 c23
    refine z_iconst (v := 0) dX11_isInNow_34 rfl ?_
    obtain ⟨hz7, h⟩ := h
    exact z_zreturn ⟨rfl, _, rfl, h⟩ rfl (zbn hz7) (Nat.le_of_ble_eq_true rfl) (Nat.le_of_ble_eq_true rfl) dX11_isInNow_35
  · have h := h.2 c23
    refine z_aload_n 0 dX11_isInNow_9 rfl rfl ?_
    refine z_getQ (c := 11) (j := 18) (f := 1118) hf1.1 hf1.2 (Nat.le_of_ble_eq_true rfl) rfl zU_X11 (Nat.le_of_ble_eq_true rfl) (Nat.le_of_ble_eq_true rfl) ⟨_, zw_1316, Or.inl rfl⟩ rfl rfl dX11_isInNow_10 ?_
    refine z_iload_n 1 dX11_isInNow_13 rfl rfl ?_
    obtain ⟨b8, hb9, h⟩ := h
    rw [show va_rf (gR S 1118 a0) = Value.ref b8 from by rw [hb9]; rfl]
    obtain ⟨hf10, h⟩ := h
    obtain ⟨j11, hj12, h⟩ := h
    refine z_zald (j := j11) hf10.1 hf10.2 hj12.1 hj12.2.1 hj12.2.2 dX11_isInNow_14 ?_
    refine z_if_ne 34 dX11_isInNow_15 (by decide) (fun c22 => ?_) (fun c22 => ?_)
    · have h := h.1 c22
      refine z_iconst (v := 0) dX11_isInNow_34 rfl ?_
      obtain ⟨hz13, h⟩ := h
      exact z_zreturn ⟨rfl, _, rfl, h⟩ rfl (zbn hz13) (Nat.le_of_ble_eq_true rfl) (Nat.le_of_ble_eq_true rfl) dX11_isInNow_35
    · have h := h.2 c22
      refine z_aload_n 0 dX11_isInNow_18 rfl rfl ?_
      refine z_getQ (c := 11) (j := 18) (f := 1118) hf1.1 hf1.2 (Nat.le_of_ble_eq_true rfl) rfl zU_X11 (Nat.le_of_ble_eq_true rfl) (Nat.le_of_ble_eq_true rfl) ⟨_, zw_1316, Or.inl rfl⟩ rfl rfl dX11_isInNow_19 ?_
      refine z_bipush (v := 6) dX11_isInNow_22 rfl ?_
      refine z_iload_n 1 dX11_isInNow_24 rfl rfl ?_
      refine z_iadd dX11_isInNow_25 ?_
      obtain ⟨b14, hb15, h⟩ := h
      rw [show va_rf (gR S 1118 a0) = Value.ref b14 from by rw [hb15]; rfl]
      obtain ⟨hf16, h⟩ := h
      obtain ⟨j17, hj18, h⟩ := h
      refine z_zald (j := j17) hf16.1 hf16.2 hj18.1 hj18.2.1 hj18.2.2 dX11_isInNow_26 ?_
      refine z_if_ne 34 dX11_isInNow_27 (by decide) (fun c21 => ?_) (fun c21 => ?_)
      · have h := h.1 c21
        refine z_iconst (v := 0) dX11_isInNow_34 rfl ?_
        obtain ⟨hz19, h⟩ := h
        exact z_zreturn ⟨rfl, _, rfl, h⟩ rfl (zbn hz19) (Nat.le_of_ble_eq_true rfl) (Nat.le_of_ble_eq_true rfl) dX11_isInNow_35
      · have h := h.2 c21
        refine z_iconst (v := 1) dX11_isInNow_30 rfl ?_
        refine z_goto 35 dX11_isInNow_31 (by decide) ?_
        obtain ⟨hz20, h⟩ := h
        exact z_zreturn ⟨rfl, _, rfl, h⟩ rfl (zbn hz20) (Nat.le_of_ble_eq_true rfl) (Nat.le_of_ble_eq_true rfl) dX11_isInNow_35
set_option maxRecDepth 20000 in
set_option maxHeartbeats 4000000 in
theorem w_X11_areIn_L4 {E : zE} {K33 : Int32 → zS → Prop} {Q : Int32 → zS → Prop} {X : String → zS → Prop} (hK33 : ∀ (l2 : Int32) (S : zS), K33 l2 S → zJ E (RX11, cX11_areIn, 4, (some .boolean), false, [], zTr) ({ frames := 1, cells := 0, slots := 0, locals := 21 } : Room) (zq (qI Q)) (zx X) 33 [(2, .int l2)] [] [] S 0 0) : ∀ (m4 : Nat) (a0 : Nat) (l1 : Int32) (l2 : Int32) (l3 : Int32) (S : zS), p_X11_areIn_L4 E K33 Q X m4 a0 l1 l2 l3 S → zJ E (RX11, cX11_areIn, 4, (some .boolean), false, [], zTr) ({ frames := 1, cells := 0, slots := 0, locals := 21 } : Room) (zq (qI Q)) (zx X) 4 [(0, .ref a0), (1, .int l1), (2, .int l2), (3, .int l3)] [] [] S 0 0 := by
  intro m4
  induction m4 with
  | zero => intro a0 l1 l2 l3 S h; exact (show False from h).elim
  | succ m4 ih =>
    intro a0 l1 l2 l3 S h
    unfold p_X11_areIn_L4 at h
    refine z_iload_n 3 dX11_areIn_4 rfl rfl ?_
    refine z_iload_n 1 dX11_areIn_5 rfl rfl ?_
    refine z_icmp_ge 33 dX11_areIn_6 (by decide) (fun c6 => ?_) (fun c6 => ?_)
    · have h := h.1 c6
      refine z_sub [2] rfl ?_
      exact hK33 l2 S h
    · have h := h.2 c6
      refine z_iload_n 2 dX11_areIn_9 rfl rfl ?_
      refine z_if_eq 25 dX11_areIn_10 (by decide) (fun c5 => ?_) (fun c5 => ?_)
      · have h := h.1 c5
        refine z_iconst (v := 0) dX11_areIn_25 rfl ?_
        refine z_istore_n (lv' := [(2, .int 0), (0, .ref a0), (1, .int l1), (3, .int l3)]) dX11_areIn_26 rfl (Nat.le_of_ble_eq_true rfl) rfl ?_
        refine z_iinc (v := (l3 + 1)) (lv' := [(3, .int (l3 + 1)), (2, .int 0), (0, .ref a0), (1, .int l1)]) 3 dX11_areIn_27 rfl rfl (Nat.le_of_ble_eq_true rfl) rfl ?_
        refine z_goto 4 dX11_areIn_30 (by decide) ?_
        refine z_sub [2, 3, 1, 0] rfl ?_
        exact ih a0 l1 0 (l3 + 1) S h
      · have h := h.2 c5
        refine z_aload_n 0 dX11_areIn_13 rfl rfl ?_
        refine z_iload_n 3 dX11_areIn_14 rfl rfl ?_
        obtain ⟨hf4, h⟩ := h
        refine z_callVI (ci := 11) (st := []) (w_X11_isInNow h) hf4.1 hf4.2 (Nat.le_of_ble_eq_true rfl) rfl zw_1470 zw_1467 zw_1469 zw_33 zw_74 zy_X11_isInNow rfl rfl ⟨Nat.le_of_ble_eq_true rfl, Nat.le_of_ble_eq_true rfl⟩ ⟨(Nat.le_of_ble_eq_true rfl), (Nat.le_of_ble_eq_true rfl)⟩ (Nat.le_of_ble_eq_true rfl) dX11_areIn_15 (fun _ _ hx => hx.elim) (fun r2 S1 h => ?_)
        refine z_widen (k' := 0) (n' := 0) (Nat.le_refl _) (Nat.le_refl _) ?_
        refine z_if_eq 25 dX11_areIn_18 (by decide) (fun c3 => ?_) (fun c3 => ?_)
        · have h := h.1 c3
          refine z_iconst (v := 0) dX11_areIn_25 rfl ?_
          refine z_istore_n (lv' := [(2, .int 0), (0, .ref a0), (1, .int l1), (3, .int l3)]) dX11_areIn_26 rfl (Nat.le_of_ble_eq_true rfl) rfl ?_
          refine z_iinc (v := (l3 + 1)) (lv' := [(3, .int (l3 + 1)), (2, .int 0), (0, .ref a0), (1, .int l1)]) 3 dX11_areIn_27 rfl rfl (Nat.le_of_ble_eq_true rfl) rfl ?_
          refine z_goto 4 dX11_areIn_30 (by decide) ?_
          refine z_sub [2, 3, 1, 0] rfl ?_
          exact ih a0 l1 0 (l3 + 1) S1 h
        · have h := h.2 c3
          refine z_iconst (v := 1) dX11_areIn_21 rfl ?_
          refine z_goto 26 dX11_areIn_22 (by decide) ?_
          refine z_istore_n (lv' := [(2, .int 1), (0, .ref a0), (1, .int l1), (3, .int l3)]) dX11_areIn_26 rfl (Nat.le_of_ble_eq_true rfl) rfl ?_
          refine z_iinc (v := (l3 + 1)) (lv' := [(3, .int (l3 + 1)), (2, .int 1), (0, .ref a0), (1, .int l1)]) 3 dX11_areIn_27 rfl rfl (Nat.le_of_ble_eq_true rfl) rfl ?_
          refine z_goto 4 dX11_areIn_30 (by decide) ?_
          refine z_sub [2, 3, 1, 0] rfl ?_
          exact ih a0 l1 1 (l3 + 1) S1 h
set_option maxRecDepth 20000 in
set_option maxHeartbeats 4000000 in
theorem w_X11_areIn {E : zE} {a0 : Nat} {l1 : Int32} {S : zS} {Q : Int32 → zS → Prop} {X : String → zS → Prop} (h : p_X11_areIn E a0 l1 S Q X) : zM E yX11_areIn cX11_areIn 4 (some .boolean) ({ frames := 1, cells := 0, slots := 0, locals := 21 } : Room) [.ref a0, .int l1] S (qI Q) X := by
  unfold p_X11_areIn at h
  refine zM_of RX11 false (by decide) rfl (fun h => by cases h) (Nat.le_of_ble_eq_true rfl) ?_
  refine z_iconst (v := 1) dX11_areIn_0 rfl ?_
  refine z_istore_n (lv' := [(2, .int 1), (0, .ref a0), (1, .int l1)]) dX11_areIn_1 rfl (Nat.le_of_ble_eq_true rfl) rfl ?_
  refine z_iconst (v := 0) dX11_areIn_2 rfl ?_
  refine z_istore_n (lv' := [(3, .int 0), (2, .int 1), (0, .ref a0), (1, .int l1)]) dX11_areIn_3 rfl (Nat.le_of_ble_eq_true rfl) rfl ?_
  obtain ⟨m4, h⟩ := h
  refine z_sub [2, 3, 1, 0] rfl ?_
  refine w_X11_areIn_L4 (fun l2 S h => ?_) m4 a0 l1 1 0 S h
  refine z_iload_n 0 dX11_areIn_33 rfl rfl ?_
  obtain ⟨hz7, h⟩ := h
  exact z_zreturn ⟨rfl, _, rfl, h⟩ rfl (zbn hz7) (Nat.le_of_ble_eq_true rfl) (Nat.le_of_ble_eq_true rfl) dX11_areIn_34
set_option maxRecDepth 20000 in
set_option maxHeartbeats 4000000 in
theorem w_X11_changeOf {E : zE} {a0 : Nat} {l1 : Int32} {l2 : Int32} {l3 : Int32} {S : zS} {Q : Int32 → zS → Prop} {X : String → zS → Prop} (h : p_X11_changeOf E a0 l1 l2 l3 S Q X) : zM E yX11_changeOf cX11_changeOf 4 (some .int) ({ frames := 0, cells := 0, slots := 0, locals := 0 } : Room) [.ref a0, .int l1, .int l2, .int l3] S (qI Q) X := by
  unfold p_X11_changeOf at h
  refine zM_of RX11 false (by decide) rfl (fun h => by cases h) (Nat.le_of_ble_eq_true rfl) ?_
  refine z_iload_n 3 dX11_changeOf_0 rfl rfl ?_
  refine z_aload_n 0 dX11_changeOf_1 rfl rfl ?_
  obtain ⟨hf1, h⟩ := h
  refine z_getQ (c := 11) (j := 5) (f := 1105) hf1.1 hf1.2 (Nat.le_of_ble_eq_true rfl) rfl zU_X11 (Nat.le_of_ble_eq_true rfl) (Nat.le_of_ble_eq_true rfl) ⟨_, zw_1303, Or.inl rfl⟩ rfl rfl dX11_changeOf_2 ?_
  refine z_iload_n 1 dX11_changeOf_5 rfl rfl ?_
  obtain ⟨b2, hb3, h⟩ := h
  rw [show va_rf (gR S 1105 a0) = Value.ref b2 from by rw [hb3]; rfl]
  obtain ⟨hf4, h⟩ := h
  obtain ⟨j5, hj6, h⟩ := h
  refine z_iald (j := j5) hf4.1 hf4.2 hj6.1 hj6.2.1 hj6.2.2 dX11_changeOf_6 ?_
  refine z_iconst (v := 1) dX11_changeOf_7 rfl ?_
  refine z_isub dX11_changeOf_8 ?_
  refine z_icmp_ne 31 dX11_changeOf_9 (by decide) (fun c23 => ?_) (fun c23 => ?_)
  · have h := h.1 c23
    refine z_aload_n 0 dX11_changeOf_31 rfl rfl ?_
    refine z_getQ (c := 11) (j := 6) (f := 1106) hf1.1 hf1.2 (Nat.le_of_ble_eq_true rfl) rfl zU_X11 (Nat.le_of_ble_eq_true rfl) (Nat.le_of_ble_eq_true rfl) ⟨_, zw_1304, Or.inl rfl⟩ rfl rfl dX11_changeOf_32 ?_
    refine z_bipush (v := 12) dX11_changeOf_35 rfl ?_
    refine z_iload_n 1 dX11_changeOf_37 rfl rfl ?_
    refine z_imul dX11_changeOf_38 ?_
    refine z_iload_n 3 dX11_changeOf_39 rfl rfl ?_
    refine z_iadd dX11_changeOf_40 ?_
    obtain ⟨b7, hb8, h⟩ := h
    rw [show va_rf (gR S 1106 a0) = Value.ref b7 from by rw [hb8]; rfl]
    obtain ⟨hf9, h⟩ := h
    obtain ⟨j10, hj11, h⟩ := h
    refine z_iald (j := j10) hf9.1 hf9.2 hj11.1 hj11.2.1 hj11.2.2 dX11_changeOf_41 ?_
    exact z_ireturn ⟨rfl, _, rfl, h⟩ rfl (Nat.le_of_ble_eq_true rfl) (Nat.le_of_ble_eq_true rfl) dX11_changeOf_42
  · have h := h.2 c23
    refine z_iload_n 2 dX11_changeOf_12 rfl rfl ?_
    refine z_if_le 31 dX11_changeOf_13 (by decide) (fun c22 => ?_) (fun c22 => ?_)
    · have h := h.1 c22
      refine z_aload_n 0 dX11_changeOf_31 rfl rfl ?_
      refine z_getQ (c := 11) (j := 6) (f := 1106) hf1.1 hf1.2 (Nat.le_of_ble_eq_true rfl) rfl zU_X11 (Nat.le_of_ble_eq_true rfl) (Nat.le_of_ble_eq_true rfl) ⟨_, zw_1304, Or.inl rfl⟩ rfl rfl dX11_changeOf_32 ?_
      refine z_bipush (v := 12) dX11_changeOf_35 rfl ?_
      refine z_iload_n 1 dX11_changeOf_37 rfl rfl ?_
      refine z_imul dX11_changeOf_38 ?_
      refine z_iload_n 3 dX11_changeOf_39 rfl rfl ?_
      refine z_iadd dX11_changeOf_40 ?_
      obtain ⟨b12, hb13, h⟩ := h
      rw [show va_rf (gR S 1106 a0) = Value.ref b12 from by rw [hb13]; rfl]
      obtain ⟨hf14, h⟩ := h
      obtain ⟨j15, hj16, h⟩ := h
      refine z_iald (j := j15) hf14.1 hf14.2 hj16.1 hj16.2.1 hj16.2.2 dX11_changeOf_41 ?_
      exact z_ireturn ⟨rfl, _, rfl, h⟩ rfl (Nat.le_of_ble_eq_true rfl) (Nat.le_of_ble_eq_true rfl) dX11_changeOf_42
    · have h := h.2 c22
      refine z_aload_n 0 dX11_changeOf_16 rfl rfl ?_
      refine z_getQ (c := 11) (j := 7) (f := 1107) hf1.1 hf1.2 (Nat.le_of_ble_eq_true rfl) rfl zU_X11 (Nat.le_of_ble_eq_true rfl) (Nat.le_of_ble_eq_true rfl) ⟨_, zw_1305, Or.inl rfl⟩ rfl rfl dX11_changeOf_17 ?_
      refine z_iconst (v := 2) dX11_changeOf_20 rfl ?_
      refine z_iload_n 1 dX11_changeOf_21 rfl rfl ?_
      refine z_imul dX11_changeOf_22 ?_
      refine z_iload_n 2 dX11_changeOf_23 rfl rfl ?_
      refine z_iadd dX11_changeOf_24 ?_
      refine z_iconst (v := 1) dX11_changeOf_25 rfl ?_
      refine z_isub dX11_changeOf_26 ?_
      obtain ⟨b17, hb18, h⟩ := h
      rw [show va_rf (gR S 1107 a0) = Value.ref b17 from by rw [hb18]; rfl]
      obtain ⟨hf19, h⟩ := h
      obtain ⟨j20, hj21, h⟩ := h
      refine z_iald (j := j20) hf19.1 hf19.2 hj21.1 hj21.2.1 hj21.2.2 dX11_changeOf_27 ?_
      refine z_goto 42 dX11_changeOf_28 (by decide) ?_
      exact z_ireturn ⟨rfl, _, rfl, h⟩ rfl (Nat.le_of_ble_eq_true rfl) (Nat.le_of_ble_eq_true rfl) dX11_changeOf_42
set_option maxRecDepth 20000 in
set_option maxHeartbeats 4000000 in
theorem w_X11_writes_L44 {E : zE} {K115 : Nat → Int32 → Int32 → Int32 → zS → Prop} {Q : zS → Prop} {X : String → zS → Prop} (hK115 : ∀ (a0 : Nat) (l1 : Int32) (l2 : Int32) (l3 : Int32) (S : zS), K115 a0 l1 l2 l3 S → zJ E (RX11, cX11_writes, 6, none, false, [], zTr) ({ frames := 2, cells := 0, slots := 0, locals := 45 } : Room) (zq (qV Q)) (zx X) 115 [(0, .ref a0), (1, .int l1), (2, .int l2), (3, .int l3)] [] [] S 0 0) : ∀ (m44 : Nat) (a0 : Nat) (l1 : Int32) (l2 : Int32) (l3 : Int32) (l4 : Int32) (l5 : Int32) (S : zS), p_X11_writes_L44 E K115 Q X m44 a0 l1 l2 l3 l4 l5 S → zJ E (RX11, cX11_writes, 6, none, false, [], zTr) ({ frames := 2, cells := 0, slots := 0, locals := 45 } : Room) (zq (qV Q)) (zx X) 44 [(0, .ref a0), (1, .int l1), (2, .int l2), (3, .int l3), (4, .int l4), (5, .int l5)] [] [] S 0 0 := by
  intro m44
  induction m44 with
  | zero => intro a0 l1 l2 l3 l4 l5 S h; exact (show False from h).elim
  | succ m44 ih =>
    intro a0 l1 l2 l3 l4 l5 S h
    unfold p_X11_writes_L44 at h
    refine z_iload 5 dX11_writes_44 rfl ?_
    refine z_aload_n 0 dX11_writes_46 rfl rfl ?_
    obtain ⟨hf19, h⟩ := h
    refine z_getQ (c := 11) (j := 5) (f := 1105) hf19.1 hf19.2 (Nat.le_of_ble_eq_true rfl) rfl zU_X11 (Nat.le_of_ble_eq_true rfl) (Nat.le_of_ble_eq_true rfl) ⟨_, zw_1303, Or.inl rfl⟩ rfl rfl dX11_writes_47 ?_
    refine z_iload 4 dX11_writes_50 rfl ?_
    obtain ⟨b20, hb21, h⟩ := h
    rw [show va_rf (gR S 1105 a0) = Value.ref b20 from by rw [hb21]; rfl]
    obtain ⟨hf22, h⟩ := h
    obtain ⟨j23, hj24, h⟩ := h
    refine z_iald (j := j23) hf22.1 hf22.2 hj24.1 hj24.2.1 hj24.2.2 dX11_writes_52 ?_
    refine z_icmp_ge 115 dX11_writes_53 (by decide) (fun c50 => ?_) (fun c50 => ?_)
    · have h := h.1 c50
      refine z_sub [0, 1, 2, 3] rfl ?_
      exact hK115 a0 l1 l2 l3 S h
    · have h := h.2 c50
      refine z_iload_n 2 dX11_writes_56 rfl rfl ?_
      refine z_aload_n 0 dX11_writes_57 rfl rfl ?_
      refine z_getQ (c := 11) (j := 4) (f := 1104) hf19.1 hf19.2 (Nat.le_of_ble_eq_true rfl) rfl zU_X11 (Nat.le_of_ble_eq_true rfl) (Nat.le_of_ble_eq_true rfl) ⟨_, zw_1302, Or.inl rfl⟩ rfl rfl dX11_writes_58 ?_
      refine z_iload 4 dX11_writes_61 rfl ?_
      obtain ⟨b25, hb26, h⟩ := h
      rw [show va_rf (gR S 1104 a0) = Value.ref b25 from by rw [hb26]; rfl]
      obtain ⟨hf27, h⟩ := h
      obtain ⟨j28, hj29, h⟩ := h
      refine z_iald (j := j28) hf27.1 hf27.2 hj29.1 hj29.2.1 hj29.2.2 dX11_writes_63 ?_
      refine z_aload_n 0 dX11_writes_64 rfl rfl ?_
      refine z_iload 4 dX11_writes_65 rfl ?_
      refine z_aload_n 0 dX11_writes_67 rfl rfl ?_
      refine z_getQ (c := 11) (j := 12) (f := 1112) hf19.1 hf19.2 (Nat.le_of_ble_eq_true rfl) rfl zU_X11 (Nat.le_of_ble_eq_true rfl) (Nat.le_of_ble_eq_true rfl) ⟨_, zw_1310, Or.inl rfl⟩ rfl rfl dX11_writes_68 ?_
      refine z_bipush (v := 20) dX11_writes_71 rfl ?_
      refine z_iload_n 1 dX11_writes_73 rfl rfl ?_
      refine z_imul dX11_writes_74 ?_
      refine z_iload_n 3 dX11_writes_75 rfl rfl ?_
      refine z_iadd dX11_writes_76 ?_
      obtain ⟨b30, hb31, h⟩ := h
      rw [show va_rf (gR S 1112 a0) = Value.ref b30 from by rw [hb31]; rfl]
      obtain ⟨hf32, h⟩ := h
      obtain ⟨j33, hj34, h⟩ := h
      refine z_iald (j := j33) hf32.1 hf32.2 hj34.1 hj34.2.1 hj34.2.2 dX11_writes_77 ?_
      refine z_iconst (v := 3) dX11_writes_78 rfl ?_
      refine z_irem dX11_writes_79 (by decide) ?_
      refine z_iload 5 dX11_writes_80 rfl ?_
      refine z_callVI (ci := 11) (st := [.int (gA S b25 j28), .int l2]) (w_X11_changeOf h) hf19.1 hf19.2 (Nat.le_of_ble_eq_true rfl) rfl zw_1485 zw_1482 zw_1484 zw_36 zw_74 zy_X11_changeOf rfl rfl ⟨Nat.le_of_ble_eq_true rfl, Nat.le_of_ble_eq_true rfl⟩ ⟨(Nat.le_of_ble_eq_true rfl), (Nat.le_of_ble_eq_true rfl)⟩ (Nat.le_of_ble_eq_true rfl) dX11_writes_82 (fun _ _ hx => hx.elim) (fun r36 S35 h => ?_)
      refine z_widen (k' := 0) (n' := 0) (Nat.le_refl _) (Nat.le_refl _) ?_
      refine z_callSI (st := []) (w_X11_changed h) zw_1488 zw_1486 zw_1487 zw_74 zy_X11_changed rfl rfl ⟨Nat.le_of_ble_eq_true rfl, Nat.le_of_ble_eq_true rfl⟩ ⟨(Nat.le_of_ble_eq_true rfl), (Nat.le_of_ble_eq_true rfl)⟩ (Nat.le_of_ble_eq_true rfl) dX11_writes_85 (fun _ _ hx => hx.elim) (fun r38 S37 h => ?_)
      refine z_widen (k' := 0) (n' := 0) (Nat.le_refl _) (Nat.le_refl _) ?_
      refine z_istore_n (lv' := [(2, .int r38), (0, .ref a0), (1, .int l1), (3, .int l3), (4, .int l4), (5, .int l5)]) dX11_writes_88 rfl (Nat.le_of_ble_eq_true rfl) rfl ?_
      refine z_aload_n 1 dX11_writes_89 rfl rfl ?_
      obtain ⟨hf39, h⟩ := h
      refine z_getQ (c := 11) (j := 14) (f := 1114) hf39.1 hf39.2 (Nat.le_of_ble_eq_true rfl) rfl zU_X11 (Nat.le_of_ble_eq_true rfl) (Nat.le_of_ble_eq_true rfl) ⟨_, zw_1312, Or.inl rfl⟩ rfl rfl dX11_writes_90 ?_
      refine z_aload_n 1 dX11_writes_93 rfl rfl ?_
      refine z_getI (c := 11) (j := 13) (f := 1113) hf39.1 hf39.2 (Nat.le_of_ble_eq_true rfl) rfl zU_X11 (Nat.le_of_ble_eq_true rfl) (Nat.le_of_ble_eq_true rfl) ⟨_, zw_1311, Or.inl rfl⟩ rfl rfl dX11_writes_94 ?_
      refine z_iload_n 0 dX11_writes_97 rfl rfl ?_
      obtain ⟨b40, hb41, h⟩ := h
      rw [show va_rf (gR S37 1114 a0) = Value.ref b40 from by rw [hb41]; rfl]
      obtain ⟨hf42, h⟩ := h
      obtain ⟨j43, hj44, h⟩ := h
      have h := h _ rfl
      refine z_iast (j := j43) hf42.1 hf42.2 hj44.1 hj44.2.1 hj44.2.2 dX11_writes_98 ?_
      obtain ⟨S45, hS46⟩ : ∃ z, z = sA S37 b40 j43 r38 := ⟨_, rfl⟩
      rw [← hS46] at h ⊢
      have hf39 : a0 ∈ gL S45 ∧ gK S45 a0 = 11 := by rw [hS46]; exact hf39
      have hf42 : b40 ∈ gL S45 ∧ gK S45 b40 = 12 := by rw [hS46]; exact hf42
      refine z_aload_n 1 dX11_writes_99 rfl rfl ?_
      refine z_dup dX11_writes_100 rfl ?_
      refine z_getI (c := 11) (j := 13) (f := 1113) hf39.1 hf39.2 (Nat.le_of_ble_eq_true rfl) rfl zU_X11 (Nat.le_of_ble_eq_true rfl) (Nat.le_of_ble_eq_true rfl) ⟨_, zw_1311, Or.inl rfl⟩ rfl rfl dX11_writes_101 ?_
      refine z_iconst (v := 1) dX11_writes_104 rfl ?_
      refine z_iadd dX11_writes_105 ?_
      have h := h _ rfl
      refine z_putV (c := 11) (j := 13) (ty0 := tyX11) (S' := sI S45 1113 a0 ((gI S45 1113 a0) + 1)) hf39.1 hf39.2 (Nat.le_of_ble_eq_true rfl) rfl zU_X11 tyX11_ok nmX11 (Nat.le_of_ble_eq_true rfl) (Nat.le_of_ble_eq_true rfl) ⟨_, zw_1311, Or.inl rfl⟩ (.inl rfl) rfl rfl rfl (zUpI (v := ((gI S45 1113 a0) + 1)) hf39.2 (Nat.le_of_ble_eq_true rfl) (Nat.le_of_ble_eq_true rfl) rfl rfl) dX11_writes_106 ?_
      obtain ⟨S47, hS48⟩ : ∃ z, z = sI S45 1113 a0 ((gI S45 1113 a0) + 1) := ⟨_, rfl⟩
      rw [← hS48] at h ⊢
      have hf39 : a0 ∈ gL S47 ∧ gK S47 a0 = 11 := by rw [hS48]; exact hf39
      have hf42 : b40 ∈ gL S47 ∧ gK S47 b40 = 12 := by rw [hS48]; exact hf42
      refine z_iinc (v := (l5 + 1)) (lv' := [(5, .int (l5 + 1)), (2, .int r38), (0, .ref a0), (1, .int l1), (3, .int l3), (4, .int l4)]) 5 dX11_writes_109 rfl rfl (Nat.le_of_ble_eq_true rfl) rfl ?_
      refine z_goto 44 dX11_writes_112 (by decide) ?_
      refine z_sub [2, 3, 1, 4, 5, 0] rfl ?_
      exact ih a0 l1 r38 l3 l4 (l5 + 1) S47 h
set_option maxRecDepth 20000 in
set_option maxHeartbeats 4000000 in
theorem w_X11_writes_L16 {E : zE} {K121 : zS → Prop} {Q : zS → Prop} {X : String → zS → Prop} (hK121 : ∀  (S : zS), K121  S → zJ E (RX11, cX11_writes, 6, none, false, [], zTr) ({ frames := 2, cells := 0, slots := 0, locals := 45 } : Room) (zq (qV Q)) (zx X) 121 [] [] [] S 0 0) : ∀ (m16 : Nat) (a0 : Nat) (l1 : Int32) (l2 : Int32) (l3 : Int32) (S : zS), p_X11_writes_L16 E K121 Q X m16 a0 l1 l2 l3 S → zJ E (RX11, cX11_writes, 6, none, false, [], zTr) ({ frames := 2, cells := 0, slots := 0, locals := 45 } : Room) (zq (qV Q)) (zx X) 16 [(0, .ref a0), (1, .int l1), (2, .int l2), (3, .int l3)] [] [] S 0 0 := by
  intro m16
  induction m16 with
  | zero => intro a0 l1 l2 l3 S h; exact (show False from h).elim
  | succ m16 ih =>
    intro a0 l1 l2 l3 S h
    unfold p_X11_writes_L16 at h
    refine z_iload_n 3 dX11_writes_16 rfl rfl ?_
    refine z_aload_n 0 dX11_writes_17 rfl rfl ?_
    obtain ⟨hf8, h⟩ := h
    refine z_getQ (c := 11) (j := 11) (f := 1111) hf8.1 hf8.2 (Nat.le_of_ble_eq_true rfl) rfl zU_X11 (Nat.le_of_ble_eq_true rfl) (Nat.le_of_ble_eq_true rfl) ⟨_, zw_1309, Or.inl rfl⟩ rfl rfl dX11_writes_18 ?_
    refine z_iload_n 1 dX11_writes_21 rfl rfl ?_
    obtain ⟨b9, hb10, h⟩ := h
    rw [show va_rf (gR S 1111 a0) = Value.ref b9 from by rw [hb10]; rfl]
    obtain ⟨hf11, h⟩ := h
    obtain ⟨j12, hj13, h⟩ := h
    refine z_iald (j := j12) hf11.1 hf11.2 hj13.1 hj13.2.1 hj13.2.2 dX11_writes_22 ?_
    refine z_icmp_ge 121 dX11_writes_23 (by decide) (fun c51 => ?_) (fun c51 => ?_)
    · have h := h.1 c51
      refine z_sub [] rfl ?_
      exact hK121 S h
    · have h := h.2 c51
      refine z_aload_n 0 dX11_writes_26 rfl rfl ?_
      refine z_getQ (c := 11) (j := 12) (f := 1112) hf8.1 hf8.2 (Nat.le_of_ble_eq_true rfl) rfl zU_X11 (Nat.le_of_ble_eq_true rfl) (Nat.le_of_ble_eq_true rfl) ⟨_, zw_1310, Or.inl rfl⟩ rfl rfl dX11_writes_27 ?_
      refine z_bipush (v := 20) dX11_writes_30 rfl ?_
      refine z_iload_n 1 dX11_writes_32 rfl rfl ?_
      refine z_imul dX11_writes_33 ?_
      refine z_iload_n 3 dX11_writes_34 rfl rfl ?_
      refine z_iadd dX11_writes_35 ?_
      obtain ⟨b14, hb15, h⟩ := h
      rw [show va_rf (gR S 1112 a0) = Value.ref b14 from by rw [hb15]; rfl]
      obtain ⟨hf16, h⟩ := h
      obtain ⟨j17, hj18, h⟩ := h
      refine z_iald (j := j17) hf16.1 hf16.2 hj18.1 hj18.2.1 hj18.2.2 dX11_writes_36 ?_
      refine z_iconst (v := 3) dX11_writes_37 rfl ?_
      refine z_idiv dX11_writes_38 (by decide) ?_
      refine z_istore (lv' := [(4, .int ((gA S b14 j17) / 3)), (0, .ref a0), (1, .int l1), (2, .int l2), (3, .int l3)]) dX11_writes_39 (Nat.le_of_ble_eq_true rfl) rfl ?_
      refine z_iconst (v := 0) dX11_writes_41 rfl ?_
      refine z_istore (lv' := [(5, .int 0), (4, .int ((gA S b14 j17) / 3)), (0, .ref a0), (1, .int l1), (2, .int l2), (3, .int l3)]) dX11_writes_42 (Nat.le_of_ble_eq_true rfl) rfl ?_
      obtain ⟨m44, h⟩ := h
      refine z_sub [2, 3, 4, 5, 1, 0] rfl ?_
      refine w_X11_writes_L44 (fun a0 l1 l2 l3 S h => ?_) m44 a0 l1 l2 l3 ((gA S b14 j17) / 3) 0 S h
      refine z_iinc (v := (l3 + 1)) (lv' := [(3, .int (l3 + 1)), (0, .ref a0), (1, .int l1), (2, .int l2)]) 3 dX11_writes_115 rfl rfl (Nat.le_of_ble_eq_true rfl) rfl ?_
      refine z_goto 16 dX11_writes_118 (by decide) ?_
      refine z_sub [1, 2, 3, 0] rfl ?_
      exact ih a0 l1 l2 (l3 + 1) S h
set_option maxRecDepth 20000 in
set_option maxHeartbeats 4000000 in
theorem w_X11_writes {E : zE} {a0 : Nat} {l1 : Int32} {S : zS} {Q : zS → Prop} {X : String → zS → Prop} (h : p_X11_writes E a0 l1 S Q X) : zM E yX11_writes cX11_writes 6 none ({ frames := 2, cells := 0, slots := 0, locals := 45 } : Room) [.ref a0, .int l1] S (qV Q) X := by
  unfold p_X11_writes at h
  refine zM_of RX11 false (by decide) rfl (fun h => by cases h) (Nat.le_of_ble_eq_true rfl) ?_
  refine z_aload_n 0 dX11_writes_0 rfl rfl ?_
  refine z_iconst (v := 0) dX11_writes_1 rfl ?_
  obtain ⟨hf1, h⟩ := h
  have h := h _ rfl
  refine z_putV (c := 11) (j := 13) (ty0 := tyX11) (S' := sI S 1113 a0 0) hf1.1 hf1.2 (Nat.le_of_ble_eq_true rfl) rfl zU_X11 tyX11_ok nmX11 (Nat.le_of_ble_eq_true rfl) (Nat.le_of_ble_eq_true rfl) ⟨_, zw_1311, Or.inl rfl⟩ (.inl rfl) rfl rfl rfl (zUpI (v := 0) hf1.2 (Nat.le_of_ble_eq_true rfl) (Nat.le_of_ble_eq_true rfl) rfl rfl) dX11_writes_2 ?_
  obtain ⟨S2, hS3⟩ : ∃ z, z = sI S 1113 a0 0 := ⟨_, rfl⟩
  rw [← hS3] at h ⊢
  have hf1 : a0 ∈ gL S2 ∧ gK S2 a0 = 11 := by rw [hS3]; exact hf1
  refine z_aload_n 0 dX11_writes_5 rfl rfl ?_
  refine z_iload_n 1 dX11_writes_6 rfl rfl ?_
  refine z_callVI (ci := 11) (st := []) (w_X11_stageOf h) hf1.1 hf1.2 (Nat.le_of_ble_eq_true rfl) rfl zw_1462 zw_1459 zw_1461 zw_31 zw_74 zy_X11_stageOf rfl rfl ⟨Nat.le_of_ble_eq_true rfl, Nat.le_of_ble_eq_true rfl⟩ ⟨(Nat.le_of_ble_eq_true rfl), (Nat.le_of_ble_eq_true rfl)⟩ (Nat.le_of_ble_eq_true rfl) dX11_writes_7 (fun _ _ hx => hx.elim) (fun r5 S4 h => ?_)
  refine z_widen (k' := 0) (n' := 0) (Nat.le_refl _) (Nat.le_refl _) ?_
  refine z_callSI (st := []) (w_X11_rounds h) zw_1481 zw_1479 zw_1480 zw_74 zy_X11_rounds rfl rfl ⟨Nat.le_of_ble_eq_true rfl, Nat.le_of_ble_eq_true rfl⟩ ⟨(Nat.le_of_ble_eq_true rfl), (Nat.le_of_ble_eq_true rfl)⟩ (Nat.le_of_ble_eq_true rfl) dX11_writes_10 (fun _ _ hx => hx.elim) (fun r7 S6 h => ?_)
  refine z_widen (k' := 0) (n' := 0) (Nat.le_refl _) (Nat.le_refl _) ?_
  refine z_istore_n (lv' := [(2, .int r7), (0, .ref a0), (1, .int l1)]) dX11_writes_13 rfl (Nat.le_of_ble_eq_true rfl) rfl ?_
  refine z_iconst (v := 0) dX11_writes_14 rfl ?_
  refine z_istore_n (lv' := [(3, .int 0), (2, .int r7), (0, .ref a0), (1, .int l1)]) dX11_writes_15 rfl (Nat.le_of_ble_eq_true rfl) rfl ?_
  obtain ⟨m16, h⟩ := h
  refine z_sub [2, 3, 1, 0] rfl ?_
  refine w_X11_writes_L16 (fun S h => ?_) m16 a0 l1 r7 0 S6 h
  exact z_return ⟨rfl, rfl, h⟩ rfl (Nat.le_of_ble_eq_true rfl) (Nat.le_of_ble_eq_true rfl) dX11_writes_121
set_option maxRecDepth 20000 in
set_option maxHeartbeats 4000000 in
theorem w_X11_repeat_L15 {E : zE} {K47 : Nat → Int32 → Int32 → zS → Prop} {Q : Int32 → zS → Prop} {X : String → zS → Prop} (hK47 : ∀ (a0 : Nat) (l1 : Int32) (l2 : Int32) (S : zS), K47 a0 l1 l2 S → zJ E (RX11, cX11_repeat, 4, (some .int), false, [], zTr) ({ frames := 0, cells := 0, slots := 0, locals := 0 } : Room) (zq (qI Q)) (zx X) 47 [(0, .ref a0), (1, .int l1), (2, .int l2)] [] [] S 0 0) : ∀ (m15 : Nat) (a0 : Nat) (l1 : Int32) (l2 : Int32) (l3 : Int32) (S : zS), p_X11_repeat_L15 E K47 Q X m15 a0 l1 l2 l3 S → zJ E (RX11, cX11_repeat, 4, (some .int), false, [], zTr) ({ frames := 0, cells := 0, slots := 0, locals := 0 } : Room) (zq (qI Q)) (zx X) 15 [(0, .ref a0), (1, .int l1), (2, .int l2), (3, .int l3)] [] [] S 0 0 := by
  intro m15
  induction m15 with
  | zero => intro a0 l1 l2 l3 S h; exact (show False from h).elim
  | succ m15 ih =>
    intro a0 l1 l2 l3 S h
    unfold p_X11_repeat_L15 at h
    refine z_iload_n 3 dX11_repeat_15 rfl rfl ?_
    refine z_iload_n 2 dX11_repeat_16 rfl rfl ?_
    refine z_icmp_ge 47 dX11_repeat_17 (by decide) (fun c14 => ?_) (fun c14 => ?_)
    · have h := h.1 c14
      refine z_sub [0, 1, 2] rfl ?_
      exact hK47 a0 l1 l2 S h
    · have h := h.2 c14
      refine z_aload_n 0 dX11_repeat_20 rfl rfl ?_
      obtain ⟨hf2, h⟩ := h
      refine z_getQ (c := 11) (j := 14) (f := 1114) hf2.1 hf2.2 (Nat.le_of_ble_eq_true rfl) rfl zU_X11 (Nat.le_of_ble_eq_true rfl) (Nat.le_of_ble_eq_true rfl) ⟨_, zw_1312, Or.inl rfl⟩ rfl rfl dX11_repeat_21 ?_
      refine z_iload_n 3 dX11_repeat_24 rfl rfl ?_
      obtain ⟨b3, hb4, h⟩ := h
      rw [show va_rf (gR S 1114 a0) = Value.ref b3 from by rw [hb4]; rfl]
      obtain ⟨hf5, h⟩ := h
      obtain ⟨j6, hj7, h⟩ := h
      refine z_iald (j := j6) hf5.1 hf5.2 hj7.1 hj7.2.1 hj7.2.2 dX11_repeat_25 ?_
      refine z_aload_n 0 dX11_repeat_26 rfl rfl ?_
      refine z_getQ (c := 11) (j := 14) (f := 1114) hf2.1 hf2.2 (Nat.le_of_ble_eq_true rfl) rfl zU_X11 (Nat.le_of_ble_eq_true rfl) (Nat.le_of_ble_eq_true rfl) ⟨_, zw_1312, Or.inl rfl⟩ rfl rfl dX11_repeat_27 ?_
      refine z_iload_n 2 dX11_repeat_30 rfl rfl ?_
      obtain ⟨b8, hb9, h⟩ := h
      rw [show va_rf (gR S 1114 a0) = Value.ref b8 from by rw [hb9]; rfl]
      obtain ⟨hf10, h⟩ := h
      obtain ⟨j11, hj12, h⟩ := h
      refine z_iald (j := j11) hf10.1 hf10.2 hj12.1 hj12.2.1 hj12.2.2 dX11_repeat_31 ?_
      refine z_icmp_ne 39 dX11_repeat_32 (by decide) (fun c13 => ?_) (fun c13 => ?_)
      · have h := h.1 c13
        refine z_iload_n 1 dX11_repeat_39 rfl rfl ?_
        refine z_istore_n (lv' := [(1, .int l1), (0, .ref a0), (2, .int l2), (3, .int l3)]) dX11_repeat_40 rfl (Nat.le_of_ble_eq_true rfl) rfl ?_
        refine z_iinc (v := (l3 + 1)) (lv' := [(3, .int (l3 + 1)), (1, .int l1), (0, .ref a0), (2, .int l2)]) 3 dX11_repeat_41 rfl rfl (Nat.le_of_ble_eq_true rfl) rfl ?_
        refine z_goto 15 dX11_repeat_44 (by decide) ?_
        refine z_sub [2, 1, 3, 0] rfl ?_
        exact ih a0 l1 l2 (l3 + 1) S h
      · have h := h.2 c13
        refine z_iload_n 2 dX11_repeat_35 rfl rfl ?_
        refine z_goto 40 dX11_repeat_36 (by decide) ?_
        refine z_istore_n (lv' := [(1, .int l2), (0, .ref a0), (2, .int l2), (3, .int l3)]) dX11_repeat_40 rfl (Nat.le_of_ble_eq_true rfl) rfl ?_
        refine z_iinc (v := (l3 + 1)) (lv' := [(3, .int (l3 + 1)), (1, .int l2), (0, .ref a0), (2, .int l2)]) 3 dX11_repeat_41 rfl rfl (Nat.le_of_ble_eq_true rfl) rfl ?_
        refine z_goto 15 dX11_repeat_44 (by decide) ?_
        refine z_sub [2, 1, 3, 0] rfl ?_
        exact ih a0 l2 l2 (l3 + 1) S h
set_option maxRecDepth 20000 in
set_option maxHeartbeats 4000000 in
theorem w_X11_repeat_L9 {E : zE} {K53 : Int32 → zS → Prop} {Q : Int32 → zS → Prop} {X : String → zS → Prop} (hK53 : ∀ (l1 : Int32) (S : zS), K53 l1 S → zJ E (RX11, cX11_repeat, 4, (some .int), false, [], zTr) ({ frames := 0, cells := 0, slots := 0, locals := 0 } : Room) (zq (qI Q)) (zx X) 53 [(1, .int l1)] [] [] S 0 0) : ∀ (m9 : Nat) (a0 : Nat) (l1 : Int32) (l2 : Int32) (S : zS), p_X11_repeat_L9 E K53 Q X m9 a0 l1 l2 S → zJ E (RX11, cX11_repeat, 4, (some .int), false, [], zTr) ({ frames := 0, cells := 0, slots := 0, locals := 0 } : Room) (zq (qI Q)) (zx X) 9 [(0, .ref a0), (1, .int l1), (2, .int l2)] [] [] S 0 0 := by
  intro m9
  induction m9 with
  | zero => intro a0 l1 l2 S h; exact (show False from h).elim
  | succ m9 ih =>
    intro a0 l1 l2 S h
    unfold p_X11_repeat_L9 at h
    refine z_iload_n 2 dX11_repeat_9 rfl rfl ?_
    refine z_if_le 53 dX11_repeat_10 (by decide) (fun c15 => ?_) (fun c15 => ?_)
    · have h := h.1 c15
      refine z_sub [1] rfl ?_
      exact hK53 l1 S h
    · have h := h.2 c15
      refine z_iconst (v := 0) dX11_repeat_13 rfl ?_
      refine z_istore_n (lv' := [(3, .int 0), (0, .ref a0), (1, .int l1), (2, .int l2)]) dX11_repeat_14 rfl (Nat.le_of_ble_eq_true rfl) rfl ?_
      obtain ⟨m15, h⟩ := h
      refine z_sub [1, 2, 3, 0] rfl ?_
      refine w_X11_repeat_L15 (fun a0 l1 l2 S h => ?_) m15 a0 l1 l2 0 S h
      refine z_iinc (v := (l2 + (-1))) (lv' := [(2, .int (l2 + (-1))), (0, .ref a0), (1, .int l1)]) 2 dX11_repeat_47 rfl rfl (Nat.le_of_ble_eq_true rfl) rfl ?_
      refine z_goto 9 dX11_repeat_50 (by decide) ?_
      refine z_sub [1, 2, 0] rfl ?_
      exact ih a0 l1 (l2 + (-1)) S h
set_option maxRecDepth 20000 in
set_option maxHeartbeats 4000000 in
theorem w_X11_repeat {E : zE} {a0 : Nat} {S : zS} {Q : Int32 → zS → Prop} {X : String → zS → Prop} (h : p_X11_repeat E a0 S Q X) : zM E yX11_repeat cX11_repeat 4 (some .int) ({ frames := 0, cells := 0, slots := 0, locals := 0 } : Room) [.ref a0] S (qI Q) X := by
  unfold p_X11_repeat at h
  refine zM_of RX11 false (by decide) rfl (fun h => by cases h) (Nat.le_of_ble_eq_true rfl) ?_
  refine z_iconst (v := (-1)) dX11_repeat_0 rfl ?_
  refine z_istore_n (lv' := [(1, .int (-1)), (0, .ref a0)]) dX11_repeat_1 rfl (Nat.le_of_ble_eq_true rfl) rfl ?_
  refine z_aload_n 1 dX11_repeat_2 rfl rfl ?_
  obtain ⟨hf1, h⟩ := h
  refine z_getI (c := 11) (j := 13) (f := 1113) hf1.1 hf1.2 (Nat.le_of_ble_eq_true rfl) rfl zU_X11 (Nat.le_of_ble_eq_true rfl) (Nat.le_of_ble_eq_true rfl) ⟨_, zw_1311, Or.inl rfl⟩ rfl rfl dX11_repeat_3 ?_
  refine z_iconst (v := 1) dX11_repeat_6 rfl ?_
  refine z_isub dX11_repeat_7 ?_
  refine z_istore_n (lv' := [(2, .int ((gI S 1113 a0) - 1)), (1, .int (-1)), (0, .ref a0)]) dX11_repeat_8 rfl (Nat.le_of_ble_eq_true rfl) rfl ?_
  obtain ⟨m9, h⟩ := h
  refine z_sub [2, 1, 0] rfl ?_
  refine w_X11_repeat_L9 (fun l1 S h => ?_) m9 a0 (-1) ((gI S 1113 a0) - 1) S h
  refine z_iload_n 0 dX11_repeat_53 rfl rfl ?_
  exact z_ireturn ⟨rfl, _, rfl, h⟩ rfl (Nat.le_of_ble_eq_true rfl) (Nat.le_of_ble_eq_true rfl) dX11_repeat_54
set_option maxRecDepth 20000 in
set_option maxHeartbeats 4000000 in
theorem w_X11_isSound {E : zE} {a0 : Nat} {l1 : Int32} {S : zS} {Q : Int32 → zS → Prop} {X : String → zS → Prop} (h : p_X11_isSound E a0 l1 S Q X) : zM E yX11_isSound cX11_isSound 2 (some .boolean) ({ frames := 3, cells := 0, slots := 0, locals := 70 } : Room) [.ref a0, .int l1] S (qI Q) X := by
  unfold p_X11_isSound at h
  refine zM_of RX11 false (by decide) rfl (fun h => by cases h) (Nat.le_of_ble_eq_true rfl) ?_
  refine z_aload_n 0 dX11_isSound_0 rfl rfl ?_
  refine z_iload_n 1 dX11_isSound_1 rfl rfl ?_
  obtain ⟨hf21, h⟩ := h
  refine z_callVV (ci := 11) (st := []) (w_X11_writes h) hf21.1 hf21.2 (Nat.le_of_ble_eq_true rfl) rfl zw_1478 zw_1475 zw_1477 zw_35 zw_74 zy_X11_writes rfl rfl ⟨Nat.le_of_ble_eq_true rfl, Nat.le_of_ble_eq_true rfl⟩ ⟨(Nat.le_of_ble_eq_true rfl), (Nat.le_of_ble_eq_true rfl)⟩ (Nat.le_of_ble_eq_true rfl) dX11_isSound_2 (fun _ _ hx => hx.elim) (fun S1 h => ?_)
  refine z_widen (k' := 0) (n' := 0) (Nat.le_refl _) (Nat.le_refl _) ?_
  refine z_aload_n 0 dX11_isSound_5 rfl rfl ?_
  obtain ⟨hf3, h⟩ := h
  refine z_getQ (c := 11) (j := 14) (f := 1114) hf3.1 hf3.2 (Nat.le_of_ble_eq_true rfl) rfl zU_X11 (Nat.le_of_ble_eq_true rfl) (Nat.le_of_ble_eq_true rfl) ⟨_, zw_1312, Or.inl rfl⟩ rfl rfl dX11_isSound_6 ?_
  refine z_aload_n 0 dX11_isSound_9 rfl rfl ?_
  refine z_getI (c := 11) (j := 13) (f := 1113) hf3.1 hf3.2 (Nat.le_of_ble_eq_true rfl) rfl zU_X11 (Nat.le_of_ble_eq_true rfl) (Nat.le_of_ble_eq_true rfl) ⟨_, zw_1311, Or.inl rfl⟩ rfl rfl dX11_isSound_10 ?_
  refine z_iconst (v := 1) dX11_isSound_13 rfl ?_
  refine z_isub dX11_isSound_14 ?_
  obtain ⟨b4, hb5, h⟩ := h
  rw [show va_rf (gR S1 1114 a0) = Value.ref b4 from by rw [hb5]; rfl]
  obtain ⟨hf6, h⟩ := h
  obtain ⟨j7, hj8, h⟩ := h
  refine z_iald (j := j7) hf6.1 hf6.2 hj8.1 hj8.2.1 hj8.2.2 dX11_isSound_15 ?_
  refine z_aload_n 0 dX11_isSound_16 rfl rfl ?_
  refine z_iload_n 1 dX11_isSound_17 rfl rfl ?_
  refine z_callVI (ci := 11) (st := [.int (gA S1 b4 j7)]) (w_X11_stageOf h) hf3.1 hf3.2 (Nat.le_of_ble_eq_true rfl) rfl zw_1462 zw_1459 zw_1461 zw_31 zw_74 zy_X11_stageOf rfl rfl ⟨Nat.le_of_ble_eq_true rfl, Nat.le_of_ble_eq_true rfl⟩ ⟨(Nat.le_of_ble_eq_true rfl), (Nat.le_of_ble_eq_true rfl)⟩ (Nat.le_of_ble_eq_true rfl) dX11_isSound_18 (fun _ _ hx => hx.elim) (fun r10 S9 h => ?_)
  refine z_widen (k' := 0) (n' := 0) (Nat.le_refl _) (Nat.le_refl _) ?_
  refine z_callSI (st := [.int (gA S1 b4 j7)]) (w_X11_rounds h) zw_1481 zw_1479 zw_1480 zw_74 zy_X11_rounds rfl rfl ⟨Nat.le_of_ble_eq_true rfl, Nat.le_of_ble_eq_true rfl⟩ ⟨(Nat.le_of_ble_eq_true rfl), (Nat.le_of_ble_eq_true rfl)⟩ (Nat.le_of_ble_eq_true rfl) dX11_isSound_21 (fun _ _ hx => hx.elim) (fun r12 S11 h => ?_)
  refine z_widen (k' := 0) (n' := 0) (Nat.le_refl _) (Nat.le_refl _) ?_
  refine z_icmp_ne 39 dX11_isSound_24 (by decide) (fun c20 => ?_) (fun c20 => ?_)
  · have h := h.1 c20
    refine z_iconst (v := 0) dX11_isSound_39 rfl ?_
    obtain ⟨hz13, h⟩ := h
    exact z_zreturn ⟨rfl, _, rfl, h⟩ rfl (zbn hz13) (Nat.le_of_ble_eq_true rfl) (Nat.le_of_ble_eq_true rfl) dX11_isSound_40
  · have h := h.2 c20
    refine z_aload_n 0 dX11_isSound_27 rfl rfl ?_
    obtain ⟨hf19, h⟩ := h
    refine z_callVI (ci := 11) (st := []) (w_X11_repeat h) hf19.1 hf19.2 (Nat.le_of_ble_eq_true rfl) rfl zw_1495 zw_1492 zw_1494 zw_37 zw_74 zy_X11_repeat rfl rfl ⟨Nat.le_of_ble_eq_true rfl, Nat.le_of_ble_eq_true rfl⟩ ⟨(Nat.le_of_ble_eq_true rfl), (Nat.le_of_ble_eq_true rfl)⟩ (Nat.le_of_ble_eq_true rfl) dX11_isSound_28 (fun _ _ hx => hx.elim) (fun r15 S14 h => ?_)
    refine z_widen (k' := 0) (n' := 0) (Nat.le_refl _) (Nat.le_refl _) ?_
    refine z_iconst (v := (-1)) dX11_isSound_31 rfl ?_
    refine z_icmp_ne 39 dX11_isSound_32 (by decide) (fun c18 => ?_) (fun c18 => ?_)
    · have h := h.1 c18
      refine z_iconst (v := 0) dX11_isSound_39 rfl ?_
      obtain ⟨hz16, h⟩ := h
      exact z_zreturn ⟨rfl, _, rfl, h⟩ rfl (zbn hz16) (Nat.le_of_ble_eq_true rfl) (Nat.le_of_ble_eq_true rfl) dX11_isSound_40
    · have h := h.2 c18
      refine z_iconst (v := 1) dX11_isSound_35 rfl ?_
      refine z_goto 40 dX11_isSound_36 (by decide) ?_
      obtain ⟨hz17, h⟩ := h
      exact z_zreturn ⟨rfl, _, rfl, h⟩ rfl (zbn hz17) (Nat.le_of_ble_eq_true rfl) (Nat.le_of_ble_eq_true rfl) dX11_isSound_40
set_option maxRecDepth 20000 in
set_option maxHeartbeats 4000000 in
theorem w_X11_takesPlan_L16 {E : zE} {K50 : zS → Prop} {Q : zS → Prop} {X : String → zS → Prop} (hK50 : ∀  (S : zS), K50  S → zJ E (RX11, cX11_takesPlan, 4, none, false, [], zTr) ({ frames := 0, cells := 0, slots := 0, locals := 0 } : Room) (zq (qV Q)) (zx X) 50 [] [] [] S 0 0) : ∀ (m16 : Nat) (a0 : Nat) (l1 : Int32) (l3 : Int32) (S : zS), p_X11_takesPlan_L16 E K50 Q X m16 a0 l1 l3 S → zJ E (RX11, cX11_takesPlan, 4, none, false, [], zTr) ({ frames := 0, cells := 0, slots := 0, locals := 0 } : Room) (zq (qV Q)) (zx X) 16 [(0, .ref a0), (1, .int l1), (3, .int l3)] [] [] S 0 0 := by
  intro m16
  induction m16 with
  | zero => intro a0 l1 l3 S h; exact (show False from h).elim
  | succ m16 ih =>
    intro a0 l1 l3 S h
    unfold p_X11_takesPlan_L16 at h
    refine z_iload_n 2 dX11_takesPlan_16 rfl rfl ?_
    refine z_iconst (v := 4) dX11_takesPlan_17 rfl ?_
    refine z_iload_n 1 dX11_takesPlan_18 rfl rfl ?_
    refine z_imul dX11_takesPlan_19 ?_
    refine z_aload_n 0 dX11_takesPlan_20 rfl rfl ?_
    obtain ⟨hf11, h⟩ := h
    refine z_getQ (c := 11) (j := 21) (f := 1121) hf11.1 hf11.2 (Nat.le_of_ble_eq_true rfl) rfl zU_X11 (Nat.le_of_ble_eq_true rfl) (Nat.le_of_ble_eq_true rfl) ⟨_, zw_1319, Or.inl rfl⟩ rfl rfl dX11_takesPlan_21 ?_
    refine z_iload_n 1 dX11_takesPlan_24 rfl rfl ?_
    obtain ⟨b12, hb13, h⟩ := h
    rw [show va_rf (gR S 1121 a0) = Value.ref b12 from by rw [hb13]; rfl]
    obtain ⟨hf14, h⟩ := h
    obtain ⟨j15, hj16, h⟩ := h
    refine z_iald (j := j15) hf14.1 hf14.2 hj16.1 hj16.2.1 hj16.2.2 dX11_takesPlan_25 ?_
    refine z_iadd dX11_takesPlan_26 ?_
    refine z_icmp_ge 50 dX11_takesPlan_27 (by decide) (fun c27 => ?_) (fun c27 => ?_)
    · have h := h.1 c27
      refine z_sub [] rfl ?_
      exact hK50 S h
    · have h := h.2 c27
      refine z_aload_n 0 dX11_takesPlan_30 rfl rfl ?_
      refine z_getQ (c := 11) (j := 22) (f := 1122) hf11.1 hf11.2 (Nat.le_of_ble_eq_true rfl) rfl zU_X11 (Nat.le_of_ble_eq_true rfl) (Nat.le_of_ble_eq_true rfl) ⟨_, zw_1320, Or.inl rfl⟩ rfl rfl dX11_takesPlan_31 ?_
      refine z_iload_n 2 dX11_takesPlan_34 rfl rfl ?_
      refine z_aload_n 0 dX11_takesPlan_35 rfl rfl ?_
      refine z_getQ (c := 11) (j := 22) (f := 1122) hf11.1 hf11.2 (Nat.le_of_ble_eq_true rfl) rfl zU_X11 (Nat.le_of_ble_eq_true rfl) (Nat.le_of_ble_eq_true rfl) ⟨_, zw_1320, Or.inl rfl⟩ rfl rfl dX11_takesPlan_36 ?_
      refine z_iload_n 2 dX11_takesPlan_39 rfl rfl ?_
      refine z_iconst (v := 1) dX11_takesPlan_40 rfl ?_
      refine z_iadd dX11_takesPlan_41 ?_
      obtain ⟨b17, hb18, h⟩ := h
      rw [show va_rf (gR S 1122 a0) = Value.ref b17 from by rw [hb18]; rfl]
      obtain ⟨hf19, h⟩ := h
      obtain ⟨j20, hj21, h⟩ := h
      refine z_iald (j := j20) hf19.1 hf19.2 hj21.1 hj21.2.1 hj21.2.2 dX11_takesPlan_42 ?_
      obtain ⟨j22, hj23, h⟩ := h
      have h := h _ rfl
      refine z_iast (j := j22) hf19.1 hf19.2 hj23.1 hj23.2.1 hj23.2.2 dX11_takesPlan_43 ?_
      obtain ⟨S24, hS25⟩ : ∃ z, z = sA S b17 j22 (gA S b17 j20) := ⟨_, rfl⟩
      rw [← hS25] at h ⊢
      have hf11 : a0 ∈ gL S24 ∧ gK S24 a0 = 11 := by rw [hS25]; exact hf11
      have hf14 : b12 ∈ gL S24 ∧ gK S24 b12 = 12 := by rw [hS25]; exact hf14
      have hf19 : b17 ∈ gL S24 ∧ gK S24 b17 = 12 := by rw [hS25]; exact hf19
      refine z_iinc (v := (l3 + 1)) (lv' := [(3, .int (l3 + 1)), (0, .ref a0), (1, .int l1)]) 2 dX11_takesPlan_44 rfl rfl (Nat.le_of_ble_eq_true rfl) rfl ?_
      refine z_goto 16 dX11_takesPlan_47 (by decide) ?_
      refine z_sub [1, 2, 0] rfl ?_
      exact ih a0 l1 (l3 + 1) S24 h
set_option maxRecDepth 20000 in
set_option maxHeartbeats 4000000 in
theorem w_X11_takesPlan {E : zE} {a0 : Nat} {l1 : Int32} {l2 : Int32} {S : zS} {Q : zS → Prop} {X : String → zS → Prop} (h : p_X11_takesPlan E a0 l1 l2 S Q X) : zM E yX11_takesPlan cX11_takesPlan 4 none ({ frames := 0, cells := 0, slots := 0, locals := 0 } : Room) [.ref a0, .int l1, .int l2] S (qV Q) X := by
  unfold p_X11_takesPlan at h
  refine zM_of RX11 false (by decide) rfl (fun h => by cases h) (Nat.le_of_ble_eq_true rfl) ?_
  refine z_aload_n 0 dX11_takesPlan_0 rfl rfl ?_
  obtain ⟨hf1, h⟩ := h
  refine z_getQ (c := 11) (j := 21) (f := 1121) hf1.1 hf1.2 (Nat.le_of_ble_eq_true rfl) rfl zU_X11 (Nat.le_of_ble_eq_true rfl) (Nat.le_of_ble_eq_true rfl) ⟨_, zw_1319, Or.inl rfl⟩ rfl rfl dX11_takesPlan_1 ?_
  refine z_iload_n 1 dX11_takesPlan_4 rfl rfl ?_
  refine z_dup2 dX11_takesPlan_5 rfl (zcat _) ?_
  obtain ⟨b2, hb3, h⟩ := h
  rw [show va_rf (gR S 1121 a0) = Value.ref b2 from by rw [hb3]; rfl]
  obtain ⟨hf4, h⟩ := h
  obtain ⟨j5, hj6, h⟩ := h
  refine z_iald (j := j5) hf4.1 hf4.2 hj6.1 hj6.2.1 hj6.2.2 dX11_takesPlan_6 ?_
  refine z_iconst (v := 1) dX11_takesPlan_7 rfl ?_
  refine z_isub dX11_takesPlan_8 ?_
  obtain ⟨j7, hj8, h⟩ := h
  have h := h _ rfl
  refine z_iast (j := j7) hf4.1 hf4.2 hj8.1 hj8.2.1 hj8.2.2 dX11_takesPlan_9 ?_
  obtain ⟨S9, hS10⟩ : ∃ z, z = sA S b2 j7 ((gA S b2 j5) - 1) := ⟨_, rfl⟩
  rw [← hS10] at h ⊢
  have hf1 : a0 ∈ gL S9 ∧ gK S9 a0 = 11 := by rw [hS10]; exact hf1
  have hf4 : b2 ∈ gL S9 ∧ gK S9 b2 = 12 := by rw [hS10]; exact hf4
  refine z_iconst (v := 4) dX11_takesPlan_10 rfl ?_
  refine z_iload_n 1 dX11_takesPlan_11 rfl rfl ?_
  refine z_imul dX11_takesPlan_12 ?_
  refine z_iload_n 2 dX11_takesPlan_13 rfl rfl ?_
  refine z_iadd dX11_takesPlan_14 ?_
  refine z_istore_n (lv' := [(3, .int ((4 * l1) + l2)), (0, .ref a0), (1, .int l1), (2, .int l2)]) dX11_takesPlan_15 rfl (Nat.le_of_ble_eq_true rfl) rfl ?_
  obtain ⟨m16, h⟩ := h
  refine z_sub [1, 2, 0] rfl ?_
  refine w_X11_takesPlan_L16 (fun S h => ?_) m16 a0 l1 ((4 * l1) + l2) S9 h
  exact z_return ⟨rfl, rfl, h⟩ rfl (Nat.le_of_ble_eq_true rfl) (Nat.le_of_ble_eq_true rfl) dX11_takesPlan_50
set_option maxRecDepth 20000 in
set_option maxHeartbeats 4000000 in
theorem w_X11_drops_L22 {E : zE} {K75 : Nat → Int32 → Int32 → zS → Prop} {Q : Int32 → zS → Prop} {X : String → zS → Prop} (hK75 : ∀ (a0 : Nat) (l1 : Int32) (l2 : Int32) (S : zS), K75 a0 l1 l2 S → zJ E (RX11, cX11_drops, 5, (some .int), false, [], zTr) ({ frames := 4, cells := 0, slots := 0, locals := 91 } : Room) (zq (qI Q)) (zx X) 75 [(0, .ref a0), (1, .int l1), (2, .int l2)] [] [] S 0 0) : ∀ (m22 : Nat) (a0 : Nat) (l1 : Int32) (l2 : Int32) (l3 : Int32) (S : zS), p_X11_drops_L22 E K75 Q X m22 a0 l1 l2 l3 S → zJ E (RX11, cX11_drops, 5, (some .int), false, [], zTr) ({ frames := 4, cells := 0, slots := 0, locals := 91 } : Room) (zq (qI Q)) (zx X) 22 [(0, .ref a0), (1, .int l1), (2, .int l2), (3, .int l3)] [] [] S 0 0 := by
  intro m22
  induction m22 with
  | zero => intro a0 l1 l2 l3 S h; exact (show False from h).elim
  | succ m22 ih =>
    intro a0 l1 l2 l3 S h
    unfold p_X11_drops_L22 at h
    refine z_iload_n 3 dX11_drops_22 rfl rfl ?_
    refine z_if_lt 75 dX11_drops_23 (by decide) (fun c30 => ?_) (fun c30 => ?_)
    · have h := h.1 c30
      refine z_sub [0, 1, 2] rfl ?_
      exact hK75 a0 l1 l2 S h
    · have h := h.2 c30
      refine z_aload_n 0 dX11_drops_26 rfl rfl ?_
      obtain ⟨hf8, h⟩ := h
      refine z_getQ (c := 11) (j := 22) (f := 1122) hf8.1 hf8.2 (Nat.le_of_ble_eq_true rfl) rfl zU_X11 (Nat.le_of_ble_eq_true rfl) (Nat.le_of_ble_eq_true rfl) ⟨_, zw_1320, Or.inl rfl⟩ rfl rfl dX11_drops_27 ?_
      refine z_iconst (v := 4) dX11_drops_30 rfl ?_
      refine z_iload_n 2 dX11_drops_31 rfl rfl ?_
      refine z_imul dX11_drops_32 ?_
      refine z_iload_n 3 dX11_drops_33 rfl rfl ?_
      refine z_iadd dX11_drops_34 ?_
      obtain ⟨b9, hb10, h⟩ := h
      rw [show va_rf (gR S 1122 a0) = Value.ref b9 from by rw [hb10]; rfl]
      obtain ⟨hf11, h⟩ := h
      obtain ⟨j12, hj13, h⟩ := h
      refine z_iald (j := j12) hf11.1 hf11.2 hj13.1 hj13.2.1 hj13.2.2 dX11_drops_35 ?_
      refine z_istore (lv' := [(4, .int (gA S b9 j12)), (0, .ref a0), (1, .int l1), (2, .int l2), (3, .int l3)]) dX11_drops_36 (Nat.le_of_ble_eq_true rfl) rfl ?_
      refine z_aload_n 1 dX11_drops_38 rfl rfl ?_
      refine z_aload_n 1 dX11_drops_39 rfl rfl ?_
      refine z_iload 0 dX11_drops_40 rfl ?_
      refine z_callVI (ci := 11) (st := [.ref a0]) (w_X11_stageOf h) hf8.1 hf8.2 (Nat.le_of_ble_eq_true rfl) rfl zw_1462 zw_1459 zw_1461 zw_31 zw_74 zy_X11_stageOf rfl rfl ⟨Nat.le_of_ble_eq_true rfl, Nat.le_of_ble_eq_true rfl⟩ ⟨(Nat.le_of_ble_eq_true rfl), (Nat.le_of_ble_eq_true rfl)⟩ (Nat.le_of_ble_eq_true rfl) dX11_drops_42 (fun _ _ hx => hx.elim) (fun r15 S14 h => ?_)
      refine z_widen (k' := 0) (n' := 0) (Nat.le_refl _) (Nat.le_refl _) ?_
      obtain ⟨hf29, h⟩ := h
      refine z_callVI (ci := 11) (st := []) (w_X11_areIn h) hf29.1 hf29.2 (Nat.le_of_ble_eq_true rfl) rfl zw_1466 zw_1463 zw_1465 zw_32 zw_74 zy_X11_areIn rfl rfl ⟨Nat.le_of_ble_eq_true rfl, Nat.le_of_ble_eq_true rfl⟩ ⟨(Nat.le_of_ble_eq_true rfl), (Nat.le_of_ble_eq_true rfl)⟩ (Nat.le_of_ble_eq_true rfl) dX11_drops_45 (fun _ _ hx => hx.elim) (fun r17 S16 h => ?_)
      refine z_widen (k' := 0) (n' := 0) (Nat.le_refl _) (Nat.le_refl _) ?_
      refine z_if_eq 60 dX11_drops_48 (by decide) (fun c28 => ?_) (fun c28 => ?_)
      · have h := h.1 c28
        refine z_aload_n 1 dX11_drops_60 rfl rfl ?_
        refine z_iload_n 3 dX11_drops_61 rfl rfl ?_
        refine z_iload_n 4 dX11_drops_62 rfl rfl ?_
        obtain ⟨hf20, h⟩ := h
        refine z_callVV (ci := 11) (st := []) (w_X11_takesPlan h) hf20.1 hf20.2 (Nat.le_of_ble_eq_true rfl) rfl zw_1499 zw_1496 zw_1498 zw_38 zw_74 zy_X11_takesPlan rfl rfl ⟨Nat.le_of_ble_eq_true rfl, Nat.le_of_ble_eq_true rfl⟩ ⟨(Nat.le_of_ble_eq_true rfl), (Nat.le_of_ble_eq_true rfl)⟩ (Nat.le_of_ble_eq_true rfl) dX11_drops_63 (fun _ _ hx => hx.elim) (fun S18 h => ?_)
        refine z_widen (k' := 0) (n' := 0) (Nat.le_refl _) (Nat.le_refl _) ?_
        refine z_iinc (v := (l1 + 1)) (lv' := [(1, .int (l1 + 1)), (4, .int (gA S b9 j12)), (0, .ref a0), (2, .int l2), (3, .int l3)]) 2 dX11_drops_66 rfl rfl (Nat.le_of_ble_eq_true rfl) rfl ?_
        refine z_iinc (v := (l3 + (-1))) (lv' := [(3, .int (l3 + (-1))), (1, .int (l1 + 1)), (4, .int (gA S b9 j12)), (0, .ref a0), (2, .int l2)]) 4 dX11_drops_69 rfl rfl (Nat.le_of_ble_eq_true rfl) rfl ?_
        refine z_goto 22 dX11_drops_72 (by decide) ?_
        refine z_sub [3, 1, 4, 0] rfl ?_
        exact ih a0 (l1 + 1) l2 (l3 + (-1)) S18 h
      · have h := h.2 c28
        refine z_aload_n 1 dX11_drops_51 rfl rfl ?_
        refine z_iload 0 dX11_drops_52 rfl ?_
        obtain ⟨hf27, h⟩ := h
        refine z_callVI (ci := 11) (st := []) (w_X11_isSound h) hf27.1 hf27.2 (Nat.le_of_ble_eq_true rfl) rfl zw_1474 zw_1471 zw_1473 zw_34 zw_74 zy_X11_isSound rfl rfl ⟨Nat.le_of_ble_eq_true rfl, Nat.le_of_ble_eq_true rfl⟩ ⟨(Nat.le_of_ble_eq_true rfl), (Nat.le_of_ble_eq_true rfl)⟩ (Nat.le_of_ble_eq_true rfl) dX11_drops_54 (fun _ _ hx => hx.elim) (fun r22 S21 h => ?_)
        refine z_widen (k' := 0) (n' := 0) (Nat.le_refl _) (Nat.le_refl _) ?_
        refine z_if_ne 69 dX11_drops_57 (by decide) (fun c26 => ?_) (fun c26 => ?_)
        · have h := h.1 c26
          refine z_iinc (v := (l3 + (-1))) (lv' := [(3, .int (l3 + (-1))), (4, .int (gA S b9 j12)), (0, .ref a0), (1, .int l1), (2, .int l2)]) 4 dX11_drops_69 rfl rfl (Nat.le_of_ble_eq_true rfl) rfl ?_
          refine z_goto 22 dX11_drops_72 (by decide) ?_
          refine z_sub [2, 3, 4, 0] rfl ?_
          exact ih a0 l1 l2 (l3 + (-1)) S21 h
        · have h := h.2 c26
          refine z_aload_n 1 dX11_drops_60 rfl rfl ?_
          refine z_iload_n 3 dX11_drops_61 rfl rfl ?_
          refine z_iload_n 4 dX11_drops_62 rfl rfl ?_
          obtain ⟨hf25, h⟩ := h
          refine z_callVV (ci := 11) (st := []) (w_X11_takesPlan h) hf25.1 hf25.2 (Nat.le_of_ble_eq_true rfl) rfl zw_1499 zw_1496 zw_1498 zw_38 zw_74 zy_X11_takesPlan rfl rfl ⟨Nat.le_of_ble_eq_true rfl, Nat.le_of_ble_eq_true rfl⟩ ⟨(Nat.le_of_ble_eq_true rfl), (Nat.le_of_ble_eq_true rfl)⟩ (Nat.le_of_ble_eq_true rfl) dX11_drops_63 (fun _ _ hx => hx.elim) (fun S23 h => ?_)
          refine z_widen (k' := 0) (n' := 0) (Nat.le_refl _) (Nat.le_refl _) ?_
          refine z_iinc (v := (l1 + 1)) (lv' := [(1, .int (l1 + 1)), (4, .int (gA S b9 j12)), (0, .ref a0), (2, .int l2), (3, .int l3)]) 2 dX11_drops_66 rfl rfl (Nat.le_of_ble_eq_true rfl) rfl ?_
          refine z_iinc (v := (l3 + (-1))) (lv' := [(3, .int (l3 + (-1))), (1, .int (l1 + 1)), (4, .int (gA S b9 j12)), (0, .ref a0), (2, .int l2)]) 4 dX11_drops_69 rfl rfl (Nat.le_of_ble_eq_true rfl) rfl ?_
          refine z_goto 22 dX11_drops_72 (by decide) ?_
          refine z_sub [3, 1, 4, 0] rfl ?_
          exact ih a0 (l1 + 1) l2 (l3 + (-1)) S23 h
set_option maxRecDepth 20000 in
set_option maxHeartbeats 4000000 in
theorem w_X11_drops_L7 {E : zE} {K81 : Nat → Int32 → zS → Prop} {Q : Int32 → zS → Prop} {X : String → zS → Prop} (hK81 : ∀ (a0 : Nat) (l1 : Int32) (S : zS), K81 a0 l1 S → zJ E (RX11, cX11_drops, 5, (some .int), false, [], zTr) ({ frames := 4, cells := 0, slots := 0, locals := 91 } : Room) (zq (qI Q)) (zx X) 81 [(0, .ref a0), (1, .int l1)] [] [] S 0 0) : ∀ (m7 : Nat) (a0 : Nat) (l1 : Int32) (l2 : Int32) (S : zS), p_X11_drops_L7 E K81 Q X m7 a0 l1 l2 S → zJ E (RX11, cX11_drops, 5, (some .int), false, [], zTr) ({ frames := 4, cells := 0, slots := 0, locals := 91 } : Room) (zq (qI Q)) (zx X) 7 [(0, .ref a0), (1, .int l1), (2, .int l2)] [] [] S 0 0 := by
  intro m7
  induction m7 with
  | zero => intro a0 l1 l2 S h; exact (show False from h).elim
  | succ m7 ih =>
    intro a0 l1 l2 S h
    unfold p_X11_drops_L7 at h
    refine z_iload_n 2 dX11_drops_7 rfl rfl ?_
    refine z_bipush (v := 60) dX11_drops_8 rfl ?_
    refine z_icmp_gt 81 dX11_drops_10 (by decide) (fun c31 => ?_) (fun c31 => ?_)
    · have h := h.1 c31
      refine z_sub [0, 1] rfl ?_
      exact hK81 a0 l1 S h
    · have h := h.2 c31
      refine z_aload_n 0 dX11_drops_13 rfl rfl ?_
      obtain ⟨hf2, h⟩ := h
      refine z_getQ (c := 11) (j := 21) (f := 1121) hf2.1 hf2.2 (Nat.le_of_ble_eq_true rfl) rfl zU_X11 (Nat.le_of_ble_eq_true rfl) (Nat.le_of_ble_eq_true rfl) ⟨_, zw_1319, Or.inl rfl⟩ rfl rfl dX11_drops_14 ?_
      refine z_iload_n 2 dX11_drops_17 rfl rfl ?_
      obtain ⟨b3, hb4, h⟩ := h
      rw [show va_rf (gR S 1121 a0) = Value.ref b3 from by rw [hb4]; rfl]
      obtain ⟨hf5, h⟩ := h
      obtain ⟨j6, hj7, h⟩ := h
      refine z_iald (j := j6) hf5.1 hf5.2 hj7.1 hj7.2.1 hj7.2.2 dX11_drops_18 ?_
      refine z_iconst (v := 1) dX11_drops_19 rfl ?_
      refine z_isub dX11_drops_20 ?_
      refine z_istore_n (lv' := [(3, .int ((gA S b3 j6) - 1)), (0, .ref a0), (1, .int l1), (2, .int l2)]) dX11_drops_21 rfl (Nat.le_of_ble_eq_true rfl) rfl ?_
      obtain ⟨m22, h⟩ := h
      refine z_sub [1, 2, 3, 0] rfl ?_
      refine w_X11_drops_L22 (fun a0 l1 l2 S h => ?_) m22 a0 l1 l2 ((gA S b3 j6) - 1) S h
      refine z_iinc (v := (l2 + 1)) (lv' := [(2, .int (l2 + 1)), (0, .ref a0), (1, .int l1)]) 2 dX11_drops_75 rfl rfl (Nat.le_of_ble_eq_true rfl) rfl ?_
      refine z_goto 7 dX11_drops_78 (by decide) ?_
      refine z_sub [1, 2, 0] rfl ?_
      exact ih a0 l1 (l2 + 1) S h
set_option maxRecDepth 20000 in
set_option maxHeartbeats 4000000 in
theorem w_X11_drops {E : zE} {a0 : Nat} {S : zS} {Q : Int32 → zS → Prop} {X : String → zS → Prop} (h : p_X11_drops E a0 S Q X) : zM E yX11_drops cX11_drops 5 (some .int) ({ frames := 4, cells := 0, slots := 0, locals := 91 } : Room) [.ref a0] S (qI Q) X := by
  unfold p_X11_drops at h
  refine zM_of RX11 false (by decide) rfl (fun h => by cases h) (Nat.le_of_ble_eq_true rfl) ?_
  refine z_iconst (v := 0) dX11_drops_0 rfl ?_
  refine z_istore_n (lv' := [(1, .int 0), (0, .ref a0)]) dX11_drops_1 rfl (Nat.le_of_ble_eq_true rfl) rfl ?_
  refine z_aload_n 1 dX11_drops_2 rfl rfl ?_
  obtain ⟨hf1, h⟩ := h
  refine z_getI (c := 11) (j := 20) (f := 1120) hf1.1 hf1.2 (Nat.le_of_ble_eq_true rfl) rfl zU_X11 (Nat.le_of_ble_eq_true rfl) (Nat.le_of_ble_eq_true rfl) ⟨_, zw_1318, Or.inl rfl⟩ rfl rfl dX11_drops_3 ?_
  refine z_istore_n (lv' := [(2, .int (gI S 1120 a0)), (1, .int 0), (0, .ref a0)]) dX11_drops_6 rfl (Nat.le_of_ble_eq_true rfl) rfl ?_
  obtain ⟨m7, h⟩ := h
  refine z_sub [2, 1, 0] rfl ?_
  refine w_X11_drops_L7 (fun a0 l1 S h => ?_) m7 a0 0 (gI S 1120 a0) S h
  refine z_aload_n 0 dX11_drops_81 rfl rfl ?_
  refine z_dup dX11_drops_82 rfl ?_
  obtain ⟨hf32, h⟩ := h
  refine z_getI (c := 11) (j := 23) (f := 1123) hf32.1 hf32.2 (Nat.le_of_ble_eq_true rfl) rfl zU_X11 (Nat.le_of_ble_eq_true rfl) (Nat.le_of_ble_eq_true rfl) ⟨_, zw_1321, Or.inl rfl⟩ rfl rfl dX11_drops_83 ?_
  refine z_iload_n 1 dX11_drops_86 rfl rfl ?_
  refine z_iadd dX11_drops_87 ?_
  have h := h _ rfl
  refine z_putV (c := 11) (j := 23) (ty0 := tyX11) (S' := sI S 1123 a0 ((gI S 1123 a0) + l1)) hf32.1 hf32.2 (Nat.le_of_ble_eq_true rfl) rfl zU_X11 tyX11_ok nmX11 (Nat.le_of_ble_eq_true rfl) (Nat.le_of_ble_eq_true rfl) ⟨_, zw_1321, Or.inl rfl⟩ (.inl rfl) rfl rfl rfl (zUpI (v := ((gI S 1123 a0) + l1)) hf32.2 (Nat.le_of_ble_eq_true rfl) (Nat.le_of_ble_eq_true rfl) rfl rfl) dX11_drops_88 ?_
  obtain ⟨S33, hS34⟩ : ∃ z, z = sI S 1123 a0 ((gI S 1123 a0) + l1) := ⟨_, rfl⟩
  rw [← hS34] at h ⊢
  have hf32 : a0 ∈ gL S33 ∧ gK S33 a0 = 11 := by rw [hS34]; exact hf32
  refine z_iload_n 1 dX11_drops_91 rfl rfl ?_
  exact z_ireturn ⟨rfl, _, rfl, h⟩ rfl (Nat.le_of_ble_eq_true rfl) (Nat.le_of_ble_eq_true rfl) dX11_drops_92
set_option maxRecDepth 20000 in
set_option maxHeartbeats 4000000 in
theorem w_X11_setCall_J51 {E : zE}  {Q : Int32 → zS → Prop} {X : String → zS → Prop}  (a0 : Nat) (l1 : Int32) (l2 : Int32) (l3 : Int32) (l100 : Int32) (a101 : Nat) (S : zS) (h : p_X11_setCall_J51 E  Q X a0 l1 l2 l3 l100 a101 S) : zJ E (RX11, cX11_setCall, 5, (some .int), false, [], zTr) ({ frames := 5, cells := 0, slots := 0, locals := 115 } : Room) (zq (qI Q)) (zx X) 51 [(0, .ref a0), (1, .int l1), (2, .int l2), (3, .int l3)] [.int l100, .ref a101] [] S 0 0 := by
  unfold p_X11_setCall_J51 at h
  obtain ⟨hf5, h⟩ := h
  have h := h _ rfl
  refine z_putV (c := 11) (j := 0) (ty0 := tyX11) (S' := sI S 1100 a101 l100) hf5.1 hf5.2 (Nat.le_of_ble_eq_true rfl) rfl zU_X11 tyX11_ok nmX11 (Nat.le_of_ble_eq_true rfl) (Nat.le_of_ble_eq_true rfl) ⟨_, zw_1298, Or.inl rfl⟩ (.inl rfl) rfl rfl rfl (zUpI (v := l100) hf5.2 (Nat.le_of_ble_eq_true rfl) (Nat.le_of_ble_eq_true rfl) rfl rfl) dX11_setCall_51 ?_
  obtain ⟨S6, hS7⟩ : ∃ z, z = sI S 1100 a101 l100 := ⟨_, rfl⟩
  rw [← hS7] at h ⊢
  have hf5 : a101 ∈ gL S6 ∧ gK S6 a101 = 11 := by rw [hS7]; exact hf5
  refine z_aload_n 0 dX11_setCall_54 rfl rfl ?_
  obtain ⟨hf8, h⟩ := h
  refine z_getI (c := 11) (j := 0) (f := 1100) hf8.1 hf8.2 (Nat.le_of_ble_eq_true rfl) rfl zU_X11 (Nat.le_of_ble_eq_true rfl) (Nat.le_of_ble_eq_true rfl) ⟨_, zw_1298, Or.inl rfl⟩ rfl rfl dX11_setCall_55 ?_
  refine z_if_le 63 dX11_setCall_58 (by decide) (fun c24 => ?_) (fun c24 => ?_)
  · have h := h.1 c24
    refine z_aload_n 0 dX11_setCall_63 rfl rfl ?_
    refine z_getQ (c := 11) (j := 7) (f := 1107) hf8.1 hf8.2 (Nat.le_of_ble_eq_true rfl) rfl zU_X11 (Nat.le_of_ble_eq_true rfl) (Nat.le_of_ble_eq_true rfl) ⟨_, zw_1305, Or.inl rfl⟩ rfl rfl dX11_setCall_64 ?_
    refine z_iconst (v := 2) dX11_setCall_67 rfl ?_
    refine z_iload_n 1 dX11_setCall_68 rfl rfl ?_
    refine z_imul dX11_setCall_69 ?_
    refine z_iload_n 2 dX11_setCall_70 rfl rfl ?_
    refine z_iadd dX11_setCall_71 ?_
    refine z_iconst (v := 1) dX11_setCall_72 rfl ?_
    refine z_isub dX11_setCall_73 ?_
    obtain ⟨b9, hb10, h⟩ := h
    rw [show va_rf (gR S6 1107 a0) = Value.ref b9 from by rw [hb10]; rfl]
    obtain ⟨hf11, h⟩ := h
    obtain ⟨j12, hj13, h⟩ := h
    refine z_iald (j := j12) hf11.1 hf11.2 hj13.1 hj13.2.1 hj13.2.2 dX11_setCall_74 ?_
    refine z_istore (lv' := [(4, .int (gA S6 b9 j12)), (0, .ref a0), (1, .int l1), (2, .int l2), (3, .int l3)]) dX11_setCall_75 (Nat.le_of_ble_eq_true rfl) rfl ?_
    refine z_aload_n 1 dX11_setCall_77 rfl rfl ?_
    refine z_getQ (c := 11) (j := 7) (f := 1107) hf8.1 hf8.2 (Nat.le_of_ble_eq_true rfl) rfl zU_X11 (Nat.le_of_ble_eq_true rfl) (Nat.le_of_ble_eq_true rfl) ⟨_, zw_1305, Or.inl rfl⟩ rfl rfl dX11_setCall_78 ?_
    refine z_iconst (v := 2) dX11_setCall_81 rfl ?_
    refine z_iload_n 2 dX11_setCall_82 rfl rfl ?_
    refine z_imul dX11_setCall_83 ?_
    refine z_iload_n 3 dX11_setCall_84 rfl rfl ?_
    refine z_iadd dX11_setCall_85 ?_
    refine z_iconst (v := 1) dX11_setCall_86 rfl ?_
    refine z_isub dX11_setCall_87 ?_
    refine z_iload_n 4 dX11_setCall_88 rfl rfl ?_
    obtain ⟨b14, hb15, h⟩ := h
    rw [show va_rf (gR S6 1107 a0) = Value.ref b14 from by rw [hb15]; rfl]
    obtain ⟨hf16, h⟩ := h
    obtain ⟨j17, hj18, h⟩ := h
    have h := h _ rfl
    refine z_iast (j := j17) hf16.1 hf16.2 hj18.1 hj18.2.1 hj18.2.2 dX11_setCall_89 ?_
    obtain ⟨S19, hS20⟩ : ∃ z, z = sA S6 b14 j17 l3 := ⟨_, rfl⟩
    rw [← hS20] at h ⊢
    have hf8 : a0 ∈ gL S19 ∧ gK S19 a0 = 11 := by rw [hS20]; exact hf8
    have hf5 : a101 ∈ gL S19 ∧ gK S19 a101 = 11 := by rw [hS20]; exact hf5
    have hf16 : b14 ∈ gL S19 ∧ gK S19 b14 = 12 := by rw [hS20]; exact hf16
    have hf11 : b9 ∈ gL S19 ∧ gK S19 b9 = 12 := by rw [hS20]; exact hf11
    refine z_aload_n 1 dX11_setCall_90 rfl rfl ?_
    refine z_callVI (ci := 11) (st := []) (w_X11_drops h) hf8.1 hf8.2 (Nat.le_of_ble_eq_true rfl) rfl zw_1458 zw_1455 zw_1457 zw_30 zw_74 zy_X11_drops rfl rfl ⟨Nat.le_of_ble_eq_true rfl, Nat.le_of_ble_eq_true rfl⟩ ⟨(Nat.le_of_ble_eq_true rfl), (Nat.le_of_ble_eq_true rfl)⟩ (Nat.le_of_ble_eq_true rfl) dX11_setCall_91 (fun _ _ hx => hx.elim) (fun r22 S21 h => ?_)
    refine z_widen (k' := 0) (n' := 0) (Nat.le_refl _) (Nat.le_refl _) ?_
    refine z_pop dX11_setCall_94 rfl ?_
    refine z_iload 0 dX11_setCall_95 rfl ?_
    exact z_ireturn ⟨rfl, _, rfl, h⟩ rfl (Nat.le_of_ble_eq_true rfl) (Nat.le_of_ble_eq_true rfl) dX11_setCall_97
  · have h := h.2 c24
    refine z_iconst (v := 0) dX11_setCall_61 rfl ?_
    exact z_ireturn ⟨rfl, _, rfl, h⟩ rfl (Nat.le_of_ble_eq_true rfl) (Nat.le_of_ble_eq_true rfl) dX11_setCall_62
set_option maxRecDepth 20000 in
set_option maxHeartbeats 4000000 in
theorem w_X11_setCall_J35 {E : zE}  {Q : Int32 → zS → Prop} {X : String → zS → Prop}  (a0 : Nat) (l1 : Int32) (l2 : Int32) (l3 : Int32) (a100 : Nat) (S : zS) (h : p_X11_setCall_J35 E  Q X a0 l1 l2 l3 a100 S) : zJ E (RX11, cX11_setCall, 5, (some .int), false, [], zTr) ({ frames := 5, cells := 0, slots := 0, locals := 115 } : Room) (zq (qI Q)) (zx X) 35 [(0, .ref a0), (1, .int l1), (2, .int l2), (3, .int l3)] [.ref a100] [] S 0 0 := by
  unfold p_X11_setCall_J35 at h
  refine z_iconst (v := 2) dX11_setCall_35 rfl ?_
  refine z_goto 51 dX11_setCall_36 (by decide) ?_
  refine w_X11_setCall_J51 a0 l1 l2 l3 2 a100 S h
set_option maxRecDepth 20000 in
set_option maxHeartbeats 4000000 in
theorem w_X11_setCall {E : zE} {a0 : Nat} {l1 : Int32} {l2 : Int32} {l3 : Int32} {S : zS} {Q : Int32 → zS → Prop} {X : String → zS → Prop} (h : p_X11_setCall E a0 l1 l2 l3 S Q X) : zM E yX11_setCall cX11_setCall 5 (some .int) ({ frames := 5, cells := 0, slots := 0, locals := 115 } : Room) [.ref a0, .int l1, .int l2, .int l3] S (qI Q) X := by
  unfold p_X11_setCall at h
  refine zM_of RX11 false (by decide) rfl (fun h => by cases h) (Nat.le_of_ble_eq_true rfl) ?_
  refine z_aload_n 0 dX11_setCall_0 rfl rfl ?_
  refine z_aload_n 0 dX11_setCall_1 rfl rfl ?_
  refine z_iload_n 1 dX11_setCall_2 rfl rfl ?_
  obtain ⟨hf38, h⟩ := h
  refine z_callVI (ci := 11) (st := [.ref a0]) (w_X11_isMethod h) hf38.1 hf38.2 (Nat.le_of_ble_eq_true rfl) rfl zw_1454 zw_1451 zw_1453 zw_29 zw_74 zy_X11_isMethod rfl rfl ⟨Nat.le_of_ble_eq_true rfl, Nat.le_of_ble_eq_true rfl⟩ ⟨(Nat.le_of_ble_eq_true rfl), (Nat.le_of_ble_eq_true rfl)⟩ (Nat.le_of_ble_eq_true rfl) dX11_setCall_3 (fun _ _ hx => hx.elim) (fun r2 S1 h => ?_)
  refine z_widen (k' := 0) (n' := 0) (Nat.le_refl _) (Nat.le_refl _) ?_
  refine z_if_ne 13 dX11_setCall_6 (by decide) (fun c37 => ?_) (fun c37 => ?_)
  · have h := h.1 c37
    refine z_iload_n 2 dX11_setCall_13 rfl rfl ?_
    refine z_iconst (v := 1) dX11_setCall_14 rfl ?_
    refine z_iconst (v := 2) dX11_setCall_15 rfl ?_
    refine z_callSI (st := [.ref a0]) (w_X11_in h) zw_1435 zw_1433 zw_1434 zw_74 zy_X11_in rfl rfl ⟨Nat.le_of_ble_eq_true rfl, Nat.le_of_ble_eq_true rfl⟩ ⟨(Nat.le_of_ble_eq_true rfl), (Nat.le_of_ble_eq_true rfl)⟩ (Nat.le_of_ble_eq_true rfl) dX11_setCall_16 (fun _ _ hx => hx.elim) (fun r4 S3 h => ?_)
    refine z_widen (k' := 0) (n' := 0) (Nat.le_refl _) (Nat.le_refl _) ?_
    refine z_if_eq 35 dX11_setCall_19 (by decide) (fun c36 => ?_) (fun c36 => ?_)
    · have h := h.1 c36
      refine w_X11_setCall_J35 a0 l1 l2 l3 a0 S3 h
    · have h := h.2 c36
      refine z_aload_n 0 dX11_setCall_22 rfl rfl ?_
      obtain ⟨hf25, h⟩ := h
      refine z_getQ (c := 11) (j := 4) (f := 1104) hf25.1 hf25.2 (Nat.le_of_ble_eq_true rfl) rfl zU_X11 (Nat.le_of_ble_eq_true rfl) (Nat.le_of_ble_eq_true rfl) ⟨_, zw_1302, Or.inl rfl⟩ rfl rfl dX11_setCall_23 ?_
      refine z_iload_n 1 dX11_setCall_26 rfl rfl ?_
      obtain ⟨b26, hb27, h⟩ := h
      rw [show va_rf (gR S3 1104 a0) = Value.ref b26 from by rw [hb27]; rfl]
      obtain ⟨hf28, h⟩ := h
      obtain ⟨j29, hj30, h⟩ := h
      refine z_iald (j := j29) hf28.1 hf28.2 hj30.1 hj30.2.1 hj30.2.2 dX11_setCall_27 ?_
      refine z_iload_n 3 dX11_setCall_28 rfl rfl ?_
      refine z_callSI (st := [.ref a0]) (w_X11_isChange h) zw_1446 zw_1444 zw_1445 zw_74 zy_X11_isChange rfl rfl ⟨Nat.le_of_ble_eq_true rfl, Nat.le_of_ble_eq_true rfl⟩ ⟨(Nat.le_of_ble_eq_true rfl), (Nat.le_of_ble_eq_true rfl)⟩ (Nat.le_of_ble_eq_true rfl) dX11_setCall_29 (fun _ _ hx => hx.elim) (fun r32 S31 h => ?_)
      refine z_widen (k' := 0) (n' := 0) (Nat.le_refl _) (Nat.le_refl _) ?_
      refine z_if_ne 39 dX11_setCall_32 (by decide) (fun c35 => ?_) (fun c35 => ?_)
      · have h := h.1 c35
        refine z_aload_n 0 dX11_setCall_39 rfl rfl ?_
        obtain ⟨hf33, h⟩ := h
        refine z_getI (c := 11) (j := 27) (f := 1127) hf33.1 hf33.2 (Nat.le_of_ble_eq_true rfl) rfl zU_X11 (Nat.le_of_ble_eq_true rfl) (Nat.le_of_ble_eq_true rfl) ⟨_, zw_1325, Or.inl rfl⟩ rfl rfl dX11_setCall_40 ?_
        refine z_if_eq 50 dX11_setCall_43 (by decide) (fun c34 => ?_) (fun c34 => ?_)
        · have h := h.1 c34
          refine z_iconst (v := 0) dX11_setCall_50 rfl ?_
          refine w_X11_setCall_J51 a0 l1 l2 l3 0 a0 S31 h
        · have h := h.2 c34
          refine z_iconst (v := 3) dX11_setCall_46 rfl ?_
          refine z_goto 51 dX11_setCall_47 (by decide) ?_
          refine w_X11_setCall_J51 a0 l1 l2 l3 3 a0 S31 h
      · have h := h.2 c35
        refine w_X11_setCall_J35 a0 l1 l2 l3 a0 S31 h
  · have h := h.2 c37
    refine z_iconst (v := 1) dX11_setCall_9 rfl ?_
    refine z_goto 51 dX11_setCall_10 (by decide) ?_
    refine w_X11_setCall_J51 a0 l1 l2 l3 1 a0 S1 h
set_option maxRecDepth 20000 in
set_option maxHeartbeats 4000000 in
theorem w_X11_asksMethod {E : zE} {a0 : Nat} {l1 : Int32} {S : zS} {Q : Int32 → zS → Prop} {X : String → zS → Prop} (h : p_X11_asksMethod E a0 l1 S Q X) : zM E yX11_asksMethod cX11_asksMethod 2 (some .boolean) ({ frames := 2, cells := 0, slots := 0, locals := 43 } : Room) [.ref a0, .int l1] S (qI Q) X := by
  unfold p_X11_asksMethod at h
  refine zM_of RX11 false (by decide) rfl (fun h => by cases h) (Nat.le_of_ble_eq_true rfl) ?_
  refine z_aload_n 0 dX11_asksMethod_0 rfl rfl ?_
  refine z_aload_n 0 dX11_asksMethod_1 rfl rfl ?_
  refine z_iload_n 1 dX11_asksMethod_2 rfl rfl ?_
  obtain ⟨hf16, h⟩ := h
  refine z_callVI (ci := 11) (st := [.ref a0]) (w_X11_isMethod h) hf16.1 hf16.2 (Nat.le_of_ble_eq_true rfl) rfl zw_1454 zw_1451 zw_1453 zw_29 zw_74 zy_X11_isMethod rfl rfl ⟨Nat.le_of_ble_eq_true rfl, Nat.le_of_ble_eq_true rfl⟩ ⟨(Nat.le_of_ble_eq_true rfl), (Nat.le_of_ble_eq_true rfl)⟩ (Nat.le_of_ble_eq_true rfl) dX11_asksMethod_3 (fun _ _ hx => hx.elim) (fun r2 S1 h => ?_)
  refine z_widen (k' := 0) (n' := 0) (Nat.le_refl _) (Nat.le_refl _) ?_
  refine z_if_eq 13 dX11_asksMethod_6 (by decide) (fun c15 => ?_) (fun c15 => ?_)
  · have h := h.1 c15
    refine z_iconst (v := 1) dX11_asksMethod_13 rfl ?_
    obtain ⟨hf3, h⟩ := h
    have h := h _ rfl
    refine z_putV (c := 11) (j := 0) (ty0 := tyX11) (S' := sI S1 1100 a0 1) hf3.1 hf3.2 (Nat.le_of_ble_eq_true rfl) rfl zU_X11 tyX11_ok nmX11 (Nat.le_of_ble_eq_true rfl) (Nat.le_of_ble_eq_true rfl) ⟨_, zw_1298, Or.inl rfl⟩ (.inl rfl) rfl rfl rfl (zUpI (v := 1) hf3.2 (Nat.le_of_ble_eq_true rfl) (Nat.le_of_ble_eq_true rfl) rfl rfl) dX11_asksMethod_14 ?_
    obtain ⟨S4, hS5⟩ : ∃ z, z = sI S1 1100 a0 1 := ⟨_, rfl⟩
    rw [← hS5] at h ⊢
    have hf3 : a0 ∈ gL S4 ∧ gK S4 a0 = 11 := by rw [hS5]; exact hf3
    refine z_aload_n 0 dX11_asksMethod_17 rfl rfl ?_
    refine z_getI (c := 11) (j := 0) (f := 1100) hf3.1 hf3.2 (Nat.le_of_ble_eq_true rfl) rfl zU_X11 (Nat.le_of_ble_eq_true rfl) (Nat.le_of_ble_eq_true rfl) ⟨_, zw_1298, Or.inl rfl⟩ rfl rfl dX11_asksMethod_18 ?_
    refine z_if_ne 28 dX11_asksMethod_21 (by decide) (fun c8 => ?_) (fun c8 => ?_)
    · have h := h.1 c8
      refine z_iconst (v := 0) dX11_asksMethod_28 rfl ?_
      obtain ⟨hz6, h⟩ := h
      exact z_zreturn ⟨rfl, _, rfl, h⟩ rfl (zbn hz6) (Nat.le_of_ble_eq_true rfl) (Nat.le_of_ble_eq_true rfl) dX11_asksMethod_29
    · have h := h.2 c8
      refine z_iconst (v := 1) dX11_asksMethod_24 rfl ?_
      refine z_goto 29 dX11_asksMethod_25 (by decide) ?_
      obtain ⟨hz7, h⟩ := h
      exact z_zreturn ⟨rfl, _, rfl, h⟩ rfl (zbn hz7) (Nat.le_of_ble_eq_true rfl) (Nat.le_of_ble_eq_true rfl) dX11_asksMethod_29
  · have h := h.2 c15
    refine z_iconst (v := 0) dX11_asksMethod_9 rfl ?_
    refine z_goto 14 dX11_asksMethod_10 (by decide) ?_
    obtain ⟨hf9, h⟩ := h
    have h := h _ rfl
    refine z_putV (c := 11) (j := 0) (ty0 := tyX11) (S' := sI S1 1100 a0 0) hf9.1 hf9.2 (Nat.le_of_ble_eq_true rfl) rfl zU_X11 tyX11_ok nmX11 (Nat.le_of_ble_eq_true rfl) (Nat.le_of_ble_eq_true rfl) ⟨_, zw_1298, Or.inl rfl⟩ (.inl rfl) rfl rfl rfl (zUpI (v := 0) hf9.2 (Nat.le_of_ble_eq_true rfl) (Nat.le_of_ble_eq_true rfl) rfl rfl) dX11_asksMethod_14 ?_
    obtain ⟨S10, hS11⟩ : ∃ z, z = sI S1 1100 a0 0 := ⟨_, rfl⟩
    rw [← hS11] at h ⊢
    have hf9 : a0 ∈ gL S10 ∧ gK S10 a0 = 11 := by rw [hS11]; exact hf9
    refine z_aload_n 0 dX11_asksMethod_17 rfl rfl ?_
    refine z_getI (c := 11) (j := 0) (f := 1100) hf9.1 hf9.2 (Nat.le_of_ble_eq_true rfl) rfl zU_X11 (Nat.le_of_ble_eq_true rfl) (Nat.le_of_ble_eq_true rfl) ⟨_, zw_1298, Or.inl rfl⟩ rfl rfl dX11_asksMethod_18 ?_
    refine z_if_ne 28 dX11_asksMethod_21 (by decide) (fun c14 => ?_) (fun c14 => ?_)
    · have h := h.1 c14
      refine z_iconst (v := 0) dX11_asksMethod_28 rfl ?_
      obtain ⟨hz12, h⟩ := h
      exact z_zreturn ⟨rfl, _, rfl, h⟩ rfl (zbn hz12) (Nat.le_of_ble_eq_true rfl) (Nat.le_of_ble_eq_true rfl) dX11_asksMethod_29
    · have h := h.2 c14
      refine z_iconst (v := 1) dX11_asksMethod_24 rfl ?_
      refine z_goto 29 dX11_asksMethod_25 (by decide) ?_
      obtain ⟨hz13, h⟩ := h
      exact z_zreturn ⟨rfl, _, rfl, h⟩ rfl (zbn hz13) (Nat.le_of_ble_eq_true rfl) (Nat.le_of_ble_eq_true rfl) dX11_asksMethod_29
set_option maxRecDepth 20000 in
set_option maxHeartbeats 4000000 in
theorem w_X11_stage {E : zE} {a0 : Nat} {l1 : Int32} {S : zS} {Q : Int32 → zS → Prop} {X : String → zS → Prop} (h : p_X11_stage E a0 l1 S Q X) : zM E yX11_stage cX11_stage 2 (some .int) ({ frames := 3, cells := 0, slots := 0, locals := 64 } : Room) [.ref a0, .int l1] S (qI Q) X := by
  unfold p_X11_stage at h
  refine zM_of RX11 false (by decide) rfl (fun h => by cases h) (Nat.le_of_ble_eq_true rfl) ?_
  refine z_aload_n 0 dX11_stage_0 rfl rfl ?_
  refine z_iload_n 1 dX11_stage_1 rfl rfl ?_
  obtain ⟨hf10, h⟩ := h
  refine z_callVI (ci := 11) (st := []) (w_X11_asksMethod h) hf10.1 hf10.2 (Nat.le_of_ble_eq_true rfl) rfl zw_1507 zw_1504 zw_1506 zw_39 zw_74 zy_X11_asksMethod rfl rfl ⟨Nat.le_of_ble_eq_true rfl, Nat.le_of_ble_eq_true rfl⟩ ⟨(Nat.le_of_ble_eq_true rfl), (Nat.le_of_ble_eq_true rfl)⟩ (Nat.le_of_ble_eq_true rfl) dX11_stage_2 (fun _ _ hx => hx.elim) (fun r2 S1 h => ?_)
  refine z_widen (k' := 0) (n' := 0) (Nat.le_refl _) (Nat.le_refl _) ?_
  refine z_if_eq 17 dX11_stage_5 (by decide) (fun c9 => ?_) (fun c9 => ?_)
  · have h := h.1 c9
    refine z_iconst (v := 0) dX11_stage_17 rfl ?_
    exact z_ireturn ⟨rfl, _, rfl, h⟩ rfl (Nat.le_of_ble_eq_true rfl) (Nat.le_of_ble_eq_true rfl) dX11_stage_18
  · have h := h.2 c9
    refine z_aload_n 0 dX11_stage_8 rfl rfl ?_
    obtain ⟨hf3, h⟩ := h
    refine z_getQ (c := 11) (j := 4) (f := 1104) hf3.1 hf3.2 (Nat.le_of_ble_eq_true rfl) rfl zU_X11 (Nat.le_of_ble_eq_true rfl) (Nat.le_of_ble_eq_true rfl) ⟨_, zw_1302, Or.inl rfl⟩ rfl rfl dX11_stage_9 ?_
    refine z_iload_n 1 dX11_stage_12 rfl rfl ?_
    obtain ⟨b4, hb5, h⟩ := h
    rw [show va_rf (gR S1 1104 a0) = Value.ref b4 from by rw [hb5]; rfl]
    obtain ⟨hf6, h⟩ := h
    obtain ⟨j7, hj8, h⟩ := h
    refine z_iald (j := j7) hf6.1 hf6.2 hj8.1 hj8.2.1 hj8.2.2 dX11_stage_13 ?_
    refine z_goto 18 dX11_stage_14 (by decide) ?_
    exact z_ireturn ⟨rfl, _, rfl, h⟩ rfl (Nat.le_of_ble_eq_true rfl) (Nat.le_of_ble_eq_true rfl) dX11_stage_18
set_option maxRecDepth 20000 in
set_option maxHeartbeats 4000000 in
theorem w_X11_changeAt_J29 {E : zE}  {Q : Int32 → zS → Prop} {X : String → zS → Prop}  (a0 : Nat) (l1 : Int32) (l2 : Int32) (l3 : Int32) (l100 : Int32) (a101 : Nat) (S : zS) (h : p_X11_changeAt_J29 E  Q X a0 l1 l2 l3 l100 a101 S) : zJ E (RX11, cX11_changeAt, 4, (some .int), false, [], zTr) ({ frames := 2, cells := 0, slots := 0, locals := 43 } : Room) (zq (qI Q)) (zx X) 29 [(0, .ref a0), (1, .int l1), (2, .int l2), (3, .int l3)] [.int l100, .ref a101] [] S 0 0 := by
  unfold p_X11_changeAt_J29 at h
  obtain ⟨hf3, h⟩ := h
  have h := h _ rfl
  refine z_putV (c := 11) (j := 0) (ty0 := tyX11) (S' := sI S 1100 a101 l100) hf3.1 hf3.2 (Nat.le_of_ble_eq_true rfl) rfl zU_X11 tyX11_ok nmX11 (Nat.le_of_ble_eq_true rfl) (Nat.le_of_ble_eq_true rfl) ⟨_, zw_1298, Or.inl rfl⟩ (.inl rfl) rfl rfl rfl (zUpI (v := l100) hf3.2 (Nat.le_of_ble_eq_true rfl) (Nat.le_of_ble_eq_true rfl) rfl rfl) dX11_changeAt_29 ?_
  obtain ⟨S4, hS5⟩ : ∃ z, z = sI S 1100 a101 l100 := ⟨_, rfl⟩
  rw [← hS5] at h ⊢
  have hf3 : a101 ∈ gL S4 ∧ gK S4 a101 = 11 := by rw [hS5]; exact hf3
  refine z_aload_n 0 dX11_changeAt_32 rfl rfl ?_
  obtain ⟨hf6, h⟩ := h
  refine z_getI (c := 11) (j := 0) (f := 1100) hf6.1 hf6.2 (Nat.le_of_ble_eq_true rfl) rfl zU_X11 (Nat.le_of_ble_eq_true rfl) (Nat.le_of_ble_eq_true rfl) ⟨_, zw_1298, Or.inl rfl⟩ rfl rfl dX11_changeAt_33 ?_
  refine z_if_le 43 dX11_changeAt_36 (by decide) (fun c15 => ?_) (fun c15 => ?_)
  · have h := h.1 c15
    refine z_iload_n 3 dX11_changeAt_43 rfl rfl ?_
    refine z_aload_n 0 dX11_changeAt_44 rfl rfl ?_
    refine z_getQ (c := 11) (j := 5) (f := 1105) hf6.1 hf6.2 (Nat.le_of_ble_eq_true rfl) rfl zU_X11 (Nat.le_of_ble_eq_true rfl) (Nat.le_of_ble_eq_true rfl) ⟨_, zw_1303, Or.inl rfl⟩ rfl rfl dX11_changeAt_45 ?_
    refine z_iload_n 1 dX11_changeAt_48 rfl rfl ?_
    obtain ⟨b7, hb8, h⟩ := h
    rw [show va_rf (gR S4 1105 a0) = Value.ref b7 from by rw [hb8]; rfl]
    obtain ⟨hf9, h⟩ := h
    obtain ⟨j10, hj11, h⟩ := h
    refine z_iald (j := j10) hf9.1 hf9.2 hj11.1 hj11.2.1 hj11.2.2 dX11_changeAt_49 ?_
    refine z_icmp_ge 63 dX11_changeAt_50 (by decide) (fun c14 => ?_) (fun c14 => ?_)
    · have h := h.1 c14
      refine z_iconst (v := (-1)) dX11_changeAt_63 rfl ?_
      exact z_ireturn ⟨rfl, _, rfl, h⟩ rfl (Nat.le_of_ble_eq_true rfl) (Nat.le_of_ble_eq_true rfl) dX11_changeAt_64
    · have h := h.2 c14
      refine z_aload_n 0 dX11_changeAt_53 rfl rfl ?_
      refine z_iload_n 1 dX11_changeAt_54 rfl rfl ?_
      refine z_iload_n 2 dX11_changeAt_55 rfl rfl ?_
      refine z_iload_n 3 dX11_changeAt_56 rfl rfl ?_
      refine z_callVI (ci := 11) (st := []) (w_X11_changeOf h) hf6.1 hf6.2 (Nat.le_of_ble_eq_true rfl) rfl zw_1485 zw_1482 zw_1484 zw_36 zw_74 zy_X11_changeOf rfl rfl ⟨Nat.le_of_ble_eq_true rfl, Nat.le_of_ble_eq_true rfl⟩ ⟨(Nat.le_of_ble_eq_true rfl), (Nat.le_of_ble_eq_true rfl)⟩ (Nat.le_of_ble_eq_true rfl) dX11_changeAt_57 (fun _ _ hx => hx.elim) (fun r13 S12 h => ?_)
      refine z_widen (k' := 0) (n' := 0) (Nat.le_refl _) (Nat.le_refl _) ?_
      refine z_goto 64 dX11_changeAt_60 (by decide) ?_
      exact z_ireturn ⟨rfl, _, rfl, h⟩ rfl (Nat.le_of_ble_eq_true rfl) (Nat.le_of_ble_eq_true rfl) dX11_changeAt_64
  · have h := h.2 c15
    refine z_iconst (v := 0) dX11_changeAt_39 rfl ?_
    refine z_goto 64 dX11_changeAt_40 (by decide) ?_
    exact z_ireturn ⟨rfl, _, rfl, h⟩ rfl (Nat.le_of_ble_eq_true rfl) (Nat.le_of_ble_eq_true rfl) dX11_changeAt_64
set_option maxRecDepth 20000 in
set_option maxHeartbeats 4000000 in
theorem w_X11_changeAt_J13 {E : zE}  {Q : Int32 → zS → Prop} {X : String → zS → Prop}  (a0 : Nat) (l1 : Int32) (l2 : Int32) (l3 : Int32) (a100 : Nat) (S : zS) (h : p_X11_changeAt_J13 E  Q X a0 l1 l2 l3 a100 S) : zJ E (RX11, cX11_changeAt, 4, (some .int), false, [], zTr) ({ frames := 2, cells := 0, slots := 0, locals := 43 } : Room) (zq (qI Q)) (zx X) 13 [(0, .ref a0), (1, .int l1), (2, .int l2), (3, .int l3)] [.ref a100] [] S 0 0 := by
  unfold p_X11_changeAt_J13 at h
  refine z_iconst (v := 1) dX11_changeAt_13 rfl ?_
  refine z_goto 29 dX11_changeAt_14 (by decide) ?_
  refine w_X11_changeAt_J29 a0 l1 l2 l3 1 a100 S h
set_option maxRecDepth 20000 in
set_option maxHeartbeats 4000000 in
theorem w_X11_changeAt {E : zE} {a0 : Nat} {l1 : Int32} {l2 : Int32} {l3 : Int32} {S : zS} {Q : Int32 → zS → Prop} {X : String → zS → Prop} (h : p_X11_changeAt E a0 l1 l2 l3 S Q X) : zM E yX11_changeAt cX11_changeAt 4 (some .int) ({ frames := 2, cells := 0, slots := 0, locals := 43 } : Room) [.ref a0, .int l1, .int l2, .int l3] S (qI Q) X := by
  unfold p_X11_changeAt at h
  refine zM_of RX11 false (by decide) rfl (fun h => by cases h) (Nat.le_of_ble_eq_true rfl) ?_
  refine z_aload_n 0 dX11_changeAt_0 rfl rfl ?_
  refine z_aload_n 0 dX11_changeAt_1 rfl rfl ?_
  refine z_iload_n 1 dX11_changeAt_2 rfl rfl ?_
  obtain ⟨hf21, h⟩ := h
  refine z_callVI (ci := 11) (st := [.ref a0]) (w_X11_isMethod h) hf21.1 hf21.2 (Nat.le_of_ble_eq_true rfl) rfl zw_1454 zw_1451 zw_1453 zw_29 zw_74 zy_X11_isMethod rfl rfl ⟨Nat.le_of_ble_eq_true rfl, Nat.le_of_ble_eq_true rfl⟩ ⟨(Nat.le_of_ble_eq_true rfl), (Nat.le_of_ble_eq_true rfl)⟩ (Nat.le_of_ble_eq_true rfl) dX11_changeAt_3 (fun _ _ hx => hx.elim) (fun r2 S1 h => ?_)
  refine z_widen (k' := 0) (n' := 0) (Nat.le_refl _) (Nat.le_refl _) ?_
  refine z_if_eq 13 dX11_changeAt_6 (by decide) (fun c20 => ?_) (fun c20 => ?_)
  · have h := h.1 c20
    refine w_X11_changeAt_J13 a0 l1 l2 l3 a0 S1 h
  · have h := h.2 c20
    refine z_iload_n 3 dX11_changeAt_9 rfl rfl ?_
    refine z_if_ge 17 dX11_changeAt_10 (by decide) (fun c19 => ?_) (fun c19 => ?_)
    · have h := h.1 c19
      refine z_iload_n 2 dX11_changeAt_17 rfl rfl ?_
      refine z_callSI (st := [.ref a0]) (w_X11_isCall h) zw_1514 zw_1512 zw_1513 zw_74 zy_X11_isCall rfl rfl ⟨Nat.le_of_ble_eq_true rfl, Nat.le_of_ble_eq_true rfl⟩ ⟨(Nat.le_of_ble_eq_true rfl), (Nat.le_of_ble_eq_true rfl)⟩ (Nat.le_of_ble_eq_true rfl) dX11_changeAt_18 (fun _ _ hx => hx.elim) (fun r17 S16 h => ?_)
      refine z_widen (k' := 0) (n' := 0) (Nat.le_refl _) (Nat.le_refl _) ?_
      refine z_if_eq 28 dX11_changeAt_21 (by decide) (fun c18 => ?_) (fun c18 => ?_)
      · have h := h.1 c18
        refine z_iconst (v := 2) dX11_changeAt_28 rfl ?_
        refine w_X11_changeAt_J29 a0 l1 l2 l3 2 a0 S16 h
      · have h := h.2 c18
        refine z_iconst (v := 0) dX11_changeAt_24 rfl ?_
        refine z_goto 29 dX11_changeAt_25 (by decide) ?_
        refine w_X11_changeAt_J29 a0 l1 l2 l3 0 a0 S16 h
    · have h := h.2 c19
      refine w_X11_changeAt_J13 a0 l1 l2 l3 a0 S1 h
set_option maxRecDepth 20000 in
set_option maxHeartbeats 4000000 in
theorem w_X11_behindLead_L6 {E : zE} {K44 : Int32 → zS → Prop} {Q : Int32 → zS → Prop} {X : String → zS → Prop} (hK44 : ∀ (l4 : Int32) (S : zS), K44 l4 S → zJ E (RX11, cX11_behindLead, 6, (some .int), false, [], zTr) ({ frames := 2, cells := 0, slots := 0, locals := 45 } : Room) (zq (qI Q)) (zx X) 44 [(4, .int l4)] [] [] S 0 0) : ∀ (m6 : Nat) (a0 : Nat) (l2 : Int32) (l3 : Int32) (l4 : Int32) (l5 : Int32) (S : zS), p_X11_behindLead_L6 E K44 Q X m6 a0 l2 l3 l4 l5 S → zJ E (RX11, cX11_behindLead, 6, (some .int), false, [], zTr) ({ frames := 2, cells := 0, slots := 0, locals := 45 } : Room) (zq (qI Q)) (zx X) 6 [(0, .ref a0), (2, .int l2), (3, .int l3), (4, .int l4), (5, .int l5)] [] [] S 0 0 := by
  intro m6
  induction m6 with
  | zero => intro a0 l2 l3 l4 l5 S h; exact (show False from h).elim
  | succ m6 ih =>
    intro a0 l2 l3 l4 l5 S h
    unfold p_X11_behindLead_L6 at h
    refine z_iload 4 dX11_behindLead_6 rfl ?_
    refine z_aload_n 0 dX11_behindLead_8 rfl rfl ?_
    obtain ⟨hf1, h⟩ := h
    refine z_getQ (c := 11) (j := 5) (f := 1105) hf1.1 hf1.2 (Nat.le_of_ble_eq_true rfl) rfl zU_X11 (Nat.le_of_ble_eq_true rfl) (Nat.le_of_ble_eq_true rfl) ⟨_, zw_1303, Or.inl rfl⟩ rfl rfl dX11_behindLead_9 ?_
    refine z_iload_n 1 dX11_behindLead_12 rfl rfl ?_
    obtain ⟨b2, hb3, h⟩ := h
    rw [show va_rf (gR S 1105 a0) = Value.ref b2 from by rw [hb3]; rfl]
    obtain ⟨hf4, h⟩ := h
    obtain ⟨j5, hj6, h⟩ := h
    refine z_iald (j := j5) hf4.1 hf4.2 hj6.1 hj6.2.1 hj6.2.2 dX11_behindLead_13 ?_
    refine z_icmp_ge 44 dX11_behindLead_14 (by decide) (fun c16 => ?_) (fun c16 => ?_)
    · have h := h.1 c16
      refine z_sub [3] rfl ?_
      exact hK44 l4 S h
    · have h := h.2 c16
      refine z_iload 3 dX11_behindLead_17 rfl ?_
      refine z_aload_n 0 dX11_behindLead_19 rfl rfl ?_
      refine z_getQ (c := 11) (j := 4) (f := 1104) hf1.1 hf1.2 (Nat.le_of_ble_eq_true rfl) rfl zU_X11 (Nat.le_of_ble_eq_true rfl) (Nat.le_of_ble_eq_true rfl) ⟨_, zw_1302, Or.inl rfl⟩ rfl rfl dX11_behindLead_20 ?_
      refine z_iload_n 1 dX11_behindLead_23 rfl rfl ?_
      obtain ⟨b7, hb8, h⟩ := h
      rw [show va_rf (gR S 1104 a0) = Value.ref b7 from by rw [hb8]; rfl]
      obtain ⟨hf9, h⟩ := h
      obtain ⟨j10, hj11, h⟩ := h
      refine z_iald (j := j10) hf9.1 hf9.2 hj11.1 hj11.2.1 hj11.2.2 dX11_behindLead_24 ?_
      refine z_aload_n 0 dX11_behindLead_25 rfl rfl ?_
      refine z_iload_n 1 dX11_behindLead_26 rfl rfl ?_
      refine z_iload_n 2 dX11_behindLead_27 rfl rfl ?_
      refine z_iload 4 dX11_behindLead_28 rfl ?_
      refine z_callVI (ci := 11) (st := [.int (gA S b7 j10), .int l4]) (w_X11_changeOf h) hf1.1 hf1.2 (Nat.le_of_ble_eq_true rfl) rfl zw_1485 zw_1482 zw_1484 zw_36 zw_74 zy_X11_changeOf rfl rfl ⟨Nat.le_of_ble_eq_true rfl, Nat.le_of_ble_eq_true rfl⟩ ⟨(Nat.le_of_ble_eq_true rfl), (Nat.le_of_ble_eq_true rfl)⟩ (Nat.le_of_ble_eq_true rfl) dX11_behindLead_30 (fun _ _ hx => hx.elim) (fun r13 S12 h => ?_)
      refine z_widen (k' := 0) (n' := 0) (Nat.le_refl _) (Nat.le_refl _) ?_
      refine z_callSI (st := []) (w_X11_changed h) zw_1488 zw_1486 zw_1487 zw_74 zy_X11_changed rfl rfl ⟨Nat.le_of_ble_eq_true rfl, Nat.le_of_ble_eq_true rfl⟩ ⟨(Nat.le_of_ble_eq_true rfl), (Nat.le_of_ble_eq_true rfl)⟩ (Nat.le_of_ble_eq_true rfl) dX11_behindLead_33 (fun _ _ hx => hx.elim) (fun r15 S14 h => ?_)
      refine z_widen (k' := 0) (n' := 0) (Nat.le_refl _) (Nat.le_refl _) ?_
      refine z_istore (lv' := [(4, .int r15), (0, .ref a0), (2, .int l2), (3, .int l3), (5, .int l5)]) dX11_behindLead_36 (Nat.le_of_ble_eq_true rfl) rfl ?_
      refine z_iinc (v := (l5 + 1)) (lv' := [(5, .int (l5 + 1)), (4, .int r15), (0, .ref a0), (2, .int l2), (3, .int l3)]) 4 dX11_behindLead_38 rfl rfl (Nat.le_of_ble_eq_true rfl) rfl ?_
      refine z_goto 6 dX11_behindLead_41 (by decide) ?_
      refine z_sub [2, 3, 4, 1, 0] rfl ?_
      exact ih a0 l2 l3 r15 (l5 + 1) S14 h
set_option maxRecDepth 20000 in
set_option maxHeartbeats 4000000 in
theorem w_X11_behindLead {E : zE} {a0 : Nat} {l1 : Int32} {l2 : Int32} {l3 : Int32} {S : zS} {Q : Int32 → zS → Prop} {X : String → zS → Prop} (h : p_X11_behindLead E a0 l1 l2 l3 S Q X) : zM E yX11_behindLead cX11_behindLead 6 (some .int) ({ frames := 2, cells := 0, slots := 0, locals := 45 } : Room) [.ref a0, .int l1, .int l2, .int l3] S (qI Q) X := by
  unfold p_X11_behindLead at h
  refine zM_of RX11 false (by decide) rfl (fun h => by cases h) (Nat.le_of_ble_eq_true rfl) ?_
  refine z_iload_n 1 dX11_behindLead_0 rfl rfl ?_
  refine z_istore (lv' := [(4, .int l1), (0, .ref a0), (1, .int l1), (2, .int l2), (3, .int l3)]) dX11_behindLead_1 (Nat.le_of_ble_eq_true rfl) rfl ?_
  refine z_iconst (v := 0) dX11_behindLead_3 rfl ?_
  refine z_istore (lv' := [(5, .int 0), (4, .int l1), (0, .ref a0), (1, .int l1), (2, .int l2), (3, .int l3)]) dX11_behindLead_4 (Nat.le_of_ble_eq_true rfl) rfl ?_
  obtain ⟨m6, h⟩ := h
  refine z_sub [2, 4, 5, 1, 0] rfl ?_
  refine w_X11_behindLead_L6 (fun l4 S h => ?_) m6 a0 l2 l3 l1 0 S h
  refine z_iload 0 dX11_behindLead_44 rfl ?_
  exact z_ireturn ⟨rfl, _, rfl, h⟩ rfl (Nat.le_of_ble_eq_true rfl) (Nat.le_of_ble_eq_true rfl) dX11_behindLead_46
set_option maxRecDepth 20000 in
set_option maxHeartbeats 4000000 in
theorem w_X11_head_J25 {E : zE}  {Q : Int32 → zS → Prop} {X : String → zS → Prop}  (a0 : Nat) (l1 : Int32) (l2 : Int32) (l100 : Int32) (a101 : Nat) (S : zS) (h : p_X11_head_J25 E  Q X a0 l1 l2 l100 a101 S) : zJ E (RX11, cX11_head, 3, (some .int), false, [], zTr) ({ frames := 3, cells := 0, slots := 0, locals := 70 } : Room) (zq (qI Q)) (zx X) 25 [(0, .ref a0), (1, .int l1), (2, .int l2)] [.int l100, .ref a101] [] S 0 0 := by
  unfold p_X11_head_J25 at h
  obtain ⟨hf5, h⟩ := h
  have h := h _ rfl
  refine z_putV (c := 11) (j := 0) (ty0 := tyX11) (S' := sI S 1100 a101 l100) hf5.1 hf5.2 (Nat.le_of_ble_eq_true rfl) rfl zU_X11 tyX11_ok nmX11 (Nat.le_of_ble_eq_true rfl) (Nat.le_of_ble_eq_true rfl) ⟨_, zw_1298, Or.inl rfl⟩ (.inl rfl) rfl rfl rfl (zUpI (v := l100) hf5.2 (Nat.le_of_ble_eq_true rfl) (Nat.le_of_ble_eq_true rfl) rfl rfl) dX11_head_25 ?_
  obtain ⟨S6, hS7⟩ : ∃ z, z = sI S 1100 a101 l100 := ⟨_, rfl⟩
  rw [← hS7] at h ⊢
  have hf5 : a101 ∈ gL S6 ∧ gK S6 a101 = 11 := by rw [hS7]; exact hf5
  refine z_aload_n 0 dX11_head_28 rfl rfl ?_
  obtain ⟨hf8, h⟩ := h
  refine z_getI (c := 11) (j := 0) (f := 1100) hf8.1 hf8.2 (Nat.le_of_ble_eq_true rfl) rfl zU_X11 (Nat.le_of_ble_eq_true rfl) (Nat.le_of_ble_eq_true rfl) ⟨_, zw_1298, Or.inl rfl⟩ rfl rfl dX11_head_29 ?_
  refine z_if_le 39 dX11_head_32 (by decide) (fun c27 => ?_) (fun c27 => ?_)
  · have h := h.1 c27
    refine z_aload_n 0 dX11_head_39 rfl rfl ?_
    refine z_aload_n 0 dX11_head_40 rfl rfl ?_
    refine z_getQ (c := 11) (j := 4) (f := 1104) hf8.1 hf8.2 (Nat.le_of_ble_eq_true rfl) rfl zU_X11 (Nat.le_of_ble_eq_true rfl) (Nat.le_of_ble_eq_true rfl) ⟨_, zw_1302, Or.inl rfl⟩ rfl rfl dX11_head_41 ?_
    refine z_iload_n 1 dX11_head_44 rfl rfl ?_
    obtain ⟨b9, hb10, h⟩ := h
    rw [show va_rf (gR S6 1104 a0) = Value.ref b9 from by rw [hb10]; rfl]
    obtain ⟨hf11, h⟩ := h
    obtain ⟨j12, hj13, h⟩ := h
    refine z_iald (j := j12) hf11.1 hf11.2 hj13.1 hj13.2.1 hj13.2.2 dX11_head_45 ?_
    refine z_callSI (st := [.ref a0]) (w_X11_rounds h) zw_1481 zw_1479 zw_1480 zw_74 zy_X11_rounds rfl rfl ⟨Nat.le_of_ble_eq_true rfl, Nat.le_of_ble_eq_true rfl⟩ ⟨(Nat.le_of_ble_eq_true rfl), (Nat.le_of_ble_eq_true rfl)⟩ (Nat.le_of_ble_eq_true rfl) dX11_head_46 (fun _ _ hx => hx.elim) (fun r15 S14 h => ?_)
    refine z_widen (k' := 0) (n' := 0) (Nat.le_refl _) (Nat.le_refl _) ?_
    refine z_iload_n 1 dX11_head_49 rfl rfl ?_
    refine z_iload_n 2 dX11_head_50 rfl rfl ?_
    obtain ⟨hf26, h⟩ := h
    refine z_callVI (ci := 11) (st := []) (w_X11_behindLead h) hf26.1 hf26.2 (Nat.le_of_ble_eq_true rfl) rfl zw_1522 zw_1519 zw_1521 zw_40 zw_74 zy_X11_behindLead rfl rfl ⟨Nat.le_of_ble_eq_true rfl, Nat.le_of_ble_eq_true rfl⟩ ⟨(Nat.le_of_ble_eq_true rfl), (Nat.le_of_ble_eq_true rfl)⟩ (Nat.le_of_ble_eq_true rfl) dX11_head_51 (fun _ _ hx => hx.elim) (fun r17 S16 h => ?_)
    refine z_widen (k' := 0) (n' := 0) (Nat.le_refl _) (Nat.le_refl _) ?_
    refine z_aload_n 0 dX11_head_54 rfl rfl ?_
    obtain ⟨hf18, h⟩ := h
    refine z_getQ (c := 11) (j := 4) (f := 1104) hf18.1 hf18.2 (Nat.le_of_ble_eq_true rfl) rfl zU_X11 (Nat.le_of_ble_eq_true rfl) (Nat.le_of_ble_eq_true rfl) ⟨_, zw_1302, Or.inl rfl⟩ rfl rfl dX11_head_55 ?_
    refine z_iload_n 1 dX11_head_58 rfl rfl ?_
    obtain ⟨b19, hb20, h⟩ := h
    rw [show va_rf (gR S16 1104 a0) = Value.ref b19 from by rw [hb20]; rfl]
    obtain ⟨hf21, h⟩ := h
    obtain ⟨j22, hj23, h⟩ := h
    refine z_iald (j := j22) hf21.1 hf21.2 hj23.1 hj23.2.1 hj23.2.2 dX11_head_59 ?_
    refine z_callSI (st := []) (w_X11_number h) zw_1525 zw_1523 zw_1524 zw_74 zy_X11_number rfl rfl ⟨Nat.le_of_ble_eq_true rfl, Nat.le_of_ble_eq_true rfl⟩ ⟨(Nat.le_of_ble_eq_true rfl), (Nat.le_of_ble_eq_true rfl)⟩ (Nat.le_of_ble_eq_true rfl) dX11_head_60 (fun _ _ hx => hx.elim) (fun r25 S24 h => ?_)
    refine z_widen (k' := 0) (n' := 0) (Nat.le_refl _) (Nat.le_refl _) ?_
    exact z_ireturn ⟨rfl, _, rfl, h⟩ rfl (Nat.le_of_ble_eq_true rfl) (Nat.le_of_ble_eq_true rfl) dX11_head_63
  · have h := h.2 c27
    refine z_iconst (v := 0) dX11_head_35 rfl ?_
    refine z_goto 63 dX11_head_36 (by decide) ?_
    exact z_ireturn ⟨rfl, _, rfl, h⟩ rfl (Nat.le_of_ble_eq_true rfl) (Nat.le_of_ble_eq_true rfl) dX11_head_63
set_option maxRecDepth 20000 in
set_option maxHeartbeats 4000000 in
theorem w_X11_head {E : zE} {a0 : Nat} {l1 : Int32} {l2 : Int32} {S : zS} {Q : Int32 → zS → Prop} {X : String → zS → Prop} (h : p_X11_head E a0 l1 l2 S Q X) : zM E yX11_head cX11_head 3 (some .int) ({ frames := 3, cells := 0, slots := 0, locals := 70 } : Room) [.ref a0, .int l1, .int l2] S (qI Q) X := by
  unfold p_X11_head at h
  refine zM_of RX11 false (by decide) rfl (fun h => by cases h) (Nat.le_of_ble_eq_true rfl) ?_
  refine z_aload_n 0 dX11_head_0 rfl rfl ?_
  refine z_aload_n 0 dX11_head_1 rfl rfl ?_
  refine z_iload_n 1 dX11_head_2 rfl rfl ?_
  obtain ⟨hf30, h⟩ := h
  refine z_callVI (ci := 11) (st := [.ref a0]) (w_X11_isMethod h) hf30.1 hf30.2 (Nat.le_of_ble_eq_true rfl) rfl zw_1454 zw_1451 zw_1453 zw_29 zw_74 zy_X11_isMethod rfl rfl ⟨Nat.le_of_ble_eq_true rfl, Nat.le_of_ble_eq_true rfl⟩ ⟨(Nat.le_of_ble_eq_true rfl), (Nat.le_of_ble_eq_true rfl)⟩ (Nat.le_of_ble_eq_true rfl) dX11_head_3 (fun _ _ hx => hx.elim) (fun r2 S1 h => ?_)
  refine z_widen (k' := 0) (n' := 0) (Nat.le_refl _) (Nat.le_refl _) ?_
  refine z_if_ne 13 dX11_head_6 (by decide) (fun c29 => ?_) (fun c29 => ?_)
  · have h := h.1 c29
    refine z_iload_n 2 dX11_head_13 rfl rfl ?_
    refine z_callSI (st := [.ref a0]) (w_X11_isCall h) zw_1514 zw_1512 zw_1513 zw_74 zy_X11_isCall rfl rfl ⟨Nat.le_of_ble_eq_true rfl, Nat.le_of_ble_eq_true rfl⟩ ⟨(Nat.le_of_ble_eq_true rfl), (Nat.le_of_ble_eq_true rfl)⟩ (Nat.le_of_ble_eq_true rfl) dX11_head_14 (fun _ _ hx => hx.elim) (fun r4 S3 h => ?_)
    refine z_widen (k' := 0) (n' := 0) (Nat.le_refl _) (Nat.le_refl _) ?_
    refine z_if_eq 24 dX11_head_17 (by decide) (fun c28 => ?_) (fun c28 => ?_)
    · have h := h.1 c28
      refine z_iconst (v := 2) dX11_head_24 rfl ?_
      refine w_X11_head_J25 a0 l1 l2 2 a0 S3 h
    · have h := h.2 c28
      refine z_iconst (v := 0) dX11_head_20 rfl ?_
      refine z_goto 25 dX11_head_21 (by decide) ?_
      refine w_X11_head_J25 a0 l1 l2 0 a0 S3 h
  · have h := h.2 c29
    refine z_iconst (v := 1) dX11_head_9 rfl ?_
    refine z_goto 25 dX11_head_10 (by decide) ?_
    refine w_X11_head_J25 a0 l1 l2 1 a0 S1 h
set_option maxRecDepth 20000 in
set_option maxHeartbeats 4000000 in
theorem w_X11_course_L31 {E : zE} {K50 : Int32 → zS → Prop} {Q : Int32 → zS → Prop} {X : String → zS → Prop} (hK50 : ∀ (l4 : Int32) (S : zS), K50 l4 S → zJ E (RX11, cX11_course, 5, (some .int), false, [], zTr) ({ frames := 3, cells := 0, slots := 0, locals := 70 } : Room) (zq (qI Q)) (zx X) 50 [(4, .int l4)] [] [] S 0 0) : ∀ (m31 : Nat) (a0 : Nat) (l1 : Int32) (l2 : Int32) (l3 : Int32) (l4 : Int32) (S : zS), p_X11_course_L31 E K50 Q X m31 a0 l1 l2 l3 l4 S → zJ E (RX11, cX11_course, 5, (some .int), false, [], zTr) ({ frames := 3, cells := 0, slots := 0, locals := 70 } : Room) (zq (qI Q)) (zx X) 31 [(0, .ref a0), (1, .int l1), (2, .int l2), (3, .int l3), (4, .int l4)] [] [] S 0 0 := by
  intro m31
  induction m31 with
  | zero => intro a0 l1 l2 l3 l4 S h; exact (show False from h).elim
  | succ m31 ih =>
    intro a0 l1 l2 l3 l4 S h
    unfold p_X11_course_L31 at h
    refine z_iload_n 3 dX11_course_31 rfl rfl ?_
    refine z_iload_n 2 dX11_course_32 rfl rfl ?_
    refine z_icmp_eq 50 dX11_course_33 (by decide) (fun c16 => ?_) (fun c16 => ?_)
    · have h := h.1 c16
      refine z_sub [4] rfl ?_
      exact hK50 l4 S h
    · have h := h.2 c16
      refine z_aload_n 0 dX11_course_36 rfl rfl ?_
      refine z_iload_n 3 dX11_course_37 rfl rfl ?_
      refine z_iload_n 1 dX11_course_38 rfl rfl ?_
      refine z_iconst (v := 0) dX11_course_39 rfl ?_
      obtain ⟨hf15, h⟩ := h
      refine z_callVI (ci := 11) (st := []) (w_X11_behindLead h) hf15.1 hf15.2 (Nat.le_of_ble_eq_true rfl) rfl zw_1522 zw_1519 zw_1521 zw_40 zw_74 zy_X11_behindLead rfl rfl ⟨Nat.le_of_ble_eq_true rfl, Nat.le_of_ble_eq_true rfl⟩ ⟨(Nat.le_of_ble_eq_true rfl), (Nat.le_of_ble_eq_true rfl)⟩ (Nat.le_of_ble_eq_true rfl) dX11_course_40 (fun _ _ hx => hx.elim) (fun r14 S13 h => ?_)
      refine z_widen (k' := 0) (n' := 0) (Nat.le_refl _) (Nat.le_refl _) ?_
      refine z_istore_n (lv' := [(3, .int r14), (0, .ref a0), (1, .int l1), (2, .int l2), (4, .int l4)]) dX11_course_43 rfl (Nat.le_of_ble_eq_true rfl) rfl ?_
      refine z_iinc (v := (l4 + 1)) (lv' := [(4, .int (l4 + 1)), (3, .int r14), (0, .ref a0), (1, .int l1), (2, .int l2)]) 4 dX11_course_44 rfl rfl (Nat.le_of_ble_eq_true rfl) rfl ?_
      refine z_goto 31 dX11_course_47 (by decide) ?_
      refine z_sub [2, 3, 4, 1, 0] rfl ?_
      exact ih a0 l1 l2 r14 (l4 + 1) S13 h
set_option maxRecDepth 20000 in
set_option maxHeartbeats 4000000 in
theorem w_X11_course {E : zE} {a0 : Nat} {l1 : Int32} {S : zS} {Q : Int32 → zS → Prop} {X : String → zS → Prop} (h : p_X11_course E a0 l1 S Q X) : zM E yX11_course cX11_course 5 (some .int) ({ frames := 3, cells := 0, slots := 0, locals := 70 } : Room) [.ref a0, .int l1] S (qI Q) X := by
  unfold p_X11_course at h
  refine zM_of RX11 false (by decide) rfl (fun h => by cases h) (Nat.le_of_ble_eq_true rfl) ?_
  refine z_aload_n 0 dX11_course_0 rfl rfl ?_
  refine z_iload_n 1 dX11_course_1 rfl rfl ?_
  obtain ⟨hf19, h⟩ := h
  refine z_callVI (ci := 11) (st := []) (w_X11_asksMethod h) hf19.1 hf19.2 (Nat.le_of_ble_eq_true rfl) rfl zw_1507 zw_1504 zw_1506 zw_39 zw_74 zy_X11_asksMethod rfl rfl ⟨Nat.le_of_ble_eq_true rfl, Nat.le_of_ble_eq_true rfl⟩ ⟨(Nat.le_of_ble_eq_true rfl), (Nat.le_of_ble_eq_true rfl)⟩ (Nat.le_of_ble_eq_true rfl) dX11_course_2 (fun _ _ hx => hx.elim) (fun r2 S1 h => ?_)
  refine z_widen (k' := 0) (n' := 0) (Nat.le_refl _) (Nat.le_refl _) ?_
  refine z_if_ne 10 dX11_course_5 (by decide) (fun c18 => ?_) (fun c18 => ?_)
  · have h := h.1 c18
    refine z_aload_n 0 dX11_course_10 rfl rfl ?_
    obtain ⟨hf3, h⟩ := h
    refine z_getQ (c := 11) (j := 4) (f := 1104) hf3.1 hf3.2 (Nat.le_of_ble_eq_true rfl) rfl zU_X11 (Nat.le_of_ble_eq_true rfl) (Nat.le_of_ble_eq_true rfl) ⟨_, zw_1302, Or.inl rfl⟩ rfl rfl dX11_course_11 ?_
    refine z_iload_n 1 dX11_course_14 rfl rfl ?_
    obtain ⟨b4, hb5, h⟩ := h
    rw [show va_rf (gR S1 1104 a0) = Value.ref b4 from by rw [hb5]; rfl]
    obtain ⟨hf6, h⟩ := h
    obtain ⟨j7, hj8, h⟩ := h
    refine z_iald (j := j7) hf6.1 hf6.2 hj8.1 hj8.2.1 hj8.2.2 dX11_course_15 ?_
    refine z_callSI (st := []) (w_X11_rounds h) zw_1481 zw_1479 zw_1480 zw_74 zy_X11_rounds rfl rfl ⟨Nat.le_of_ble_eq_true rfl, Nat.le_of_ble_eq_true rfl⟩ ⟨(Nat.le_of_ble_eq_true rfl), (Nat.le_of_ble_eq_true rfl)⟩ (Nat.le_of_ble_eq_true rfl) dX11_course_16 (fun _ _ hx => hx.elim) (fun r10 S9 h => ?_)
    refine z_widen (k' := 0) (n' := 0) (Nat.le_refl _) (Nat.le_refl _) ?_
    refine z_istore_n (lv' := [(2, .int r10), (0, .ref a0), (1, .int l1)]) dX11_course_19 rfl (Nat.le_of_ble_eq_true rfl) rfl ?_
    refine z_aload_n 1 dX11_course_20 rfl rfl ?_
    refine z_iload_n 0 dX11_course_21 rfl rfl ?_
    refine z_iload_n 2 dX11_course_22 rfl rfl ?_
    refine z_iconst (v := 0) dX11_course_23 rfl ?_
    obtain ⟨hf17, h⟩ := h
    refine z_callVI (ci := 11) (st := []) (w_X11_behindLead h) hf17.1 hf17.2 (Nat.le_of_ble_eq_true rfl) rfl zw_1522 zw_1519 zw_1521 zw_40 zw_74 zy_X11_behindLead rfl rfl ⟨Nat.le_of_ble_eq_true rfl, Nat.le_of_ble_eq_true rfl⟩ ⟨(Nat.le_of_ble_eq_true rfl), (Nat.le_of_ble_eq_true rfl)⟩ (Nat.le_of_ble_eq_true rfl) dX11_course_24 (fun _ _ hx => hx.elim) (fun r12 S11 h => ?_)
    refine z_widen (k' := 0) (n' := 0) (Nat.le_refl _) (Nat.le_refl _) ?_
    refine z_istore_n (lv' := [(3, .int r12), (2, .int r10), (0, .ref a0), (1, .int l1)]) dX11_course_27 rfl (Nat.le_of_ble_eq_true rfl) rfl ?_
    refine z_iconst (v := 1) dX11_course_28 rfl ?_
    refine z_istore (lv' := [(4, .int 1), (3, .int r12), (2, .int r10), (0, .ref a0), (1, .int l1)]) dX11_course_29 (Nat.le_of_ble_eq_true rfl) rfl ?_
    obtain ⟨m31, h⟩ := h
    refine z_sub [3, 4, 2, 1, 0] rfl ?_
    refine w_X11_course_L31 (fun l4 S h => ?_) m31 a0 l1 r10 r12 1 S11 h
    refine z_iload 0 dX11_course_50 rfl ?_
    exact z_ireturn ⟨rfl, _, rfl, h⟩ rfl (Nat.le_of_ble_eq_true rfl) (Nat.le_of_ble_eq_true rfl) dX11_course_52
  · have h := h.2 c18
    refine z_iconst (v := 0) dX11_course_8 rfl ?_
    exact z_ireturn ⟨rfl, _, rfl, h⟩ rfl (Nat.le_of_ble_eq_true rfl) (Nat.le_of_ble_eq_true rfl) dX11_course_9
