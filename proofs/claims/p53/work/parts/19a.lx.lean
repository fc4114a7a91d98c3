set_option maxRecDepth 20000 in
set_option maxHeartbeats 4000000 in
theorem w_L_methods_L1236 {E : zE} {K1274 : Nat → Nat → Nat → Nat → Nat → Int32 → Int32 → Int32 → Int32 → Int32 → zS → zS → Prop} {Q : Int32 → zS → zS → Prop} {X : String → zS → Prop} (hK1274 : ∀ (a0 : Nat) (a4 : Nat) (a5 : Nat) (a8 : Nat) (a9 : Nat) (l11 : Int32) (l13 : Int32) (l14 : Int32) (l15 : Int32) (l16 : Int32) (S C : zS), K1274 a0 a4 a5 a8 a9 l11 l13 l14 l15 l16 S C → zJ E (RL, cL_methods, 19, (some .boolean), false, [], zTr) ({ frames := 11, cells := 45, slots := 1398, locals := 265 } : Room) (zY E Q) (fun _ _ _ => False) 1274 [(0, .ref a0), (4, .ref a4), (5, .ref a5), (8, .ref a8), (9, .ref a9), (11, .int l11), (13, .int l13), (14, .int l14), (15, .int l15), (16, .int l16)] [] (zPl E C) S 30 932) : ∀ (m1236 : Nat) (a0 : Nat) (a4 : Nat) (a5 : Nat) (a8 : Nat) (a9 : Nat) (l11 : Int32) (l13 : Int32) (l14 : Int32) (l15 : Int32) (l16 : Int32) (l17 : Int32) (l18 : Int32) (S C : zS), p_L_methods_L1236 E K1274 Q X m1236 a0 a4 a5 a8 a9 l11 l13 l14 l15 l16 l17 l18 S C → zJ E (RL, cL_methods, 19, (some .boolean), false, [], zTr) ({ frames := 11, cells := 45, slots := 1398, locals := 265 } : Room) (zY E Q) (fun _ _ _ => False) 1236 [(0, .ref a0), (4, .ref a4), (5, .ref a5), (8, .ref a8), (9, .ref a9), (11, .int l11), (13, .int l13), (14, .int l14), (15, .int l15), (16, .int l16), (17, .int l17), (18, .int l18)] [] (zPl E C) S 30 932 := by
  intro m1236
  induction m1236 with
  | zero => intro a0 a4 a5 a8 a9 l11 l13 l14 l15 l16 l17 l18 S C h; exact (show False from h).elim
  | succ m1236 ih =>
    intro a0 a4 a5 a8 a9 l11 l13 l14 l15 l16 l17 l18 S C h
    unfold p_L_methods_L1236 at h
    refine z_iload 11 dL_methods_1236 rfl ?_
    refine z_if_lt 1274 dL_methods_1238 (by decide) (fun c28 => ?_) (fun c28 => ?_)
    · have h := h.1 c28
      refine z_sub [0, 1, 2, 3, 4, 5, 6, 7, 8, 9] rfl ?_
      exact hK1274 a0 a4 a5 a8 a9 l11 l13 l14 l15 l16 S C h
    · have h := h.2 c28
      refine z_iload 9 dL_methods_1241 rfl ?_
      refine z_iload 5 dL_methods_1243 rfl ?_
      refine z_iconst (v := 4) dL_methods_1245 rfl ?_
      refine z_iload 10 dL_methods_1246 rfl ?_
      refine z_iconst (v := 3) dL_methods_1248 rfl ?_
      refine z_irem dL_methods_1249 (by decide) ?_
      refine z_imul dL_methods_1250 ?_
      refine z_iadd dL_methods_1251 ?_
      refine z_iconst (v := 3) dL_methods_1252 rfl ?_
      refine z_iconst (v := 4) dL_methods_1253 rfl ?_
      refine z_iload 11 dL_methods_1254 rfl ?_
      refine z_imul dL_methods_1256 ?_
      refine z_iadd dL_methods_1257 ?_
      refine z_ishl dL_methods_1258 ?_
      refine z_ior dL_methods_1259 ?_
      refine z_top (fun x26 hx27 => ?_)
      have h := h x26 hx27
      refine z_istore (lv' := [(16, .int x26), (0, .ref a0), (4, .ref a4), (5, .ref a5), (8, .ref a8), (9, .ref a9), (11, .int l11), (13, .int l13), (14, .int l14), (15, .int l15), (17, .int l17), (18, .int l18)]) dL_methods_1260 (Nat.le_of_ble_eq_true rfl) rfl ?_
      refine z_iload 10 dL_methods_1262 rfl ?_
      refine z_iconst (v := 3) dL_methods_1264 rfl ?_
      refine z_idiv dL_methods_1265 (by decide) ?_
      refine z_istore (lv' := [(17, .int (l17 / 3)), (16, .int x26), (0, .ref a0), (4, .ref a4), (5, .ref a5), (8, .ref a8), (9, .ref a9), (11, .int l11), (13, .int l13), (14, .int l14), (15, .int l15), (18, .int l18)]) dL_methods_1266 (Nat.le_of_ble_eq_true rfl) rfl ?_
      refine z_iinc (v := (l18 + (-1))) (lv' := [(18, .int (l18 + (-1))), (17, .int (l17 / 3)), (16, .int x26), (0, .ref a0), (4, .ref a4), (5, .ref a5), (8, .ref a8), (9, .ref a9), (11, .int l11), (13, .int l13), (14, .int l14), (15, .int l15)]) 11 dL_methods_1268 rfl rfl (Nat.le_of_ble_eq_true rfl) rfl ?_
      refine z_goto 1236 dL_methods_1271 (by decide) ?_
      refine z_sub [3, 4, 5, 6, 7, 8, 9, 10, 11, 2, 1, 0] rfl ?_
      exact ih a0 a4 a5 a8 a9 l11 l13 l14 l15 x26 (l17 / 3) (l18 + (-1)) S C h
set_option maxRecDepth 20000 in
set_option maxHeartbeats 4000000 in
theorem w_L_methods_L1215 {E : zE} {K1289 : Nat → Nat → Nat → Int32 → Int32 → Int32 → zS → zS → Prop} {K1335 : Nat → Int32 → Int32 → zS → zS → Prop} {Q : Int32 → zS → zS → Prop} {X : String → zS → Prop} (hK1289 : ∀ (a0 : Nat) (a5 : Nat) (a9 : Nat) (l11 : Int32) (l13 : Int32) (l16 : Int32) (S C : zS), K1289 a0 a5 a9 l11 l13 l16 S C → zJ E (RL, cL_methods, 19, (some .boolean), false, [], zTr) ({ frames := 11, cells := 45, slots := 1398, locals := 265 } : Room) (zY E Q) (fun _ _ _ => False) 1289 [(0, .ref a0), (5, .ref a5), (9, .ref a9), (11, .int l11), (13, .int l13), (16, .int l16)] [] (zPl E C) S 30 932) (hK1335 : ∀ (a0 : Nat) (l11 : Int32) (l13 : Int32) (S C : zS), K1335 a0 l11 l13 S C → zJ E (RL, cL_methods, 19, (some .boolean), false, [], zTr) ({ frames := 11, cells := 45, slots := 1398, locals := 265 } : Room) (zY E Q) (fun _ _ _ => False) 1335 [(0, .ref a0), (11, .int l11), (13, .int l13)] [] (zPl E C) S 30 932) : ∀ (m1215 : Nat) (a0 : Nat) (a4 : Nat) (a5 : Nat) (a8 : Nat) (a9 : Nat) (l11 : Int32) (l13 : Int32) (l14 : Int32) (l15 : Int32) (S C : zS), p_L_methods_L1215 E K1289 K1335 Q X m1215 a0 a4 a5 a8 a9 l11 l13 l14 l15 S C → zJ E (RL, cL_methods, 19, (some .boolean), false, [], zTr) ({ frames := 11, cells := 45, slots := 1398, locals := 265 } : Room) (zY E Q) (fun _ _ _ => False) 1215 [(0, .ref a0), (4, .ref a4), (5, .ref a5), (8, .ref a8), (9, .ref a9), (11, .int l11), (13, .int l13), (14, .int l14), (15, .int l15)] [] (zPl E C) S 30 932 := by
  intro m1215
  induction m1215 with
  | zero => intro a0 a4 a5 a8 a9 l11 l13 l14 l15 S C h; exact (show False from h).elim
  | succ m1215 ih =>
    intro a0 a4 a5 a8 a9 l11 l13 l14 l15 S C h
    unfold p_L_methods_L1215 at h
    refine z_iload 8 dL_methods_1215 rfl ?_
    refine z_iload 7 dL_methods_1217 rfl ?_
    refine z_icmp_ge 1335 dL_methods_1219 (by decide) (fun c32 => ?_) (fun c32 => ?_)
    · have h := h.1 c32
      refine z_sub [0, 5, 6] rfl ?_
      exact hK1335 a0 l11 l13 S C h
    · have h := h.2 c32
      refine z_iload 6 dL_methods_1222 rfl ?_
      refine z_istore (lv' := [(16, .int l13), (0, .ref a0), (4, .ref a4), (5, .ref a5), (8, .ref a8), (9, .ref a9), (11, .int l11), (13, .int l13), (14, .int l14), (15, .int l15)]) dL_methods_1224 (Nat.le_of_ble_eq_true rfl) rfl ?_
      refine z_iload 9 dL_methods_1226 rfl ?_
      refine z_istore (lv' := [(17, .int l15), (16, .int l13), (0, .ref a0), (4, .ref a4), (5, .ref a5), (8, .ref a8), (9, .ref a9), (11, .int l11), (13, .int l13), (14, .int l14), (15, .int l15)]) dL_methods_1228 (Nat.le_of_ble_eq_true rfl) rfl ?_
      refine z_iload 8 dL_methods_1230 rfl ?_
      refine z_iconst (v := 1) dL_methods_1232 rfl ?_
      refine z_isub dL_methods_1233 ?_
      refine z_istore (lv' := [(18, .int (l13 - 1)), (17, .int l15), (16, .int l13), (0, .ref a0), (4, .ref a4), (5, .ref a5), (8, .ref a8), (9, .ref a9), (11, .int l11), (13, .int l13), (14, .int l14), (15, .int l15)]) dL_methods_1234 (Nat.le_of_ble_eq_true rfl) rfl ?_
      obtain ⟨m1236, h⟩ := h
      refine z_sub [3, 4, 5, 6, 7, 8, 9, 10, 11, 2, 1, 0] rfl ?_
      refine w_L_methods_L1236 (fun a0 a4 a5 a8 a9 l11 l13 l14 l15 l16 S C h => ?_) m1236 a0 a4 a5 a8 a9 l11 l13 l14 l15 l13 l15 (l13 - 1) S C h
      refine z_aload 1 dL_methods_1274 rfl ?_
      refine z_iload 9 dL_methods_1276 rfl ?_
      refine z_aload 3 dL_methods_1278 rfl ?_
      refine z_callSI (st := []) (w_L_isSound h) zw_806 zw_804 zw_805 zw_29 zy_L_isSound rfl rfl ⟨Nat.le_of_ble_eq_true rfl, Nat.le_of_ble_eq_true rfl⟩ ⟨(Nat.le_of_ble_eq_true rfl), (Nat.le_of_ble_eq_true rfl)⟩ (Nat.le_of_ble_eq_true rfl) dL_methods_1280 (fun _ _ hx => hx.elim) (fun r30 S29 h => ?_)
      refine z_widen (k' := 30) (n' := 932) (Nat.le_refl _) (Nat.le_refl _) ?_
      refine z_if_ne 1289 dL_methods_1283 (by decide) (fun c31 => ?_) (fun c31 => ?_)
      · have h := h.1 c31
        refine z_sub [0, 2, 4, 5, 6, 9] rfl ?_
        exact hK1289 a0 a5 a9 l11 l13 l16 S29 C h
      · have h := h.2 c31
        refine z_goto 1329 dL_methods_1286 (by decide) ?_
        refine z_iinc (v := (l15 + 1)) (lv' := [(15, .int (l15 + 1)), (0, .ref a0), (4, .ref a4), (5, .ref a5), (8, .ref a8), (9, .ref a9), (11, .int l11), (13, .int l13), (14, .int l14), (16, .int l16)]) 8 dL_methods_1329 rfl rfl (Nat.le_of_ble_eq_true rfl) rfl ?_
        refine z_goto 1215 dL_methods_1332 (by decide) ?_
        refine z_sub [1, 2, 3, 4, 5, 6, 7, 8, 0] rfl ?_
        exact ih a0 a4 a5 a8 a9 l11 l13 l14 (l15 + 1) S29 C h
set_option maxRecDepth 20000 in
set_option maxHeartbeats 4000000 in
theorem w_L_methods_J1210 {E : zE}  {Q : Int32 → zS → zS → Prop} {X : String → zS → Prop}  (a0 : Nat) (a4 : Nat) (a5 : Nat) (a8 : Nat) (a9 : Nat) (l11 : Int32) (l13 : Int32) (l100 : Int32) (S C : zS) (h : p_L_methods_J1210 E  Q X a0 a4 a5 a8 a9 l11 l13 l100 S C) : zJ E (RL, cL_methods, 19, (some .boolean), false, [], zTr) ({ frames := 11, cells := 45, slots := 1398, locals := 265 } : Room) (zY E Q) (fun _ _ _ => False) 1210 [(0, .ref a0), (4, .ref a4), (5, .ref a5), (8, .ref a8), (9, .ref a9), (11, .int l11), (13, .int l13)] [.int l100] (zPl E C) S 30 932 := by
  unfold p_L_methods_J1210 at h
  refine z_istore (lv' := [(14, .int l100), (0, .ref a0), (4, .ref a4), (5, .ref a5), (8, .ref a8), (9, .ref a9), (11, .int l11), (13, .int l13)]) dL_methods_1210 (Nat.le_of_ble_eq_true rfl) rfl ?_
  refine z_iconst (v := 0) dL_methods_1212 rfl ?_
  refine z_istore (lv' := [(15, .int 0), (14, .int l100), (0, .ref a0), (4, .ref a4), (5, .ref a5), (8, .ref a8), (9, .ref a9), (11, .int l11), (13, .int l13)]) dL_methods_1213 (Nat.le_of_ble_eq_true rfl) rfl ?_
  obtain ⟨m1215, h⟩ := h
  refine z_sub [2, 3, 4, 5, 6, 7, 8, 1, 0] rfl ?_
  refine w_L_methods_L1215 (fun a0 a5 a9 l11 l13 l16 S C h => ?_) (fun a0 l11 l13 S C h => ?_) m1215 a0 a4 a5 a8 a9 l11 l13 l100 0 S C h
  · refine z_aload 1 dL_methods_1289 rfl ?_
    refine z_aload 2 dL_methods_1291 rfl ?_
    refine z_iconst (v := 1) dL_methods_1293 rfl ?_
    obtain ⟨hf33, h⟩ := h
    obtain ⟨hj35, h⟩ := h
    refine z_iald (j := 1) hf33.1 hf33.2 rfl hj35.1 hj35.2 dL_methods_1294 ?_
    refine z_iload 5 dL_methods_1295 rfl ?_
    obtain ⟨hf36, h⟩ := h
    obtain ⟨j37, hj38, h⟩ := h
    have h := h _ rfl
    refine z_iast (j := j37) hf36.1 hf36.2 hj38.1 hj38.2.1 hj38.2.2 dL_methods_1297 ?_
    obtain ⟨S39, hS40⟩ : ∃ z, z = sA S a5 j37 l16 := ⟨_, rfl⟩
    rw [← hS40] at h ⊢
    have hf36 : a5 ∈ gL S39 ∧ gK S39 a5 = 12 := by rw [hS40]; exact hf36
    have hf33 : a9 ∈ gL S39 ∧ gK S39 a9 = 12 := by rw [hS40]; exact hf33
    refine z_aload 2 dL_methods_1298 rfl ?_
    refine z_iconst (v := 1) dL_methods_1300 rfl ?_
    refine z_dup2 dL_methods_1301 rfl rfl ?_
    obtain ⟨hj42, h⟩ := h
    refine z_iald (j := 1) hf33.1 hf33.2 rfl hj42.1 hj42.2 dL_methods_1302 ?_
    refine z_iconst (v := 1) dL_methods_1303 rfl ?_
    refine z_iadd dL_methods_1304 ?_
    obtain ⟨hj44, h⟩ := h
    have h := h _ rfl
    refine z_iast (j := 1) hf33.1 hf33.2 rfl hj44.1 hj44.2 dL_methods_1305 ?_
    obtain ⟨S45, hS46⟩ : ∃ z, z = sA S39 a9 1 ((gA S39 a9 1) + 1) := ⟨_, rfl⟩
    rw [← hS46] at h ⊢
    have hf36 : a5 ∈ gL S45 ∧ gK S45 a5 = 12 := by rw [hS46]; exact hf36
    have hf33 : a9 ∈ gL S45 ∧ gK S45 a9 = 12 := by rw [hS46]; exact hf33
    refine z_aload_n 0 dL_methods_1306 rfl rfl ?_
    refine z_iload 3 dL_methods_1307 rfl ?_
    refine z_iload 4 dL_methods_1309 rfl ?_
    refine zz_fl ?_
    refine z_callW (st := []) (w_L_compose h) zw_730 zw_728 zw_729 zw_29 zy_L_compose rfl rfl ⟨Nat.le_of_ble_eq_true rfl, Nat.le_of_ble_eq_true rfl⟩ ⟨(Nat.le_of_ble_eq_true rfl), (Nat.le_of_ble_eq_true rfl)⟩ (Nat.le_of_ble_eq_true rfl) dL_methods_1311 (fun r48 C47 h => ?_)
    refine z_widen (k' := 45) (n' := 1398) (Nat.le_refl _) (Nat.le_refl _) ?_
    refine zz_fl ?_
    refine z_aload 2 dL_methods_1314 rfl ?_
    refine z_iconst (v := 1) dL_methods_1316 rfl ?_
    obtain ⟨hj50, h⟩ := h
    refine z_iald (j := 1) hf33.1 hf33.2 rfl hj50.1 hj50.2 dL_methods_1317 ?_
    refine z_iconst (v := 1) dL_methods_1318 rfl ?_
    refine z_isub dL_methods_1319 ?_
    refine z_icmp_ne 1327 dL_methods_1320 (by decide) (fun c53 => ?_) (fun c53 => ?_)
    · have h := h.1 c53
      refine z_iconst (v := 0) dL_methods_1327 rfl ?_
      obtain ⟨hz51, h⟩ := h
      exact z_zreturn ⟨_, _, rfl, rfl, h⟩ rfl (zbn hz51) (Nat.le_of_ble_eq_true rfl) (Nat.le_of_ble_eq_true rfl) dL_methods_1328
    · have h := h.2 c53
      refine z_iconst (v := 1) dL_methods_1323 rfl ?_
      refine z_goto 1328 dL_methods_1324 (by decide) ?_
      obtain ⟨hz52, h⟩ := h
      exact z_zreturn ⟨_, _, rfl, rfl, h⟩ rfl (zbn hz52) (Nat.le_of_ble_eq_true rfl) (Nat.le_of_ble_eq_true rfl) dL_methods_1328
  · refine z_aload_n 0 dL_methods_1335 rfl rfl ?_
    refine z_iload 1 dL_methods_1336 rfl ?_
    refine z_iload 2 dL_methods_1338 rfl ?_
    refine zz_fl ?_
    refine z_callW (st := []) (w_L_compose h) zw_730 zw_728 zw_729 zw_29 zy_L_compose rfl rfl ⟨Nat.le_of_ble_eq_true rfl, Nat.le_of_ble_eq_true rfl⟩ ⟨(Nat.le_of_ble_eq_true rfl), (Nat.le_of_ble_eq_true rfl)⟩ (Nat.le_of_ble_eq_true rfl) dL_methods_1340 (fun r57 C56 h => ?_)
    refine z_widen (k' := 45) (n' := 1398) (Nat.le_refl _) (Nat.le_refl _) ?_
    refine zz_fl ?_
    refine z_iconst (v := (-1)) dL_methods_1343 rfl ?_
    refine z_icmp_ne 1351 dL_methods_1344 (by decide) (fun c60 => ?_) (fun c60 => ?_)
    · have h := h.1 c60
      refine z_iconst (v := 0) dL_methods_1351 rfl ?_
      obtain ⟨hz58, h⟩ := h
      exact z_zreturn ⟨_, _, rfl, rfl, h⟩ rfl (zbn hz58) (Nat.le_of_ble_eq_true rfl) (Nat.le_of_ble_eq_true rfl) dL_methods_1352
    · have h := h.2 c60
      refine z_iconst (v := 1) dL_methods_1347 rfl ?_
      refine z_goto 1352 dL_methods_1348 (by decide) ?_
      obtain ⟨hz59, h⟩ := h
      exact z_zreturn ⟨_, _, rfl, rfl, h⟩ rfl (zbn hz59) (Nat.le_of_ble_eq_true rfl) (Nat.le_of_ble_eq_true rfl) dL_methods_1352
set_option maxRecDepth 20000 in
set_option maxHeartbeats 4000000 in
theorem w_L_methods_J931 {E : zE}  {Q : Int32 → zS → zS → Prop} {X : String → zS → Prop}  (a0 : Nat) (a9 : Nat) (l11 : Int32) (l13 : Int32) (S C : zS) (h : p_L_methods_J931 E  Q X a0 a9 l11 l13 S C) : zJ E (RL, cL_methods, 19, (some .boolean), false, [], zTr) ({ frames := 11, cells := 45, slots := 1398, locals := 265 } : Room) (zY E Q) (fun _ _ _ => False) 931 [(0, .ref a0), (9, .ref a9), (11, .int l11), (13, .int l13)] [] (zPl E C) S 6 68 := by
  unfold p_L_methods_J931 at h
  refine z_aload 1 dL_methods_931 rfl ?_
  refine z_bipush (v := 25) dL_methods_933 rfl ?_
  refine z_dup2 dL_methods_935 rfl rfl ?_
  obtain ⟨hf148, h⟩ := h
  obtain ⟨hj150, h⟩ := h
  refine z_iald (j := 25) hf148.1 hf148.2 rfl hj150.1 hj150.2 dL_methods_936 ?_
  refine z_iload 2 dL_methods_937 rfl ?_
  refine z_iconst (v := 4) dL_methods_939 rfl ?_
  refine z_iload 3 dL_methods_940 rfl ?_
  refine z_imul dL_methods_942 ?_
  refine z_iadd dL_methods_943 ?_
  refine z_iconst (v := 4) dL_methods_944 rfl ?_
  refine z_aload 1 dL_methods_945 rfl ?_
  refine z_bipush (v := 24) dL_methods_947 rfl ?_
  obtain ⟨hj152, h⟩ := h
  refine z_iald (j := 24) hf148.1 hf148.2 rfl hj152.1 hj152.2 dL_methods_949 ?_
  refine z_imul dL_methods_950 ?_
  refine z_ishl dL_methods_951 ?_
  refine z_ior dL_methods_952 ?_
  obtain ⟨hj154, h⟩ := h
  have h := h _ rfl
  refine z_iast (j := 25) hf148.1 hf148.2 rfl hj154.1 hj154.2 dL_methods_953 ?_
  obtain ⟨S155, hS156⟩ : ∃ z, z = sA S a9 25 ((gA S a9 25) ||| ((l11 + (4 * l13)) <<< ((4 * (gA S a9 24)) &&& 31))) := ⟨_, rfl⟩
  rw [← hS156] at h ⊢
  have hf148 : a9 ∈ gL S155 ∧ gK S155 a9 = 12 := by rw [hS156]; exact hf148
  refine z_aload 1 dL_methods_954 rfl ?_
  refine z_bipush (v := 24) dL_methods_956 rfl ?_
  refine z_dup2 dL_methods_958 rfl rfl ?_
  obtain ⟨hj158, h⟩ := h
  refine z_iald (j := 24) hf148.1 hf148.2 rfl hj158.1 hj158.2 dL_methods_959 ?_
  refine z_iconst (v := 1) dL_methods_960 rfl ?_
  refine z_iadd dL_methods_961 ?_
  obtain ⟨hj160, h⟩ := h
  have h := h _ rfl
  refine z_iast (j := 24) hf148.1 hf148.2 rfl hj160.1 hj160.2 dL_methods_962 ?_
  obtain ⟨S161, hS162⟩ : ∃ z, z = sA S155 a9 24 ((gA S155 a9 24) + 1) := ⟨_, rfl⟩
  rw [← hS162] at h ⊢
  have hf148 : a9 ∈ gL S161 ∧ gK S161 a9 = 12 := by rw [hS162]; exact hf148
  refine z_aload_n 0 dL_methods_963 rfl rfl ?_
  refine z_iload 2 dL_methods_964 rfl ?_
  refine z_iload 3 dL_methods_966 rfl ?_
  refine zz_fl ?_
  refine z_callW (st := []) (w_L_lead h) zw_705 zw_703 zw_704 zw_29 zy_L_lead rfl rfl ⟨Nat.le_of_ble_eq_true rfl, Nat.le_of_ble_eq_true rfl⟩ ⟨(Nat.le_of_ble_eq_true rfl), (Nat.le_of_ble_eq_true rfl)⟩ (Nat.le_of_ble_eq_true rfl) dL_methods_968 (fun r164 C163 h => ?_)
  refine z_widen (k' := 9) (n' := 102) (Nat.le_refl _) (Nat.le_refl _) ?_
  refine zz_fl ?_
  refine z_aload 1 dL_methods_971 rfl ?_
  refine z_bipush (v := 24) dL_methods_973 rfl ?_
  obtain ⟨hj166, h⟩ := h
  refine z_iald (j := 24) hf148.1 hf148.2 rfl hj166.1 hj166.2 dL_methods_975 ?_
  refine z_icmp_ne 983 dL_methods_976 (by decide) (fun c169 => ?_) (fun c169 => ?_)
  · have h := h.1 c169
    refine z_iconst (v := 0) dL_methods_983 rfl ?_
    obtain ⟨hz167, h⟩ := h
    exact z_zreturn ⟨_, _, rfl, rfl, h⟩ rfl (zbn hz167) (Nat.le_of_ble_eq_true rfl) (Nat.le_of_ble_eq_true rfl) dL_methods_984
  · have h := h.2 c169
    refine z_iconst (v := 1) dL_methods_979 rfl ?_
    refine z_goto 984 dL_methods_980 (by decide) ?_
    obtain ⟨hz168, h⟩ := h
    exact z_zreturn ⟨_, _, rfl, rfl, h⟩ rfl (zbn hz168) (Nat.le_of_ble_eq_true rfl) (Nat.le_of_ble_eq_true rfl) dL_methods_984
set_option maxRecDepth 20000 in
set_option maxHeartbeats 4000000 in
theorem w_L_methods_L585 {E : zE} {K625 : Nat → Nat → Nat → Nat → Nat → Nat → Nat → Int32 → Int32 → Int32 → Int32 → zS → zS → Prop} {Q : Int32 → zS → zS → Prop} {X : String → zS → Prop} (hK625 : ∀ (a0 : Nat) (a4 : Nat) (a5 : Nat) (a6 : Nat) (a7 : Nat) (a8 : Nat) (a9 : Nat) (l11 : Int32) (l12 : Int32) (l13 : Int32) (l14 : Int32) (S C : zS), K625 a0 a4 a5 a6 a7 a8 a9 l11 l12 l13 l14 S C → zJ E (RL, cL_methods, 19, (some .boolean), false, [], zTr) ({ frames := 11, cells := 45, slots := 1398, locals := 265 } : Room) (zY E Q) (fun _ _ _ => False) 625 [(0, .ref a0), (4, .ref a4), (5, .ref a5), (6, .ref a6), (7, .ref a7), (8, .ref a8), (9, .ref a9), (11, .int l11), (12, .int l12), (13, .int l13), (14, .int l14)] [] (zPl E C) S 0 0) : ∀ (m585 : Nat) (a0 : Nat) (l3 : Int32) (a4 : Nat) (a5 : Nat) (a6 : Nat) (a7 : Nat) (a8 : Nat) (a9 : Nat) (l11 : Int32) (l12 : Int32) (l13 : Int32) (l14 : Int32) (l15 : Int32) (S C : zS), p_L_methods_L585 E K625 Q X m585 a0 l3 a4 a5 a6 a7 a8 a9 l11 l12 l13 l14 l15 S C → zJ E (RL, cL_methods, 19, (some .boolean), false, [], zTr) ({ frames := 11, cells := 45, slots := 1398, locals := 265 } : Room) (zY E Q) (fun _ _ _ => False) 585 [(0, .ref a0), (3, .int l3), (4, .ref a4), (5, .ref a5), (6, .ref a6), (7, .ref a7), (8, .ref a8), (9, .ref a9), (11, .int l11), (12, .int l12), (13, .int l13), (14, .int l14), (15, .int l15)] [] (zPl E C) S 0 0 := by
  intro m585
  induction m585 with
  | zero => intro a0 l3 a4 a5 a6 a7 a8 a9 l11 l12 l13 l14 l15 S C h; unfold p_L_methods_L585 at h; exact h.elim
  | succ m585 ih =>
    intro a0 l3 a4 a5 a6 a7 a8 a9 l11 l12 l13 l14 l15 S C h
    unfold p_L_methods_L585 at h
    refine z_iload 12 dL_methods_585 rfl ?_
    refine z_bipush (v := 64) dL_methods_587 rfl ?_
    refine z_icmp_ge 625 dL_methods_589 (by decide) (fun c202 => ?_) (fun c202 => ?_)
    · have h := h.1 c202
      refine z_sub [0, 2, 3, 4, 5, 6, 7, 8, 9, 10, 11] rfl ?_
      exact hK625 a0 a4 a5 a6 a7 a8 a9 l11 l12 l13 l14 S C h
    · have h := h.2 c202
      refine z_iload_n 1 dL_methods_592 rfl rfl ?_
      refine z_sipush (v := 1536) dL_methods_593 rfl ?_
      refine z_iand dL_methods_596 ?_
      refine z_if_le 625 dL_methods_597 (by decide) (fun c201 => ?_) (fun c201 => ?_)
      · have h := h.1 c201
        refine z_sub [0, 2, 3, 4, 5, 6, 7, 8, 9, 10, 11] rfl ?_
        exact hK625 a0 a4 a5 a6 a7 a8 a9 l11 l12 l13 l14 S C h
      · have h := h.2 c201
        refine z_iload 9 dL_methods_600 rfl ?_
        refine z_iload 11 dL_methods_602 rfl ?_
        refine z_callSI (st := []) (w_L_isChange h) zw_568 zw_566 zw_567 zw_29 zy_L_isChange rfl rfl ⟨Nat.le_of_ble_eq_true rfl, Nat.le_of_ble_eq_true rfl⟩ ⟨(Nat.le_of_ble_eq_true rfl), (Nat.le_of_ble_eq_true rfl)⟩ (Nat.le_of_ble_eq_true rfl) dL_methods_604 (fun _ _ hx => hx.elim) (fun r199 S198 h => ?_)
        refine z_widen (k' := 0) (n' := 0) (Nat.le_refl _) (Nat.le_refl _) ?_
        refine z_if_ne 625 dL_methods_607 (by decide) (fun c200 => ?_) (fun c200 => ?_)
        · have h := h.1 c200
          refine z_sub [0, 2, 3, 4, 5, 6, 7, 8, 9, 10, 11] rfl ?_
          exact hK625 a0 a4 a5 a6 a7 a8 a9 l11 l12 l13 l14 S198 C h
        · have h := h.2 c200
          refine z_iload 11 dL_methods_610 rfl ?_
          refine z_iconst (v := 1) dL_methods_612 rfl ?_
          refine z_iadd dL_methods_613 ?_
          refine z_bipush (v := 64) dL_methods_614 rfl ?_
          refine z_irem dL_methods_616 (by decide) ?_
          refine z_istore (lv' := [(14, .int ((l14 + 1) - (l14 + 1) / 64 * 64)), (0, .ref a0), (3, .int l3), (4, .ref a4), (5, .ref a5), (6, .ref a6), (7, .ref a7), (8, .ref a8), (9, .ref a9), (11, .int l11), (12, .int l12), (13, .int l13), (15, .int l15)]) dL_methods_617 (Nat.le_of_ble_eq_true rfl) rfl ?_
          refine z_iinc (v := (l15 + 1)) (lv' := [(15, .int (l15 + 1)), (14, .int ((l14 + 1) - (l14 + 1) / 64 * 64)), (0, .ref a0), (3, .int l3), (4, .ref a4), (5, .ref a5), (6, .ref a6), (7, .ref a7), (8, .ref a8), (9, .ref a9), (11, .int l11), (12, .int l12), (13, .int l13)]) 12 dL_methods_619 rfl rfl (Nat.le_of_ble_eq_true rfl) rfl ?_
          refine z_goto 585 dL_methods_622 (by decide) ?_
          refine z_sub [2, 3, 4, 5, 6, 7, 8, 9, 10, 11, 12, 1, 0] rfl ?_
          exact ih a0 l3 a4 a5 a6 a7 a8 a9 l11 l12 l13 ((l14 + 1) - (l14 + 1) / 64 * 64) (l15 + 1) S198 C h
set_option maxRecDepth 20000 in
set_option maxHeartbeats 4000000 in
theorem w_L_methods_J625 {E : zE}  {Q : Int32 → zS → zS → Prop} {X : String → zS → Prop}  (a0 : Nat) (a4 : Nat) (a5 : Nat) (a6 : Nat) (a7 : Nat) (a8 : Nat) (a9 : Nat) (l11 : Int32) (l12 : Int32) (l13 : Int32) (l14 : Int32) (S C : zS) (h : p_L_methods_J625 E  Q X a0 a4 a5 a6 a7 a8 a9 l11 l12 l13 l14 S C) : zJ E (RL, cL_methods, 19, (some .boolean), false, [], zTr) ({ frames := 11, cells := 45, slots := 1398, locals := 265 } : Room) (zY E Q) (fun _ _ _ => False) 625 [(0, .ref a0), (4, .ref a4), (5, .ref a5), (6, .ref a6), (7, .ref a7), (8, .ref a8), (9, .ref a9), (11, .int l11), (12, .int l12), (13, .int l13), (14, .int l14)] [] (zPl E C) S 0 0 := by
  unfold p_L_methods_J625 at h
  refine z_aload_n 0 dL_methods_625 rfl rfl ?_
  refine z_iload 7 dL_methods_626 rfl ?_
  refine z_iconst (v := 0) dL_methods_628 rfl ?_
  refine z_iconst (v := 0) dL_methods_629 rfl ?_
  refine zz_fl ?_
  refine z_callW (st := []) (w_L_setCall h) zw_621 zw_619 zw_620 zw_29 zy_L_setCall rfl rfl ⟨Nat.le_of_ble_eq_true rfl, Nat.le_of_ble_eq_true rfl⟩ ⟨(Nat.le_of_ble_eq_true rfl), (Nat.le_of_ble_eq_true rfl)⟩ (Nat.le_of_ble_eq_true rfl) dL_methods_630 (fun r204 C203 h => ?_)
  refine z_widen (k' := 3) (n' := 18) (Nat.le_refl _) (Nat.le_refl _) ?_
  refine zz_fl ?_
  refine z_sipush (v := (-7200)) dL_methods_633 rfl ?_
  refine z_icmp_ne 653 dL_methods_636 (by decide) (fun c251 => ?_) (fun c251 => ?_)
  · have h := h.1 c251
    refine z_iconst (v := 0) dL_methods_653 rfl ?_
    obtain ⟨hz205, h⟩ := h
    exact z_zreturn ⟨_, _, rfl, rfl, h⟩ rfl (zbn hz205) (Nat.le_of_ble_eq_true rfl) (Nat.le_of_ble_eq_true rfl) dL_methods_654
  · have h := h.2 c251
    refine z_aload_n 0 dL_methods_639 rfl rfl ?_
    refine z_iload 7 dL_methods_640 rfl ?_
    refine z_iconst (v := 3) dL_methods_642 rfl ?_
    refine z_iconst (v := 0) dL_methods_643 rfl ?_
    refine zz_fl ?_
    refine z_callW (st := []) (w_L_setCall h) zw_621 zw_619 zw_620 zw_29 zy_L_setCall rfl rfl ⟨Nat.le_of_ble_eq_true rfl, Nat.le_of_ble_eq_true rfl⟩ ⟨(Nat.le_of_ble_eq_true rfl), (Nat.le_of_ble_eq_true rfl)⟩ (Nat.le_of_ble_eq_true rfl) dL_methods_644 (fun r207 C206 h => ?_)
    refine z_widen (k' := 6) (n' := 36) (Nat.le_refl _) (Nat.le_refl _) ?_
    refine zz_fl ?_
    refine z_sipush (v := (-7200)) dL_methods_647 rfl ?_
    refine z_icmp_eq 655 dL_methods_650 (by decide) (fun c250 => ?_) (fun c250 => ?_)
    · have h := h.1 c250
      refine z_iload 8 dL_methods_655 rfl ?_
      refine z_iload 10 dL_methods_657 rfl ?_
      refine z_callSI (st := []) (w_L_isChange h) zw_568 zw_566 zw_567 zw_29 zy_L_isChange rfl rfl ⟨Nat.le_of_ble_eq_true rfl, Nat.le_of_ble_eq_true rfl⟩ ⟨(Nat.le_of_ble_eq_true rfl), (Nat.le_of_ble_eq_true rfl)⟩ (Nat.le_of_ble_eq_true rfl) dL_methods_659 (fun _ _ hx => hx.elim) (fun r209 S208 h => ?_)
      refine z_widen (k' := 6) (n' := 36) (Nat.le_refl _) (Nat.le_refl _) ?_
      refine z_if_ne 687 dL_methods_662 (by decide) (fun c248 => ?_) (fun c248 => ?_)
      · have h := h.1 c248
        refine z_aload 6 dL_methods_687 rfl ?_
        refine z_bipush (v := 6) dL_methods_689 rfl ?_
        obtain ⟨hf210, h⟩ := h
        obtain ⟨hj212, h⟩ := h
        refine z_iald (j := 6) hf210.1 hf210.2 rfl hj212.1 hj212.2 dL_methods_691 ?_
        refine z_iconst (v := 1) dL_methods_692 rfl ?_
        refine z_icmp_ne 718 dL_methods_693 (by decide) (fun c242 => ?_) (fun c242 => ?_)
        · have h := h.1 c242
          refine z_aload 1 dL_methods_718 rfl ?_
          refine z_iload 7 dL_methods_720 rfl ?_
          obtain ⟨hf213, h⟩ := h
          obtain ⟨j214, hj215, h⟩ := h
          refine z_lald (j := j214) hf213.1 hf213.2 hj215.1 hj215.2.1 hj215.2.2 dL_methods_722 ?_
          refine z_iload 9 dL_methods_723 rfl ?_
          refine z_aload 1 dL_methods_725 rfl ?_
          refine z_iload 7 dL_methods_727 rfl ?_
          obtain ⟨j216, hj217, h⟩ := h
          refine z_lald (j := j216) hf213.1 hf213.2 hj217.1 hj217.2.1 hj217.2.2 dL_methods_729 ?_
          refine z_callSI (st := [.int l13, .long (gJ S208 a4 j214)]) (w_L_size h) zw_789 zw_787 zw_788 zw_29 zy_L_size rfl rfl ⟨Nat.le_of_ble_eq_true rfl, Nat.le_of_ble_eq_true rfl⟩ ⟨(Nat.le_of_ble_eq_true rfl), (Nat.le_of_ble_eq_true rfl)⟩ (Nat.le_of_ble_eq_true rfl) dL_methods_730 (fun _ _ hx => hx.elim) (fun r219 S218 h => ?_)
          refine z_widen (k' := 6) (n' := 36) (Nat.le_refl _) (Nat.le_refl _) ?_
          refine z_iconst (v := 1) dL_methods_733 rfl ?_
          refine z_isub dL_methods_734 ?_
          refine z_callSI (st := []) (w_L_its h) zw_792 zw_790 zw_791 zw_29 zy_L_its rfl rfl ⟨Nat.le_of_ble_eq_true rfl, Nat.le_of_ble_eq_true rfl⟩ ⟨(Nat.le_of_ble_eq_true rfl), (Nat.le_of_ble_eq_true rfl)⟩ (Nat.le_of_ble_eq_true rfl) dL_methods_735 (fun _ _ hx => hx.elim) (fun r221 S220 h => ?_)
          refine z_widen (k' := 6) (n' := 36) (Nat.le_refl _) (Nat.le_refl _) ?_
          refine z_istore (lv' := [(15, .int r221), (0, .ref a0), (4, .ref a4), (5, .ref a5), (6, .ref a6), (7, .ref a7), (8, .ref a8), (9, .ref a9), (11, .int l11), (12, .int l12), (13, .int l13), (14, .int l14)]) dL_methods_738 (Nat.le_of_ble_eq_true rfl) rfl ?_
          refine z_aload 2 dL_methods_740 rfl ?_
          refine z_iload 8 dL_methods_742 rfl ?_
          refine z_aload 2 dL_methods_744 rfl ?_
          refine z_iload 8 dL_methods_746 rfl ?_
          obtain ⟨hf222, h⟩ := h
          obtain ⟨j223, hj224, h⟩ := h
          refine z_lald (j := j223) hf222.1 hf222.2 hj224.1 hj224.2.1 hj224.2.2 dL_methods_748 ?_
          refine z_ldc2 zw_793 dL_methods_749 ?_
          refine z_bipush (v := 24) dL_methods_752 rfl ?_
          refine z_bipush (v := 6) dL_methods_754 rfl ?_
          refine z_iload 10 dL_methods_756 rfl ?_
          refine z_imul dL_methods_758 ?_
          refine z_iadd dL_methods_759 ?_
          refine z_lshl dL_methods_760 ?_
          refine z_ldc2 zw_794 dL_methods_761 ?_
          refine z_lxor dL_methods_764 ?_
          refine z_land dL_methods_765 ?_
          refine z_iload 11 dL_methods_766 rfl ?_
          refine z_i2l dL_methods_768 rfl ?_
          refine z_bipush (v := 24) dL_methods_769 rfl ?_
          refine z_bipush (v := 6) dL_methods_771 rfl ?_
          refine z_iload 10 dL_methods_773 rfl ?_
          refine z_imul dL_methods_775 ?_
          refine z_iadd dL_methods_776 ?_
          refine z_lshl dL_methods_777 ?_
          refine z_lor dL_methods_778 ?_
          obtain ⟨j225, hj226, h⟩ := h
          have h := h _ rfl
          refine z_last (j := j225) hf222.1 hf222.2 hj226.1 hj226.2.1 hj226.2.2 dL_methods_779 ?_
          obtain ⟨S227, hS228⟩ : ∃ z, z = sJ S220 a4 j225 (((gJ S220 a4 j223) &&& ((63 <<< (((24 + (6 * l13)) : Int32).toInt64 &&& 63)) ^^^ (-1))) ||| ((l14 : Int32).toInt64 <<< (((24 + (6 * l13)) : Int32).toInt64 &&& 63))) := ⟨_, rfl⟩
          rw [← hS228] at h ⊢
          have hf222 : a4 ∈ gL S227 ∧ gK S227 a4 = 17 := by rw [hS228]; exact hf222
          refine z_aload 2 dL_methods_780 rfl ?_
          refine z_aload 3 dL_methods_782 rfl ?_
          refine z_aload 4 dL_methods_784 rfl ?_
          refine z_aload 5 dL_methods_786 rfl ?_
          refine z_aload 6 dL_methods_788 rfl ?_
          refine z_aload 7 dL_methods_790 rfl ?_
          refine z_callSI (st := []) (w_L_drop h) zw_797 zw_795 zw_796 zw_29 zy_L_drop rfl rfl ⟨Nat.le_of_ble_eq_true rfl, Nat.le_of_ble_eq_true rfl⟩ ⟨(Nat.le_of_ble_eq_true rfl), (Nat.le_of_ble_eq_true rfl)⟩ (Nat.le_of_ble_eq_true rfl) dL_methods_792 (fun _ _ hx => hx.elim) (fun r230 S229 h => ?_)
          refine z_widen (k' := 6) (n' := 36) (Nat.le_refl _) (Nat.le_refl _) ?_
          refine z_pop dL_methods_795 rfl ?_
          refine z_aload_n 1 dL_methods_796 rfl rfl ?_
          refine z_iload 8 dL_methods_797 rfl ?_
          refine z_iload 10 dL_methods_799 rfl ?_
          refine z_iload 11 dL_methods_801 rfl ?_
          refine zz_fl ?_
          refine z_callW (st := []) (w_L_setCall h) zw_621 zw_619 zw_620 zw_29 zy_L_setCall rfl rfl ⟨Nat.le_of_ble_eq_true rfl, Nat.le_of_ble_eq_true rfl⟩ ⟨(Nat.le_of_ble_eq_true rfl), (Nat.le_of_ble_eq_true rfl)⟩ (Nat.le_of_ble_eq_true rfl) dL_methods_803 (fun r232 C231 h => ?_)
          refine z_widen (k' := 9) (n' := 54) (Nat.le_refl _) (Nat.le_refl _) ?_
          refine zz_fl ?_
          refine z_iload 0 dL_methods_806 rfl ?_
          refine z_icmp_ne 815 dL_methods_808 (by decide) (fun c235 => ?_) (fun c235 => ?_)
          · have h := h.1 c235
            refine z_iconst (v := 0) dL_methods_815 rfl ?_
            obtain ⟨hz233, h⟩ := h
            exact z_zreturn ⟨_, _, rfl, rfl, h⟩ rfl (zbn hz233) (Nat.le_of_ble_eq_true rfl) (Nat.le_of_ble_eq_true rfl) dL_methods_816
          · have h := h.2 c235
            refine z_iconst (v := 1) dL_methods_811 rfl ?_
            refine z_goto 816 dL_methods_812 (by decide) ?_
            obtain ⟨hz234, h⟩ := h
            exact z_zreturn ⟨_, _, rfl, rfl, h⟩ rfl (zbn hz234) (Nat.le_of_ble_eq_true rfl) (Nat.le_of_ble_eq_true rfl) dL_methods_816
        · have h := h.2 c242
          refine z_aload_n 0 dL_methods_696 rfl rfl ?_
          refine z_iload 7 dL_methods_697 rfl ?_
          refine z_iload 9 dL_methods_699 rfl ?_
          refine z_iload 10 dL_methods_701 rfl ?_
          refine zz_fl ?_
          refine z_callW (st := []) (w_L_setCall h) zw_621 zw_619 zw_620 zw_29 zy_L_setCall rfl rfl ⟨Nat.le_of_ble_eq_true rfl, Nat.le_of_ble_eq_true rfl⟩ ⟨(Nat.le_of_ble_eq_true rfl), (Nat.le_of_ble_eq_true rfl)⟩ (Nat.le_of_ble_eq_true rfl) dL_methods_703 (fun r238 C237 h => ?_)
          refine z_widen (k' := 9) (n' := 54) (Nat.le_refl _) (Nat.le_refl _) ?_
          refine zz_fl ?_
          refine z_sipush (v := (-7300)) dL_methods_706 rfl ?_
          refine z_icmp_ne 716 dL_methods_709 (by decide) (fun c241 => ?_) (fun c241 => ?_)
          · have h := h.1 c241
            refine z_iconst (v := 0) dL_methods_716 rfl ?_
            obtain ⟨hz239, h⟩ := h
            exact z_zreturn ⟨_, _, rfl, rfl, h⟩ rfl (zbn hz239) (Nat.le_of_ble_eq_true rfl) (Nat.le_of_ble_eq_true rfl) dL_methods_717
          · have h := h.2 c241
            refine z_iconst (v := 1) dL_methods_712 rfl ?_
            refine z_goto 717 dL_methods_713 (by decide) ?_
            obtain ⟨hz240, h⟩ := h
            exact z_zreturn ⟨_, _, rfl, rfl, h⟩ rfl (zbn hz240) (Nat.le_of_ble_eq_true rfl) (Nat.le_of_ble_eq_true rfl) dL_methods_717
      · have h := h.2 c248
        refine z_aload_n 0 dL_methods_665 rfl rfl ?_
        refine z_iload 7 dL_methods_666 rfl ?_
        refine z_iload 9 dL_methods_668 rfl ?_
        refine z_iload 10 dL_methods_670 rfl ?_
        refine zz_fl ?_
        refine z_callW (st := []) (w_L_setCall h) zw_621 zw_619 zw_620 zw_29 zy_L_setCall rfl rfl ⟨Nat.le_of_ble_eq_true rfl, Nat.le_of_ble_eq_true rfl⟩ ⟨(Nat.le_of_ble_eq_true rfl), (Nat.le_of_ble_eq_true rfl)⟩ (Nat.le_of_ble_eq_true rfl) dL_methods_672 (fun r244 C243 h => ?_)
        refine z_widen (k' := 9) (n' := 54) (Nat.le_refl _) (Nat.le_refl _) ?_
        refine zz_fl ?_
        refine z_sipush (v := (-7200)) dL_methods_675 rfl ?_
        refine z_icmp_ne 685 dL_methods_678 (by decide) (fun c247 => ?_) (fun c247 => ?_)
        · have h := h.1 c247
          refine z_iconst (v := 0) dL_methods_685 rfl ?_
          obtain ⟨hz245, h⟩ := h
          exact z_zreturn ⟨_, _, rfl, rfl, h⟩ rfl (zbn hz245) (Nat.le_of_ble_eq_true rfl) (Nat.le_of_ble_eq_true rfl) dL_methods_686
        · have h := h.2 c247
          refine z_iconst (v := 1) dL_methods_681 rfl ?_
          refine z_goto 686 dL_methods_682 (by decide) ?_
          obtain ⟨hz246, h⟩ := h
          exact z_zreturn ⟨_, _, rfl, rfl, h⟩ rfl (zbn hz246) (Nat.le_of_ble_eq_true rfl) (Nat.le_of_ble_eq_true rfl) dL_methods_686
    · have h := h.2 c250
      refine z_iconst (v := 0) dL_methods_653 rfl ?_
      obtain ⟨hz249, h⟩ := h
      exact z_zreturn ⟨_, _, rfl, rfl, h⟩ rfl (zbn hz249) (Nat.le_of_ble_eq_true rfl) (Nat.le_of_ble_eq_true rfl) dL_methods_654
set_option maxRecDepth 20000 in
set_option maxHeartbeats 4000000 in
theorem w_L_methods_L223 {E : zE} {K263 : Nat → Int32 → Nat → Nat → Int32 → Int32 → zS → zS → Prop} {Q : Int32 → zS → zS → Prop} {X : String → zS → Prop} (hK263 : ∀ (a0 : Nat) (l3 : Int32) (a4 : Nat) (a9 : Nat) (l10 : Int32) (l11 : Int32) (S C : zS), K263 a0 l3 a4 a9 l10 l11 S C → zJ E (RL, cL_methods, 19, (some .boolean), false, [], zTr) ({ frames := 11, cells := 45, slots := 1398, locals := 265 } : Room) (zY E Q) (fun _ _ _ => False) 263 [(0, .ref a0), (3, .int l3), (4, .ref a4), (9, .ref a9), (10, .int l10), (11, .int l11)] [] (zPl E C) S 0 0) : ∀ (m223 : Nat) (a0 : Nat) (l3 : Int32) (a4 : Nat) (a9 : Nat) (l10 : Int32) (l11 : Int32) (l12 : Int32) (S C : zS), p_L_methods_L223 E K263 Q X m223 a0 l3 a4 a9 l10 l11 l12 S C → zJ E (RL, cL_methods, 19, (some .boolean), false, [], zTr) ({ frames := 11, cells := 45, slots := 1398, locals := 265 } : Room) (zY E Q) (fun _ _ _ => False) 223 [(0, .ref a0), (3, .int l3), (4, .ref a4), (9, .ref a9), (10, .int l10), (11, .int l11), (12, .int l12)] [] (zPl E C) S 0 0 := by
  intro m223
  induction m223 with
  | zero => intro a0 l3 a4 a9 l10 l11 l12 S C h; exact (show False from h).elim
  | succ m223 ih =>
    intro a0 l3 a4 a9 l10 l11 l12 S C h
    unfold p_L_methods_L223 at h
    refine z_iload 6 dL_methods_223 rfl ?_
    refine z_aload 3 dL_methods_225 rfl ?_
    refine z_bipush (v := 22) dL_methods_227 rfl ?_
    obtain ⟨hf274, h⟩ := h
    obtain ⟨hj276, h⟩ := h
    refine z_iald (j := 22) hf274.1 hf274.2 rfl hj276.1 hj276.2 dL_methods_229 ?_
    refine z_icmp_ge 263 dL_methods_230 (by decide) (fun c281 => ?_) (fun c281 => ?_)
    · have h := h.1 c281
      refine z_sub [0, 1, 2, 3, 4, 5] rfl ?_
      exact hK263 a0 l3 a4 a9 l10 l11 S C h
    · have h := h.2 c281
      refine z_iload 5 dL_methods_233 rfl ?_
      refine z_iload 4 dL_methods_235 rfl ?_
      refine z_aload 3 dL_methods_237 rfl ?_
      refine z_bipush (v := 23) dL_methods_239 rfl ?_
      obtain ⟨hj278, h⟩ := h
      refine z_iald (j := 23) hf274.1 hf274.2 rfl hj278.1 hj278.2 dL_methods_241 ?_
      refine z_bipush (v := 6) dL_methods_242 rfl ?_
      refine z_iload 6 dL_methods_244 rfl ?_
      refine z_imul dL_methods_246 ?_
      refine z_ishr dL_methods_247 ?_
      refine z_bipush (v := 63) dL_methods_248 rfl ?_
      refine z_iand dL_methods_250 ?_
      refine z_callSI (st := [.int l11]) (w_L_isChange h) zw_568 zw_566 zw_567 zw_29 zy_L_isChange rfl rfl ⟨Nat.le_of_ble_eq_true rfl, Nat.le_of_ble_eq_true rfl⟩ ⟨(Nat.le_of_ble_eq_true rfl), (Nat.le_of_ble_eq_true rfl)⟩ (Nat.le_of_ble_eq_true rfl) dL_methods_251 (fun _ _ hx => hx.elim) (fun r280 S279 h => ?_)
      refine z_widen (k' := 0) (n' := 0) (Nat.le_refl _) (Nat.le_refl _) ?_
      refine z_iand dL_methods_254 ?_
      refine z_istore (lv' := [(11, .int (l11 &&& r280)), (0, .ref a0), (3, .int l3), (4, .ref a4), (9, .ref a9), (10, .int l10), (12, .int l12)]) dL_methods_255 (Nat.le_of_ble_eq_true rfl) rfl ?_
      refine z_iinc (v := (l12 + 1)) (lv' := [(12, .int (l12 + 1)), (11, .int (l11 &&& r280)), (0, .ref a0), (3, .int l3), (4, .ref a4), (9, .ref a9), (10, .int l10)]) 6 dL_methods_257 rfl rfl (Nat.le_of_ble_eq_true rfl) rfl ?_
      refine z_goto 223 dL_methods_260 (by decide) ?_
      refine z_sub [2, 3, 4, 5, 6, 1, 0] rfl ?_
      exact ih a0 l3 a4 a9 l10 (l11 &&& r280) (l12 + 1) S279 C h
set_option maxRecDepth 20000 in
set_option maxHeartbeats 4000000 in
theorem w_L_methods_J285 {E : zE}  {Q : Int32 → zS → zS → Prop} {X : String → zS → Prop}  (a0 : Nat) (l3 : Int32) (a9 : Nat) (l100 : Int32) (S C : zS) (h : p_L_methods_J285 E  Q X a0 l3 a9 l100 S C) : zJ E (RL, cL_methods, 19, (some .boolean), false, [], zTr) ({ frames := 11, cells := 45, slots := 1398, locals := 265 } : Room) (zY E Q) (fun _ _ _ => False) 285 [(0, .ref a0), (3, .int l3), (9, .ref a9)] [.int l100] (zPl E C) S 7 194 := by
  unfold p_L_methods_J285 at h
  refine z_istore (lv' := [(12, .int l100), (0, .ref a0), (3, .int l3), (9, .ref a9)]) dL_methods_285 (Nat.le_of_ble_eq_true rfl) rfl ?_
  refine z_iload_n 2 dL_methods_287 rfl rfl ?_
  refine z_bipush (v := 6) dL_methods_288 rfl ?_
  refine z_iand dL_methods_290 ?_
  refine z_if_le 297 dL_methods_291 (by decide) (fun c357 => ?_) (fun c357 => ?_)
  · have h := h.1 c357
    refine z_aload 3 dL_methods_297 rfl ?_
    refine z_bipush (v := 22) dL_methods_299 rfl ?_
    obtain ⟨hf335, h⟩ := h
    obtain ⟨hj337, h⟩ := h
    refine z_iald (j := 22) hf335.1 hf335.2 rfl hj337.1 hj337.2 dL_methods_301 ?_
    refine z_istore (lv' := [(13, .int (gA S a9 22)), (12, .int l100), (0, .ref a0), (3, .int l3), (9, .ref a9)]) dL_methods_302 (Nat.le_of_ble_eq_true rfl) rfl ?_
    refine z_aload 4 dL_methods_304 rfl ?_
    refine z_bipush (v := 22) dL_methods_306 rfl ?_
    refine z_iconst (v := 0) dL_methods_308 rfl ?_
    obtain ⟨hj339, h⟩ := h
    have h := h _ rfl
    refine z_iast (j := 22) hf335.1 hf335.2 rfl hj339.1 hj339.2 dL_methods_309 ?_
    obtain ⟨S340, hS341⟩ : ∃ z, z = sA S a9 22 0 := ⟨_, rfl⟩
    rw [← hS341] at h ⊢
    have hf335 : a9 ∈ gL S340 ∧ gK S340 a9 = 12 := by rw [hS341]; exact hf335
    refine z_aload 4 dL_methods_310 rfl ?_
    refine z_bipush (v := 23) dL_methods_312 rfl ?_
    refine z_iconst (v := 0) dL_methods_314 rfl ?_
    obtain ⟨hj343, h⟩ := h
    have h := h _ rfl
    refine z_iast (j := 23) hf335.1 hf335.2 rfl hj343.1 hj343.2 dL_methods_315 ?_
    obtain ⟨S344, hS345⟩ : ∃ z, z = sA S340 a9 23 0 := ⟨_, rfl⟩
    rw [← hS345] at h ⊢
    have hf335 : a9 ∈ gL S344 ∧ gK S344 a9 = 12 := by rw [hS345]; exact hf335
    refine z_iload 1 dL_methods_316 rfl ?_
    refine z_if_eq 334 dL_methods_318 (by decide) (fun c353 => ?_) (fun c353 => ?_)
    · have h := h.1 c353
      refine z_iconst (v := 0) dL_methods_334 rfl ?_
      obtain ⟨hz346, h⟩ := h
      exact z_zreturn ⟨_, _, rfl, rfl, h⟩ rfl (zbn hz346) (Nat.le_of_ble_eq_true rfl) (Nat.le_of_ble_eq_true rfl) dL_methods_335
    · have h := h.2 c353
      refine z_aload_n 2 dL_methods_321 rfl rfl ?_
      obtain ⟨hf349, h⟩ := h
      refine zz_fl ?_
      refine z_callVI (ci := 10) (st := []) (w_X10_dropChanges h) hf349.1 hf349.2 (Nat.le_of_ble_eq_true rfl) rfl zw_572 zw_569 zw_570 zw_571 zw_30 zy_X10_dropChanges rfl rfl ⟨Nat.le_of_ble_eq_true rfl, Nat.le_of_ble_eq_true rfl⟩ ⟨(Nat.le_of_ble_eq_true rfl), (Nat.le_of_ble_eq_true rfl)⟩ (Nat.le_of_ble_eq_true rfl) dL_methods_322 (fun _ _ hx => hx.elim) (fun r348 C347 h => ?_)
      refine z_widen (k' := 7) (n' := 194) (Nat.le_refl _) (Nat.le_refl _) ?_
      refine zz_fl ?_
      refine z_iload 0 dL_methods_325 rfl ?_
      refine z_icmp_ne 334 dL_methods_327 (by decide) (fun c352 => ?_) (fun c352 => ?_)
      · have h := h.1 c352
        refine z_iconst (v := 0) dL_methods_334 rfl ?_
        obtain ⟨hz350, h⟩ := h
        exact z_zreturn ⟨_, _, rfl, rfl, h⟩ rfl (zbn hz350) (Nat.le_of_ble_eq_true rfl) (Nat.le_of_ble_eq_true rfl) dL_methods_335
      · have h := h.2 c352
        refine z_iconst (v := 1) dL_methods_330 rfl ?_
        refine z_goto 335 dL_methods_331 (by decide) ?_
        obtain ⟨hz351, h⟩ := h
        exact z_zreturn ⟨_, _, rfl, rfl, h⟩ rfl (zbn hz351) (Nat.le_of_ble_eq_true rfl) (Nat.le_of_ble_eq_true rfl) dL_methods_335
  · have h := h.2 c357
    refine z_iload 0 dL_methods_294 rfl ?_
    obtain ⟨hz356, h⟩ := h
    exact z_zreturn ⟨_, _, rfl, rfl, h⟩ rfl (zbn hz356) (Nat.le_of_ble_eq_true rfl) (Nat.le_of_ble_eq_true rfl) dL_methods_296
set_option maxRecDepth 20000 in
set_option maxHeartbeats 4000000 in
theorem w_L_methods_J218 {E : zE}  {Q : Int32 → zS → zS → Prop} {X : String → zS → Prop}  (a0 : Nat) (l3 : Int32) (a4 : Nat) (a9 : Nat) (l10 : Int32) (l100 : Int32) (S C : zS) (h : p_L_methods_J218 E  Q X a0 l3 a4 a9 l10 l100 S C) : zJ E (RL, cL_methods, 19, (some .boolean), false, [], zTr) ({ frames := 11, cells := 45, slots := 1398, locals := 265 } : Room) (zY E Q) (fun _ _ _ => False) 218 [(0, .ref a0), (3, .int l3), (4, .ref a4), (9, .ref a9), (10, .int l10)] [.int l100] (zPl E C) S 0 0 := by
  unfold p_L_methods_J218 at h
  refine z_istore (lv' := [(11, .int l100), (0, .ref a0), (3, .int l3), (4, .ref a4), (9, .ref a9), (10, .int l10)]) dL_methods_218 (Nat.le_of_ble_eq_true rfl) rfl ?_
  refine z_iconst (v := 0) dL_methods_220 rfl ?_
  refine z_istore (lv' := [(12, .int 0), (11, .int l100), (0, .ref a0), (3, .int l3), (4, .ref a4), (9, .ref a9), (10, .int l10)]) dL_methods_221 (Nat.le_of_ble_eq_true rfl) rfl ?_
  obtain ⟨m223, h⟩ := h
  refine z_sub [2, 3, 4, 5, 6, 1, 0] rfl ?_
  refine w_L_methods_L223 (fun a0 l3 a4 a9 l10 l11 S C h => ?_) m223 a0 l3 a4 a9 l10 l100 0 S C h
  refine z_iload 5 dL_methods_263 rfl ?_
  refine z_if_ne 336 dL_methods_265 (by decide) (fun c359 => ?_) (fun c359 => ?_)
  · have h := h.1 c359
    refine z_aload 3 dL_methods_336 rfl ?_
    refine z_iconst (v := 0) dL_methods_338 rfl ?_
    obtain ⟨hf282, h⟩ := h
    obtain ⟨hj284, h⟩ := h
    refine z_iald (j := 0) hf282.1 hf282.2 rfl hj284.1 hj284.2 dL_methods_339 ?_
    refine z_iconst (v := 3) dL_methods_340 rfl ?_
    refine z_icmp_ne 361 dL_methods_341 (by decide) (fun c332 => ?_) (fun c332 => ?_)
    · have h := h.1 c332
      refine z_aload 3 dL_methods_361 rfl ?_
      refine z_bipush (v := 23) dL_methods_363 rfl ?_
      obtain ⟨hj286, h⟩ := h
      refine z_iald (j := 23) hf282.1 hf282.2 rfl hj286.1 hj286.2 dL_methods_365 ?_
      refine z_bipush (v := 6) dL_methods_366 rfl ?_
      refine z_aload 3 dL_methods_368 rfl ?_
      refine z_bipush (v := 22) dL_methods_370 rfl ?_
      obtain ⟨hj288, h⟩ := h
      refine z_iald (j := 22) hf282.1 hf282.2 rfl hj288.1 hj288.2 dL_methods_372 ?_
      refine z_iconst (v := 1) dL_methods_373 rfl ?_
      refine z_isub dL_methods_374 ?_
      refine z_imul dL_methods_375 ?_
      refine z_ishr dL_methods_376 ?_
      refine z_bipush (v := 63) dL_methods_377 rfl ?_
      refine z_iand dL_methods_379 ?_
      refine z_i2l dL_methods_380 rfl ?_
      refine z_topJ (fun x289 hx290 => ?_)
      have h := h x289 hx290
      refine z_lstore (lv' := [(12, .long x289), (0, .ref a0), (3, .int l3), (4, .ref a4), (9, .ref a9), (10, .int l10), (11, .int l11)]) dL_methods_381 (Nat.le_of_ble_eq_true rfl) rfl ?_
      refine z_aload 3 dL_methods_383 rfl ?_
      refine z_aload 4 dL_methods_385 rfl ?_
      refine z_iconst (v := 0) dL_methods_387 rfl ?_
      obtain ⟨hj292, h⟩ := h
      refine z_iald (j := 0) hf282.1 hf282.2 rfl hj292.1 hj292.2 dL_methods_388 ?_
      refine z_iload 5 dL_methods_389 rfl ?_
      refine z_i2l dL_methods_391 rfl ?_
      refine z_ldc2 zw_618 dL_methods_392 ?_
      refine z_aload 4 dL_methods_395 rfl ?_
      refine z_bipush (v := 22) dL_methods_397 rfl ?_
      obtain ⟨hj294, h⟩ := h
      refine z_iald (j := 22) hf282.1 hf282.2 rfl hj294.1 hj294.2 dL_methods_399 ?_
      refine z_i2l dL_methods_400 rfl ?_
      refine z_lmul dL_methods_401 ?_
      refine z_ladd dL_methods_402 ?_
      refine z_aload 4 dL_methods_403 rfl ?_
      refine z_bipush (v := 23) dL_methods_405 rfl ?_
      obtain ⟨hj296, h⟩ := h
      refine z_iald (j := 23) hf282.1 hf282.2 rfl hj296.1 hj296.2 dL_methods_407 ?_
      refine z_i2l dL_methods_408 rfl ?_
      refine z_bipush (v := 6) dL_methods_409 rfl ?_
      refine z_lshl dL_methods_411 ?_
      refine z_ladd dL_methods_412 ?_
      refine z_lload 0 dL_methods_413 rfl ?_
      refine z_bipush (v := 30) dL_methods_415 rfl ?_
      refine z_lshl dL_methods_417 ?_
      refine z_ladd dL_methods_418 ?_
      refine z_lload 0 dL_methods_419 rfl ?_
      refine z_bipush (v := 36) dL_methods_421 rfl ?_
      refine z_lshl dL_methods_423 ?_
      refine z_ladd dL_methods_424 ?_
      obtain ⟨hf297, h⟩ := h
      obtain ⟨j298, hj299, h⟩ := h
      have h := h _ rfl
      refine z_last (j := j298) hf297.1 hf297.2 hj299.1 hj299.2.1 hj299.2.2 dL_methods_425 ?_
      obtain ⟨S300, hS301⟩ : ∃ z, z = sJ S a4 j298 (((((l10 : Int32).toInt64 + (8 * (gA S a9 22).toInt64)) + ((gA S a9 23).toInt64 <<< ((6 : Int32).toInt64 &&& 63))) + (x289 <<< ((30 : Int32).toInt64 &&& 63))) + (x289 <<< ((36 : Int32).toInt64 &&& 63))) := ⟨_, rfl⟩
      rw [← hS301] at h ⊢
      have hf297 : a4 ∈ gL S300 ∧ gK S300 a4 = 17 := by rw [hS301]; exact hf297
      have hf282 : a9 ∈ gL S300 ∧ gK S300 a9 = 12 := by rw [hS301]; exact hf282
      refine z_aload 4 dL_methods_426 rfl ?_
      refine z_iconst (v := 0) dL_methods_428 rfl ?_
      refine z_dup2 dL_methods_429 rfl rfl ?_
      obtain ⟨hj303, h⟩ := h
      refine z_iald (j := 0) hf282.1 hf282.2 rfl hj303.1 hj303.2 dL_methods_430 ?_
      refine z_iconst (v := 1) dL_methods_431 rfl ?_
      refine z_iadd dL_methods_432 ?_
      obtain ⟨hj305, h⟩ := h
      have h := h _ rfl
      refine z_iast (j := 0) hf282.1 hf282.2 rfl hj305.1 hj305.2 dL_methods_433 ?_
      obtain ⟨S306, hS307⟩ : ∃ z, z = sA S300 a9 0 ((gA S300 a9 0) + 1) := ⟨_, rfl⟩
      rw [← hS307] at h ⊢
      have hf297 : a4 ∈ gL S306 ∧ gK S306 a4 = 17 := by rw [hS307]; exact hf297
      have hf282 : a9 ∈ gL S306 ∧ gK S306 a9 = 12 := by rw [hS307]; exact hf282
      refine z_aload 4 dL_methods_434 rfl ?_
      refine z_bipush (v := 22) dL_methods_436 rfl ?_
      refine z_iconst (v := 0) dL_methods_438 rfl ?_
      obtain ⟨hj309, h⟩ := h
      have h := h _ rfl
      refine z_iast (j := 22) hf282.1 hf282.2 rfl hj309.1 hj309.2 dL_methods_439 ?_
      obtain ⟨S310, hS311⟩ : ∃ z, z = sA S306 a9 22 0 := ⟨_, rfl⟩
      rw [← hS311] at h ⊢
      have hf297 : a4 ∈ gL S310 ∧ gK S310 a4 = 17 := by rw [hS311]; exact hf297
      have hf282 : a9 ∈ gL S310 ∧ gK S310 a9 = 12 := by rw [hS311]; exact hf282
      refine z_aload 4 dL_methods_440 rfl ?_
      refine z_bipush (v := 23) dL_methods_442 rfl ?_
      refine z_iconst (v := 0) dL_methods_444 rfl ?_
      obtain ⟨hj313, h⟩ := h
      have h := h _ rfl
      refine z_iast (j := 23) hf282.1 hf282.2 rfl hj313.1 hj313.2 dL_methods_445 ?_
      obtain ⟨S314, hS315⟩ : ∃ z, z = sA S310 a9 23 0 := ⟨_, rfl⟩
      rw [← hS315] at h ⊢
      have hf297 : a4 ∈ gL S314 ∧ gK S314 a4 = 17 := by rw [hS315]; exact hf297
      have hf282 : a9 ∈ gL S314 ∧ gK S314 a9 = 12 := by rw [hS315]; exact hf282
      refine z_aload_n 1 dL_methods_446 rfl rfl ?_
      refine z_iload 5 dL_methods_447 rfl ?_
      refine zz_fl ?_
      refine z_callW (st := []) (w_L_method h) zw_415 zw_413 zw_414 zw_29 zy_L_method rfl rfl ⟨Nat.le_of_ble_eq_true rfl, Nat.le_of_ble_eq_true rfl⟩ ⟨(Nat.le_of_ble_eq_true rfl), (Nat.le_of_ble_eq_true rfl)⟩ (Nat.le_of_ble_eq_true rfl) dL_methods_449 (fun r317 C316 h => ?_)
      refine z_widen (k' := 7) (n' := 194) (Nat.le_refl _) (Nat.le_refl _) ?_
      refine zz_fl ?_
      refine z_aload 4 dL_methods_452 rfl ?_
      refine z_iconst (v := 0) dL_methods_454 rfl ?_
      obtain ⟨hj319, h⟩ := h
      refine z_iald (j := 0) hf282.1 hf282.2 rfl hj319.1 hj319.2 dL_methods_455 ?_
      refine z_iconst (v := 1) dL_methods_456 rfl ?_
      refine z_isub dL_methods_457 ?_
      refine z_icmp_ne 465 dL_methods_458 (by decide) (fun c322 => ?_) (fun c322 => ?_)
      · have h := h.1 c322
        refine z_iconst (v := 0) dL_methods_465 rfl ?_
        obtain ⟨hz320, h⟩ := h
        exact z_zreturn ⟨_, _, rfl, rfl, h⟩ rfl (zbn hz320) (Nat.le_of_ble_eq_true rfl) (Nat.le_of_ble_eq_true rfl) dL_methods_466
      · have h := h.2 c322
        refine z_iconst (v := 1) dL_methods_461 rfl ?_
        refine z_goto 466 dL_methods_462 (by decide) ?_
        obtain ⟨hz321, h⟩ := h
        exact z_zreturn ⟨_, _, rfl, rfl, h⟩ rfl (zbn hz321) (Nat.le_of_ble_eq_true rfl) (Nat.le_of_ble_eq_true rfl) dL_methods_466
    · have h := h.2 c332
      refine z_aload_n 0 dL_methods_344 rfl rfl ?_
      refine z_iconst (v := 3) dL_methods_345 rfl ?_
      refine zz_fl ?_
      refine z_callW (st := []) (w_L_stage h) zw_575 zw_573 zw_574 zw_29 zy_L_stage rfl rfl ⟨Nat.le_of_ble_eq_true rfl, Nat.le_of_ble_eq_true rfl⟩ ⟨(Nat.le_of_ble_eq_true rfl), (Nat.le_of_ble_eq_true rfl)⟩ (Nat.le_of_ble_eq_true rfl) dL_methods_346 (fun r328 C327 h => ?_)
      refine z_widen (k' := 1) (n' := 6) (Nat.le_refl _) (Nat.le_refl _) ?_
      refine zz_fl ?_
      refine z_sipush (v := (-7100)) dL_methods_349 rfl ?_
      refine z_icmp_ne 359 dL_methods_352 (by decide) (fun c331 => ?_) (fun c331 => ?_)
      · have h := h.1 c331
        refine z_iconst (v := 0) dL_methods_359 rfl ?_
        obtain ⟨hz329, h⟩ := h
        exact z_zreturn ⟨_, _, rfl, rfl, h⟩ rfl (zbn hz329) (Nat.le_of_ble_eq_true rfl) (Nat.le_of_ble_eq_true rfl) dL_methods_360
      · have h := h.2 c331
        refine z_iconst (v := 1) dL_methods_355 rfl ?_
        refine z_goto 360 dL_methods_356 (by decide) ?_
        obtain ⟨hz330, h⟩ := h
        exact z_zreturn ⟨_, _, rfl, rfl, h⟩ rfl (zbn hz330) (Nat.le_of_ble_eq_true rfl) (Nat.le_of_ble_eq_true rfl) dL_methods_360
  · have h := h.2 c359
    refine z_aload_n 0 dL_methods_268 rfl rfl ?_
    refine z_iload 4 dL_methods_269 rfl ?_
    refine zz_fl ?_
    refine z_callW (st := []) (w_L_method h) zw_415 zw_413 zw_414 zw_29 zy_L_method rfl rfl ⟨Nat.le_of_ble_eq_true rfl, Nat.le_of_ble_eq_true rfl⟩ ⟨(Nat.le_of_ble_eq_true rfl), (Nat.le_of_ble_eq_true rfl)⟩ (Nat.le_of_ble_eq_true rfl) dL_methods_271 (fun r334 C333 h => ?_)
    refine z_widen (k' := 7) (n' := 194) (Nat.le_refl _) (Nat.le_refl _) ?_
    refine zz_fl ?_
    refine z_sipush (v := (-7300)) dL_methods_274 rfl ?_
    refine z_icmp_ne 284 dL_methods_277 (by decide) (fun c358 => ?_) (fun c358 => ?_)
    · have h := h.1 c358
      refine z_iconst (v := 0) dL_methods_284 rfl ?_
      refine z_sub [0, 1, 3] rfl ?_
      refine w_L_methods_J285 a0 l3 a9 0 S C333 h
    · have h := h.2 c358
      refine z_iconst (v := 1) dL_methods_280 rfl ?_
      refine z_goto 285 dL_methods_281 (by decide) ?_
      refine z_sub [0, 1, 3] rfl ?_
      refine w_L_methods_J285 a0 l3 a9 1 S C333 h
set_option maxRecDepth 20000 in
set_option maxHeartbeats 4000000 in
theorem w_L_methods_J86 {E : zE}  {Q : Int32 → zS → zS → Prop} {X : String → zS → Prop}  (a0 : Nat) (a9 : Nat) (l100 : Int32) (S C : zS) (h : p_L_methods_J86 E  Q X a0 a9 l100 S C) : zJ E (RL, cL_methods, 19, (some .boolean), false, [], zTr) ({ frames := 11, cells := 45, slots := 1398, locals := 265 } : Room) (zY E Q) (fun _ _ _ => False) 86 [(0, .ref a0), (9, .ref a9)] [.int l100] (zPl E C) S 0 0 := by
  unfold p_L_methods_J86 at h
  refine z_istore (lv' := [(11, .int l100), (0, .ref a0), (9, .ref a9)]) dL_methods_86 (Nat.le_of_ble_eq_true rfl) rfl ?_
  refine z_aload_n 1 dL_methods_88 rfl rfl ?_
  refine z_bipush (v := 64) dL_methods_89 rfl ?_
  refine zz_fl ?_
  refine z_callW (st := []) (w_L_change h) zw_319 zw_317 zw_318 zw_29 zy_L_change rfl rfl ⟨Nat.le_of_ble_eq_true rfl, Nat.le_of_ble_eq_true rfl⟩ ⟨(Nat.le_of_ble_eq_true rfl), (Nat.le_of_ble_eq_true rfl)⟩ (Nat.le_of_ble_eq_true rfl) dL_methods_91 (fun r371 C370 h => ?_)
  refine z_widen (k' := 2) (n' := 12) (Nat.le_refl _) (Nat.le_refl _) ?_
  refine zz_fl ?_
  refine z_sipush (v := (-7200)) dL_methods_94 rfl ?_
  refine z_icmp_ne 111 dL_methods_97 (by decide) (fun c413 => ?_) (fun c413 => ?_)
  · have h := h.1 c413
    refine z_iconst (v := 0) dL_methods_111 rfl ?_
    obtain ⟨hz372, h⟩ := h
    exact z_zreturn ⟨_, _, rfl, rfl, h⟩ rfl (zbn hz372) (Nat.le_of_ble_eq_true rfl) (Nat.le_of_ble_eq_true rfl) dL_methods_112
  · have h := h.2 c413
    refine z_aload_n 1 dL_methods_100 rfl rfl ?_
    refine z_iconst (v := (-1)) dL_methods_101 rfl ?_
    refine zz_fl ?_
    refine z_callW (st := []) (w_L_change h) zw_319 zw_317 zw_318 zw_29 zy_L_change rfl rfl ⟨Nat.le_of_ble_eq_true rfl, Nat.le_of_ble_eq_true rfl⟩ ⟨(Nat.le_of_ble_eq_true rfl), (Nat.le_of_ble_eq_true rfl)⟩ (Nat.le_of_ble_eq_true rfl) dL_methods_102 (fun r374 C373 h => ?_)
    refine z_widen (k' := 4) (n' := 24) (Nat.le_refl _) (Nat.le_refl _) ?_
    refine zz_fl ?_
    refine z_sipush (v := (-7200)) dL_methods_105 rfl ?_
    refine z_icmp_eq 113 dL_methods_108 (by decide) (fun c412 => ?_) (fun c412 => ?_)
    · have h := h.1 c412
      refine z_aload 2 dL_methods_113 rfl ?_
      refine z_bipush (v := 22) dL_methods_115 rfl ?_
      obtain ⟨hf375, h⟩ := h
      obtain ⟨hj377, h⟩ := h
      refine z_iald (j := 22) hf375.1 hf375.2 rfl hj377.1 hj377.2 dL_methods_117 ?_
      refine z_iconst (v := 4) dL_methods_118 rfl ?_
      refine z_icmp_ne 151 dL_methods_119 (by decide) (fun c410 => ?_) (fun c410 => ?_)
      · have h := h.1 c410
        refine z_aload 2 dL_methods_151 rfl ?_
        refine z_bipush (v := 23) dL_methods_153 rfl ?_
        refine z_dup2 dL_methods_155 rfl rfl ?_
        obtain ⟨hj379, h⟩ := h
        refine z_iald (j := 23) hf375.1 hf375.2 rfl hj379.1 hj379.2 dL_methods_156 ?_
        refine z_iload 0 dL_methods_157 rfl ?_
        refine z_bipush (v := 6) dL_methods_159 rfl ?_
        refine z_aload 2 dL_methods_161 rfl ?_
        refine z_bipush (v := 22) dL_methods_163 rfl ?_
        obtain ⟨hj381, h⟩ := h
        refine z_iald (j := 22) hf375.1 hf375.2 rfl hj381.1 hj381.2 dL_methods_165 ?_
        refine z_imul dL_methods_166 ?_
        refine z_ishl dL_methods_167 ?_
        refine z_ior dL_methods_168 ?_
        obtain ⟨hj383, h⟩ := h
        have h := h _ rfl
        refine z_iast (j := 23) hf375.1 hf375.2 rfl hj383.1 hj383.2 dL_methods_169 ?_
        obtain ⟨S384, hS385⟩ : ∃ z, z = sA S a9 23 ((gA S a9 23) ||| (l100 <<< ((6 * (gA S a9 22)) &&& 31))) := ⟨_, rfl⟩
        rw [← hS385] at h ⊢
        have hf375 : a9 ∈ gL S384 ∧ gK S384 a9 = 12 := by rw [hS385]; exact hf375
        refine z_aload 2 dL_methods_170 rfl ?_
        refine z_bipush (v := 22) dL_methods_172 rfl ?_
        refine z_dup2 dL_methods_174 rfl rfl ?_
        obtain ⟨hj387, h⟩ := h
        refine z_iald (j := 22) hf375.1 hf375.2 rfl hj387.1 hj387.2 dL_methods_175 ?_
        refine z_iconst (v := 1) dL_methods_176 rfl ?_
        refine z_iadd dL_methods_177 ?_
        obtain ⟨hj389, h⟩ := h
        have h := h _ rfl
        refine z_iast (j := 22) hf375.1 hf375.2 rfl hj389.1 hj389.2 dL_methods_178 ?_
        obtain ⟨S390, hS391⟩ : ∃ z, z = sA S384 a9 22 ((gA S384 a9 22) + 1) := ⟨_, rfl⟩
        rw [← hS391] at h ⊢
        have hf375 : a9 ∈ gL S390 ∧ gK S390 a9 = 12 := by rw [hS391]; exact hf375
        refine z_aload_n 1 dL_methods_179 rfl rfl ?_
        refine z_iload 0 dL_methods_180 rfl ?_
        refine zz_fl ?_
        refine z_callW (st := []) (w_L_change h) zw_319 zw_317 zw_318 zw_29 zy_L_change rfl rfl ⟨Nat.le_of_ble_eq_true rfl, Nat.le_of_ble_eq_true rfl⟩ ⟨(Nat.le_of_ble_eq_true rfl), (Nat.le_of_ble_eq_true rfl)⟩ (Nat.le_of_ble_eq_true rfl) dL_methods_182 (fun r393 C392 h => ?_)
        refine z_widen (k' := 6) (n' := 36) (Nat.le_refl _) (Nat.le_refl _) ?_
        refine zz_fl ?_
        refine z_aload 2 dL_methods_185 rfl ?_
        refine z_bipush (v := 22) dL_methods_187 rfl ?_
        obtain ⟨hj395, h⟩ := h
        refine z_iald (j := 22) hf375.1 hf375.2 rfl hj395.1 hj395.2 dL_methods_189 ?_
        refine z_icmp_ne 197 dL_methods_190 (by decide) (fun c398 => ?_) (fun c398 => ?_)
        · have h := h.1 c398
          refine z_iconst (v := 0) dL_methods_197 rfl ?_
          obtain ⟨hz396, h⟩ := h
          exact z_zreturn ⟨_, _, rfl, rfl, h⟩ rfl (zbn hz396) (Nat.le_of_ble_eq_true rfl) (Nat.le_of_ble_eq_true rfl) dL_methods_198
        · have h := h.2 c398
          refine z_iconst (v := 1) dL_methods_193 rfl ?_
          refine z_goto 198 dL_methods_194 (by decide) ?_
          obtain ⟨hz397, h⟩ := h
          exact z_zreturn ⟨_, _, rfl, rfl, h⟩ rfl (zbn hz397) (Nat.le_of_ble_eq_true rfl) (Nat.le_of_ble_eq_true rfl) dL_methods_198
      · have h := h.2 c410
        refine z_aload_n 1 dL_methods_122 rfl rfl ?_
        refine z_iconst (v := 3) dL_methods_123 rfl ?_
        refine zz_fl ?_
        refine z_callW (st := []) (w_L_method h) zw_415 zw_413 zw_414 zw_29 zy_L_method rfl rfl ⟨Nat.le_of_ble_eq_true rfl, Nat.le_of_ble_eq_true rfl⟩ ⟨(Nat.le_of_ble_eq_true rfl), (Nat.le_of_ble_eq_true rfl)⟩ (Nat.le_of_ble_eq_true rfl) dL_methods_124 (fun r402 C401 h => ?_)
        refine z_widen (k' := 11) (n' := 218) (Nat.le_refl _) (Nat.le_refl _) ?_
        refine zz_fl ?_
        refine z_sipush (v := (-7200)) dL_methods_127 rfl ?_
        refine z_icmp_ne 149 dL_methods_130 (by decide) (fun c409 => ?_) (fun c409 => ?_)
        · have h := h.1 c409
          refine z_iconst (v := 0) dL_methods_149 rfl ?_
          obtain ⟨hz403, h⟩ := h
          exact z_zreturn ⟨_, _, rfl, rfl, h⟩ rfl (zbn hz403) (Nat.le_of_ble_eq_true rfl) (Nat.le_of_ble_eq_true rfl) dL_methods_150
        · have h := h.2 c409
          refine z_aload_n 1 dL_methods_133 rfl rfl ?_
          refine z_bipush (v := 7) dL_methods_134 rfl ?_
          refine zz_fl ?_
          refine z_callW (st := []) (w_L_method h) zw_415 zw_413 zw_414 zw_29 zy_L_method rfl rfl ⟨Nat.le_of_ble_eq_true rfl, Nat.le_of_ble_eq_true rfl⟩ ⟨(Nat.le_of_ble_eq_true rfl), (Nat.le_of_ble_eq_true rfl)⟩ (Nat.le_of_ble_eq_true rfl) dL_methods_136 (fun r405 C404 h => ?_)
          refine z_widen (k' := 18) (n' := 412) (Nat.le_refl _) (Nat.le_refl _) ?_
          refine zz_fl ?_
          refine z_sipush (v := (-7200)) dL_methods_139 rfl ?_
          refine z_icmp_ne 149 dL_methods_142 (by decide) (fun c408 => ?_) (fun c408 => ?_)
          · have h := h.1 c408
            refine z_iconst (v := 0) dL_methods_149 rfl ?_
            obtain ⟨hz406, h⟩ := h
            exact z_zreturn ⟨_, _, rfl, rfl, h⟩ rfl (zbn hz406) (Nat.le_of_ble_eq_true rfl) (Nat.le_of_ble_eq_true rfl) dL_methods_150
          · have h := h.2 c408
            refine z_iconst (v := 1) dL_methods_145 rfl ?_
            refine z_goto 150 dL_methods_146 (by decide) ?_
            obtain ⟨hz407, h⟩ := h
            exact z_zreturn ⟨_, _, rfl, rfl, h⟩ rfl (zbn hz407) (Nat.le_of_ble_eq_true rfl) (Nat.le_of_ble_eq_true rfl) dL_methods_150
    · have h := h.2 c412
      refine z_iconst (v := 0) dL_methods_111 rfl ?_
      obtain ⟨hz411, h⟩ := h
      exact z_zreturn ⟨_, _, rfl, rfl, h⟩ rfl (zbn hz411) (Nat.le_of_ble_eq_true rfl) (Nat.le_of_ble_eq_true rfl) dL_methods_112
set_option maxRecDepth 20000 in
set_option maxHeartbeats 4000000 in
theorem w_L_methods {E : zE} {a0 : Nat} {l1 : Int32} {l2 : Int32} {l3 : Int32} {a4 : Nat} {a5 : Nat} {a6 : Nat} {a7 : Nat} {a8 : Nat} {a9 : Nat} {S C : zS} {Q : Int32 → zS → zS → Prop} {X : String → zS → Prop} (h : p_L_methods E a0 l1 l2 l3 a4 a5 a6 a7 a8 a9 S C Q X) : zMY E yL_methods cL_methods 19 (some .boolean) ({ frames := 11, cells := 45, slots := 1398, locals := 265 } : Room) [.ref a0, .int l1, .int l2, .int l3, .ref a4, .ref a5, .ref a6, .ref a7, .ref a8, .ref a9] (zPl E C) S (zY E Q) := by
  unfold p_L_methods at h
  refine zMY_of RL (by decide) rfl (Nat.le_of_ble_eq_true rfl) ?_
  refine z_iconst (v := 4) dL_methods_0 rfl ?_
  refine z_iload_n 2 dL_methods_1 rfl rfl ?_
  refine z_iconst (v := 3) dL_methods_2 rfl ?_
  refine z_callSI (st := [.int 4]) (w_L_low h) zw_313 zw_311 zw_312 zw_29 zy_L_low rfl rfl ⟨Nat.le_of_ble_eq_true rfl, Nat.le_of_ble_eq_true rfl⟩ ⟨(Nat.le_of_ble_eq_true rfl), (Nat.le_of_ble_eq_true rfl)⟩ (Nat.le_of_ble_eq_true rfl) dL_methods_3 (fun _ _ hx => hx.elim) (fun r2 S1 h => ?_)
  refine z_widen (k' := 0) (n' := 0) (Nat.le_refl _) (Nat.le_refl _) ?_
  refine z_iadd dL_methods_6 ?_
  refine z_istore (lv' := [(10, .int (4 + r2)), (0, .ref a0), (1, .int l1), (2, .int l2), (3, .int l3), (4, .ref a4), (5, .ref a5), (6, .ref a6), (7, .ref a7), (8, .ref a8), (9, .ref a9)]) dL_methods_7 (Nat.le_of_ble_eq_true rfl) rfl ?_
  refine z_iload_n 2 dL_methods_9 rfl rfl ?_
  refine z_iconst (v := 4) dL_methods_10 rfl ?_
  refine z_icmp_ge 199 dL_methods_11 (by decide) (fun c421 => ?_) (fun c421 => ?_)
  · have h := h.1 c421
    refine z_iload_n 2 dL_methods_199 rfl rfl ?_
    refine z_bipush (v := 7) dL_methods_200 rfl ?_
    refine z_icmp_ge 467 dL_methods_202 (by decide) (fun c361 => ?_) (fun c361 => ?_)
    · have h := h.1 c361
      refine z_iload_n 3 dL_methods_467 rfl rfl ?_
      refine z_aload 10 dL_methods_468 rfl ?_
      refine z_iconst (v := 0) dL_methods_470 rfl ?_
      obtain ⟨hf3, h⟩ := h
      obtain ⟨hj5, h⟩ := h
      refine z_iald (j := 0) hf3.1 hf3.2 rfl hj5.1 hj5.2 dL_methods_471 ?_
      refine z_iconst (v := 1) dL_methods_472 rfl ?_
      refine z_iadd dL_methods_473 ?_
      refine z_callSI (st := []) (w_L_low h) zw_313 zw_311 zw_312 zw_29 zy_L_low rfl rfl ⟨Nat.le_of_ble_eq_true rfl, Nat.le_of_ble_eq_true rfl⟩ ⟨(Nat.le_of_ble_eq_true rfl), (Nat.le_of_ble_eq_true rfl)⟩ (Nat.le_of_ble_eq_true rfl) dL_methods_474 (fun _ _ hx => hx.elim) (fun r7 S6 h => ?_)
      refine z_widen (k' := 0) (n' := 0) (Nat.le_refl _) (Nat.le_refl _) ?_
      refine z_istore (lv' := [(11, .int r7), (10, .int (4 + r2)), (0, .ref a0), (1, .int l1), (2, .int l2), (3, .int l3), (4, .ref a4), (5, .ref a5), (6, .ref a6), (7, .ref a7), (8, .ref a8), (9, .ref a9)]) dL_methods_477 (Nat.le_of_ble_eq_true rfl) rfl ?_
      refine z_iload 0 dL_methods_479 rfl ?_
      refine z_aload 11 dL_methods_481 rfl ?_
      refine z_iconst (v := 0) dL_methods_483 rfl ?_
      obtain ⟨hf8, h⟩ := h
      obtain ⟨hj10, h⟩ := h
      refine z_iald (j := 0) hf8.1 hf8.2 rfl hj10.1 hj10.2 dL_methods_484 ?_
      refine z_icmp_ne 549 dL_methods_485 (by decide) (fun c270 => ?_) (fun c270 => ?_)
      · have h := h.1 c270
        refine z_aload 6 dL_methods_549 rfl ?_
        refine z_iload 0 dL_methods_551 rfl ?_
        obtain ⟨hf11, h⟩ := h
        obtain ⟨j12, hj13, h⟩ := h
        refine z_lald (j := j12) hf11.1 hf11.2 hj13.1 hj13.2.1 hj13.2.2 dL_methods_553 ?_
        refine z_callSI (st := []) (w_L_stageOf h) zw_785 zw_783 zw_784 zw_29 zy_L_stageOf rfl rfl ⟨Nat.le_of_ble_eq_true rfl, Nat.le_of_ble_eq_true rfl⟩ ⟨(Nat.le_of_ble_eq_true rfl), (Nat.le_of_ble_eq_true rfl)⟩ (Nat.le_of_ble_eq_true rfl) dL_methods_554 (fun _ _ hx => hx.elim) (fun r15 S14 h => ?_)
        refine z_widen (k' := 0) (n' := 0) (Nat.le_refl _) (Nat.le_refl _) ?_
        refine z_istore (lv' := [(12, .int r15), (11, .int r7), (10, .int (4 + r2)), (0, .ref a0), (1, .int l1), (2, .int l2), (3, .int l3), (4, .ref a4), (5, .ref a5), (6, .ref a6), (7, .ref a7), (8, .ref a8), (9, .ref a9)]) dL_methods_557 (Nat.le_of_ble_eq_true rfl) rfl ?_
        refine z_iload_n 4 dL_methods_559 rfl rfl ?_
        refine z_bipush (v := 7) dL_methods_560 rfl ?_
        refine z_icmp_ne 817 dL_methods_562 (by decide) (fun c252 => ?_) (fun c252 => ?_)
        · have h := h.1 c252
          refine z_iload_n 4 dL_methods_817 rfl rfl ?_
          refine z_bipush (v := 12) dL_methods_818 rfl ?_
          refine z_icmp_ge 985 dL_methods_820 (by decide) (fun c195 => ?_) (fun c195 => ?_)
          · have h := h.1 c195
            refine z_iload_n 4 dL_methods_985 rfl rfl ?_
            refine z_bipush (v := 14) dL_methods_986 rfl ?_
            refine z_icmp_ge 1116 dL_methods_988 (by decide) (fun c135 => ?_) (fun c135 => ?_)
            · have h := h.1 c135
              refine z_iconst (v := 1) dL_methods_1116 rfl ?_
              refine z_iload_n 6 dL_methods_1117 rfl rfl ?_
              refine z_iconst (v := 4) dL_methods_1118 rfl ?_
              refine z_callSI (st := [.int 1]) (w_L_low h) zw_313 zw_311 zw_312 zw_29 zy_L_low rfl rfl ⟨Nat.le_of_ble_eq_true rfl, Nat.le_of_ble_eq_true rfl⟩ ⟨(Nat.le_of_ble_eq_true rfl), (Nat.le_of_ble_eq_true rfl)⟩ (Nat.le_of_ble_eq_true rfl) dL_methods_1119 (fun _ _ hx => hx.elim) (fun r17 S16 h => ?_)
              refine z_widen (k' := 0) (n' := 0) (Nat.le_refl _) (Nat.le_refl _) ?_
              refine z_iadd dL_methods_1122 ?_
              refine z_istore (lv' := [(13, .int (1 + r17)), (12, .int r15), (11, .int r7), (10, .int (4 + r2)), (0, .ref a0), (1, .int l1), (2, .int l2), (3, .int l3), (4, .ref a4), (5, .ref a5), (6, .ref a6), (7, .ref a7), (8, .ref a8), (9, .ref a9)]) dL_methods_1123 (Nat.le_of_ble_eq_true rfl) rfl ?_
              refine z_aload_n 4 dL_methods_1125 rfl rfl ?_
              refine z_iload 2 dL_methods_1126 rfl ?_
              refine z_iconst (v := 0) dL_methods_1128 rfl ?_
              refine zz_fl ?_
              refine z_callW (st := []) (w_L_compose h) zw_730 zw_728 zw_729 zw_29 zy_L_compose rfl rfl ⟨Nat.le_of_ble_eq_true rfl, Nat.le_of_ble_eq_true rfl⟩ ⟨(Nat.le_of_ble_eq_true rfl), (Nat.le_of_ble_eq_true rfl)⟩ (Nat.le_of_ble_eq_true rfl) dL_methods_1129 (fun r19 C18 h => ?_)
              refine z_widen (k' := 15) (n' := 466) (Nat.le_refl _) (Nat.le_refl _) ?_
              refine zz_fl ?_
              refine z_sipush (v := (-7200)) dL_methods_1132 rfl ?_
              refine z_icmp_ne 1152 dL_methods_1135 (by decide) (fun c73 => ?_) (fun c73 => ?_)
              · have h := h.1 c73
                refine z_iconst (v := 0) dL_methods_1152 rfl ?_
                obtain ⟨hz20, h⟩ := h
                exact z_zreturn ⟨_, _, rfl, rfl, h⟩ rfl (zbn hz20) (Nat.le_of_ble_eq_true rfl) (Nat.le_of_ble_eq_true rfl) dL_methods_1153
              · have h := h.2 c73
                refine z_aload_n 4 dL_methods_1138 rfl rfl ?_
                refine z_iload 2 dL_methods_1139 rfl ?_
                refine z_bipush (v := 7) dL_methods_1141 rfl ?_
                refine zz_fl ?_
                refine z_callW (st := []) (w_L_compose h) zw_730 zw_728 zw_729 zw_29 zy_L_compose rfl rfl ⟨Nat.le_of_ble_eq_true rfl, Nat.le_of_ble_eq_true rfl⟩ ⟨(Nat.le_of_ble_eq_true rfl), (Nat.le_of_ble_eq_true rfl)⟩ (Nat.le_of_ble_eq_true rfl) dL_methods_1143 (fun r22 C21 h => ?_)
                refine z_widen (k' := 30) (n' := 932) (Nat.le_refl _) (Nat.le_refl _) ?_
                refine zz_fl ?_
                refine z_sipush (v := (-7200)) dL_methods_1146 rfl ?_
                refine z_icmp_eq 1154 dL_methods_1149 (by decide) (fun c72 => ?_) (fun c72 => ?_)
                · have h := h.1 c72
                  refine z_aload 13 dL_methods_1154 rfl ?_
                  refine z_iconst (v := 1) dL_methods_1156 rfl ?_
                  obtain ⟨hf23, h⟩ := h
                  obtain ⟨hj25, h⟩ := h
                  refine z_iald (j := 1) hf23.1 hf23.2 rfl hj25.1 hj25.2 dL_methods_1157 ?_
                  refine z_iconst (v := 4) dL_methods_1158 rfl ?_
                  refine z_icmp_ne 1176 dL_methods_1159 (by decide) (fun c70 => ?_) (fun c70 => ?_)
                  · have h := h.1 c70
                    refine z_iload 0 dL_methods_1176 rfl ?_
                    refine z_iconst (v := 1) dL_methods_1178 rfl ?_
                    refine z_icmp_ne 1186 dL_methods_1179 (by decide) (fun c63 => ?_) (fun c63 => ?_)
                    · have h := h.1 c63
                      refine z_iload 0 dL_methods_1186 rfl ?_
                      refine z_iconst (v := 2) dL_methods_1188 rfl ?_
                      refine z_icmp_ne 1197 dL_methods_1189 (by decide) (fun c62 => ?_) (fun c62 => ?_)
                      · have h := h.1 c62
                        refine z_iload 0 dL_methods_1197 rfl ?_
                        refine z_iconst (v := 3) dL_methods_1199 rfl ?_
                        refine z_icmp_ne 1208 dL_methods_1200 (by decide) (fun c61 => ?_) (fun c61 => ?_)
                        · have h := h.1 c61
                          refine z_bipush (v := 81) dL_methods_1208 rfl ?_
                          refine z_sub [4, 8, 9, 12, 13, 2, 0] rfl ?_
                          refine w_L_methods_J1210 a0 a4 a5 a8 a9 r7 (1 + r17) 81 S16 C21 h
                        · have h := h.2 c61
                          refine z_bipush (v := 27) dL_methods_1203 rfl ?_
                          refine z_goto 1210 dL_methods_1205 (by decide) ?_
                          refine z_sub [4, 8, 9, 12, 13, 2, 0] rfl ?_
                          refine w_L_methods_J1210 a0 a4 a5 a8 a9 r7 (1 + r17) 27 S16 C21 h
                      · have h := h.2 c62
                        refine z_bipush (v := 9) dL_methods_1192 rfl ?_
                        refine z_goto 1210 dL_methods_1194 (by decide) ?_
                        refine z_sub [4, 8, 9, 12, 13, 2, 0] rfl ?_
                        refine w_L_methods_J1210 a0 a4 a5 a8 a9 r7 (1 + r17) 9 S16 C21 h
                    · have h := h.2 c63
                      refine z_iconst (v := 3) dL_methods_1182 rfl ?_
                      refine z_goto 1210 dL_methods_1183 (by decide) ?_
                      refine z_sub [4, 8, 9, 12, 13, 2, 0] rfl ?_
                      refine w_L_methods_J1210 a0 a4 a5 a8 a9 r7 (1 + r17) 3 S16 C21 h
                  · have h := h.2 c70
                    refine z_aload_n 4 dL_methods_1162 rfl rfl ?_
                    obtain ⟨hf66, h⟩ := h
                    refine zz_fl ?_
                    refine z_callVI (ci := 10) (st := []) (w_X10_touches h) hf66.1 hf66.2 (Nat.le_of_ble_eq_true rfl) rfl zw_841 zw_838 zw_839 zw_840 zw_30 zy_X10_touches rfl rfl ⟨Nat.le_of_ble_eq_true rfl, Nat.le_of_ble_eq_true rfl⟩ ⟨(Nat.le_of_ble_eq_true rfl), (Nat.le_of_ble_eq_true rfl)⟩ (Nat.le_of_ble_eq_true rfl) dL_methods_1163 (fun _ _ hx => hx.elim) (fun r65 C64 h => ?_)
                    refine z_widen (k' := 30) (n' := 932) (Nat.le_refl _) (Nat.le_refl _) ?_
                    refine zz_fl ?_
                    refine z_iconst (v := 4) dL_methods_1166 rfl ?_
                    refine z_icmp_ne 1174 dL_methods_1167 (by decide) (fun c69 => ?_) (fun c69 => ?_)
                    · have h := h.1 c69
                      refine z_iconst (v := 0) dL_methods_1174 rfl ?_
                      obtain ⟨hz67, h⟩ := h
                      exact z_zreturn ⟨_, _, rfl, rfl, h⟩ rfl (zbn hz67) (Nat.le_of_ble_eq_true rfl) (Nat.le_of_ble_eq_true rfl) dL_methods_1175
                    · have h := h.2 c69
                      refine z_iconst (v := 1) dL_methods_1170 rfl ?_
                      refine z_goto 1175 dL_methods_1171 (by decide) ?_
                      obtain ⟨hz68, h⟩ := h
                      exact z_zreturn ⟨_, _, rfl, rfl, h⟩ rfl (zbn hz68) (Nat.le_of_ble_eq_true rfl) (Nat.le_of_ble_eq_true rfl) dL_methods_1175
                · have h := h.2 c72
                  refine z_iconst (v := 0) dL_methods_1152 rfl ?_
                  obtain ⟨hz71, h⟩ := h
                  exact z_zreturn ⟨_, _, rfl, rfl, h⟩ rfl (zbn hz71) (Nat.le_of_ble_eq_true rfl) (Nat.le_of_ble_eq_true rfl) dL_methods_1153
            · have h := h.2 c135
              refine z_aload 12 dL_methods_991 rfl ?_
              refine z_bipush (v := 24) dL_methods_993 rfl ?_
              obtain ⟨hf74, h⟩ := h
              obtain ⟨hj76, h⟩ := h
              refine z_iald (j := 24) hf74.1 hf74.2 rfl hj76.1 hj76.2 dL_methods_995 ?_
              refine z_if_ne 1022 dL_methods_996 (by decide) (fun c134 => ?_) (fun c134 => ?_)
              · have h := h.1 c134
                refine z_aload 12 dL_methods_1022 rfl ?_
                refine z_bipush (v := 24) dL_methods_1024 rfl ?_
                obtain ⟨hj78, h⟩ := h
                refine z_iald (j := 24) hf74.1 hf74.2 rfl hj78.1 hj78.2 dL_methods_1026 ?_
                refine z_istore (lv' := [(13, .int (gA S14 a9 24)), (12, .int r15), (11, .int r7), (10, .int (4 + r2)), (0, .ref a0), (1, .int l1), (2, .int l2), (3, .int l3), (4, .ref a4), (5, .ref a5), (6, .ref a6), (7, .ref a7), (8, .ref a8), (9, .ref a9)]) dL_methods_1027 (Nat.le_of_ble_eq_true rfl) rfl ?_
                refine z_aload 13 dL_methods_1029 rfl ?_
                refine z_bipush (v := 24) dL_methods_1031 rfl ?_
                obtain ⟨hj80, h⟩ := h
                refine z_iald (j := 24) hf74.1 hf74.2 rfl hj80.1 hj80.2 dL_methods_1033 ?_
                refine z_bipush (v := 8) dL_methods_1034 rfl ?_
                refine z_aload 13 dL_methods_1036 rfl ?_
                refine z_bipush (v := 25) dL_methods_1038 rfl ?_
                obtain ⟨hj82, h⟩ := h
                refine z_iald (j := 25) hf74.1 hf74.2 rfl hj82.1 hj82.2 dL_methods_1040 ?_
                refine z_imul dL_methods_1041 ?_
                refine z_iadd dL_methods_1042 ?_
                refine z_istore (lv' := [(14, .int ((gA S14 a9 24) + (8 * (gA S14 a9 25)))), (13, .int (gA S14 a9 24)), (12, .int r15), (11, .int r7), (10, .int (4 + r2)), (0, .ref a0), (1, .int l1), (2, .int l2), (3, .int l3), (4, .ref a4), (5, .ref a5), (6, .ref a6), (7, .ref a7), (8, .ref a8), (9, .ref a9)]) dL_methods_1043 (Nat.le_of_ble_eq_true rfl) rfl ?_
                refine z_aload 14 dL_methods_1045 rfl ?_
                refine z_bipush (v := 24) dL_methods_1047 rfl ?_
                refine z_iconst (v := 0) dL_methods_1049 rfl ?_
                obtain ⟨hj84, h⟩ := h
                have h := h _ rfl
                refine z_iast (j := 24) hf74.1 hf74.2 rfl hj84.1 hj84.2 dL_methods_1050 ?_
                obtain ⟨S85, hS86⟩ : ∃ z, z = sA S14 a9 24 0 := ⟨_, rfl⟩
                rw [← hS86] at h ⊢
                have hf74 : a9 ∈ gL S85 ∧ gK S85 a9 = 12 := by rw [hS86]; exact hf74
                refine z_aload 14 dL_methods_1051 rfl ?_
                refine z_bipush (v := 25) dL_methods_1053 rfl ?_
                refine z_iconst (v := 0) dL_methods_1055 rfl ?_
                obtain ⟨hj88, h⟩ := h
                have h := h _ rfl
                refine z_iast (j := 25) hf74.1 hf74.2 rfl hj88.1 hj88.2 dL_methods_1056 ?_
                obtain ⟨S89, hS90⟩ : ∃ z, z = sA S85 a9 25 0 := ⟨_, rfl⟩
                rw [← hS90] at h ⊢
                have hf74 : a9 ∈ gL S89 ∧ gK S89 a9 = 12 := by rw [hS90]; exact hf74
                refine z_aload 14 dL_methods_1057 rfl ?_
                refine z_iconst (v := 1) dL_methods_1059 rfl ?_
                obtain ⟨hj92, h⟩ := h
                refine z_iald (j := 1) hf74.1 hf74.2 rfl hj92.1 hj92.2 dL_methods_1060 ?_
                refine z_iconst (v := 4) dL_methods_1061 rfl ?_
                refine z_icmp_ne 1080 dL_methods_1062 (by decide) (fun c121 => ?_) (fun c121 => ?_)
                · have h := h.1 c121
                  refine z_aload 10 dL_methods_1080 rfl ?_
                  refine z_aload 14 dL_methods_1082 rfl ?_
                  refine z_iconst (v := 1) dL_methods_1084 rfl ?_
                  obtain ⟨hj94, h⟩ := h
                  refine z_iald (j := 1) hf74.1 hf74.2 rfl hj94.1 hj94.2 dL_methods_1085 ?_
                  refine z_iload 0 dL_methods_1086 rfl ?_
                  obtain ⟨hf95, h⟩ := h
                  obtain ⟨j96, hj97, h⟩ := h
                  have h := h _ rfl
                  refine z_iast (j := j96) hf95.1 hf95.2 hj97.1 hj97.2.1 hj97.2.2 dL_methods_1088 ?_
                  obtain ⟨S98, hS99⟩ : ∃ z, z = sA S89 a5 j96 ((gA S14 a9 24) + (8 * (gA S14 a9 25))) := ⟨_, rfl⟩
                  rw [← hS99] at h ⊢
                  have hf95 : a5 ∈ gL S98 ∧ gK S98 a5 = 12 := by rw [hS99]; exact hf95
                  have hf74 : a9 ∈ gL S98 ∧ gK S98 a9 = 12 := by rw [hS99]; exact hf74
                  refine z_aload 14 dL_methods_1089 rfl ?_
                  refine z_iconst (v := 1) dL_methods_1091 rfl ?_
                  refine z_dup2 dL_methods_1092 rfl rfl ?_
                  obtain ⟨hj101, h⟩ := h
                  refine z_iald (j := 1) hf74.1 hf74.2 rfl hj101.1 hj101.2 dL_methods_1093 ?_
                  refine z_iconst (v := 1) dL_methods_1094 rfl ?_
                  refine z_iadd dL_methods_1095 ?_
                  obtain ⟨hj103, h⟩ := h
                  have h := h _ rfl
                  refine z_iast (j := 1) hf74.1 hf74.2 rfl hj103.1 hj103.2 dL_methods_1096 ?_
                  obtain ⟨S104, hS105⟩ : ∃ z, z = sA S98 a9 1 ((gA S98 a9 1) + 1) := ⟨_, rfl⟩
                  rw [← hS105] at h ⊢
                  have hf95 : a5 ∈ gL S104 ∧ gK S104 a5 = 12 := by rw [hS105]; exact hf95
                  have hf74 : a9 ∈ gL S104 ∧ gK S104 a9 = 12 := by rw [hS105]; exact hf74
                  refine z_aload_n 5 dL_methods_1097 rfl rfl ?_
                  refine zz_fl ?_
                  refine z_callW (st := []) (w_L_touch h) zw_827 zw_825 zw_826 zw_29 zy_L_touch rfl rfl ⟨Nat.le_of_ble_eq_true rfl, Nat.le_of_ble_eq_true rfl⟩ ⟨(Nat.le_of_ble_eq_true rfl), (Nat.le_of_ble_eq_true rfl)⟩ (Nat.le_of_ble_eq_true rfl) dL_methods_1098 (fun r107 C106 h => ?_)
                  refine z_widen (k' := 6) (n' := 300) (Nat.le_refl _) (Nat.le_refl _) ?_
                  refine zz_fl ?_
                  refine z_aload 14 dL_methods_1101 rfl ?_
                  refine z_iconst (v := 1) dL_methods_1103 rfl ?_
                  obtain ⟨hj109, h⟩ := h
                  refine z_iald (j := 1) hf74.1 hf74.2 rfl hj109.1 hj109.2 dL_methods_1104 ?_
                  refine z_iconst (v := 1) dL_methods_1105 rfl ?_
                  refine z_isub dL_methods_1106 ?_
                  refine z_icmp_ne 1114 dL_methods_1107 (by decide) (fun c112 => ?_) (fun c112 => ?_)
                  · have h := h.1 c112
                    refine z_iconst (v := 0) dL_methods_1114 rfl ?_
                    obtain ⟨hz110, h⟩ := h
                    exact z_zreturn ⟨_, _, rfl, rfl, h⟩ rfl (zbn hz110) (Nat.le_of_ble_eq_true rfl) (Nat.le_of_ble_eq_true rfl) dL_methods_1115
                  · have h := h.2 c112
                    refine z_iconst (v := 1) dL_methods_1110 rfl ?_
                    refine z_goto 1115 dL_methods_1111 (by decide) ?_
                    obtain ⟨hz111, h⟩ := h
                    exact z_zreturn ⟨_, _, rfl, rfl, h⟩ rfl (zbn hz111) (Nat.le_of_ble_eq_true rfl) (Nat.le_of_ble_eq_true rfl) dL_methods_1115
                · have h := h.2 c121
                  refine z_aload_n 5 dL_methods_1065 rfl rfl ?_
                  obtain ⟨hf117, h⟩ := h
                  refine zz_fl ?_
                  refine z_callVI (ci := 10) (st := []) (w_X10_dropLeads h) hf117.1 hf117.2 (Nat.le_of_ble_eq_true rfl) rfl zw_836 zw_833 zw_834 zw_835 zw_30 zy_X10_dropLeads rfl rfl ⟨Nat.le_of_ble_eq_true rfl, Nat.le_of_ble_eq_true rfl⟩ ⟨(Nat.le_of_ble_eq_true rfl), (Nat.le_of_ble_eq_true rfl)⟩ (Nat.le_of_ble_eq_true rfl) dL_methods_1066 (fun _ _ hx => hx.elim) (fun r116 C115 h => ?_)
                  refine z_widen (k' := 0) (n' := 0) (Nat.le_refl _) (Nat.le_refl _) ?_
                  refine zz_fl ?_
                  refine z_iload 1 dL_methods_1069 rfl ?_
                  refine z_icmp_ne 1078 dL_methods_1071 (by decide) (fun c120 => ?_) (fun c120 => ?_)
                  · have h := h.1 c120
                    refine z_iconst (v := 0) dL_methods_1078 rfl ?_
                    obtain ⟨hz118, h⟩ := h
                    exact z_zreturn ⟨_, _, rfl, rfl, h⟩ rfl (zbn hz118) (Nat.le_of_ble_eq_true rfl) (Nat.le_of_ble_eq_true rfl) dL_methods_1079
                  · have h := h.2 c120
                    refine z_iconst (v := 1) dL_methods_1074 rfl ?_
                    refine z_goto 1079 dL_methods_1075 (by decide) ?_
                    obtain ⟨hz119, h⟩ := h
                    exact z_zreturn ⟨_, _, rfl, rfl, h⟩ rfl (zbn hz119) (Nat.le_of_ble_eq_true rfl) (Nat.le_of_ble_eq_true rfl) dL_methods_1079
              · have h := h.2 c134
                refine z_aload_n 3 dL_methods_999 rfl rfl ?_
                refine zz_fl ?_
                refine z_callW (st := []) (w_L_touch h) zw_827 zw_825 zw_826 zw_29 zy_L_touch rfl rfl ⟨Nat.le_of_ble_eq_true rfl, Nat.le_of_ble_eq_true rfl⟩ ⟨(Nat.le_of_ble_eq_true rfl), (Nat.le_of_ble_eq_true rfl)⟩ (Nat.le_of_ble_eq_true rfl) dL_methods_1000 (fun r125 C124 h => ?_)
                refine z_widen (k' := 6) (n' := 300) (Nat.le_refl _) (Nat.le_refl _) ?_
                refine zz_fl ?_
                refine z_sipush (v := (-7300)) dL_methods_1003 rfl ?_
                refine z_icmp_ne 1020 dL_methods_1006 (by decide) (fun c133 => ?_) (fun c133 => ?_)
                · have h := h.1 c133
                  refine z_iconst (v := 0) dL_methods_1020 rfl ?_
                  obtain ⟨hz126, h⟩ := h
                  exact z_zreturn ⟨_, _, rfl, rfl, h⟩ rfl (zbn hz126) (Nat.le_of_ble_eq_true rfl) (Nat.le_of_ble_eq_true rfl) dL_methods_1021
                · have h := h.2 c133
                  refine z_aload_n 3 dL_methods_1009 rfl rfl ?_
                  obtain ⟨hf129, h⟩ := h
                  refine zz_fl ?_
                  refine z_callVI (ci := 10) (st := []) (w_X10_dropLeads h) hf129.1 hf129.2 (Nat.le_of_ble_eq_true rfl) rfl zw_836 zw_833 zw_834 zw_835 zw_30 zy_X10_dropLeads rfl rfl ⟨Nat.le_of_ble_eq_true rfl, Nat.le_of_ble_eq_true rfl⟩ ⟨(Nat.le_of_ble_eq_true rfl), (Nat.le_of_ble_eq_true rfl)⟩ (Nat.le_of_ble_eq_true rfl) dL_methods_1010 (fun _ _ hx => hx.elim) (fun r128 C127 h => ?_)
                  refine z_widen (k' := 6) (n' := 300) (Nat.le_refl _) (Nat.le_refl _) ?_
                  refine zz_fl ?_
                  refine z_if_ne 1020 dL_methods_1013 (by decide) (fun c132 => ?_) (fun c132 => ?_)
                  · have h := h.1 c132
                    refine z_iconst (v := 0) dL_methods_1020 rfl ?_
                    obtain ⟨hz130, h⟩ := h
                    exact z_zreturn ⟨_, _, rfl, rfl, h⟩ rfl (zbn hz130) (Nat.le_of_ble_eq_true rfl) (Nat.le_of_ble_eq_true rfl) dL_methods_1021
                  · have h := h.2 c132
                    refine z_iconst (v := 1) dL_methods_1016 rfl ?_
                    refine z_goto 1021 dL_methods_1017 (by decide) ?_
                    obtain ⟨hz131, h⟩ := h
                    exact z_zreturn ⟨_, _, rfl, rfl, h⟩ rfl (zbn hz131) (Nat.le_of_ble_eq_true rfl) (Nat.le_of_ble_eq_true rfl) dL_methods_1021
          · have h := h.2 c195
            refine z_iload_n 6 dL_methods_823 rfl rfl ?_
            refine z_iconst (v := 3) dL_methods_824 rfl ?_
            refine z_callSI (st := []) (w_L_low h) zw_313 zw_311 zw_312 zw_29 zy_L_low rfl rfl ⟨Nat.le_of_ble_eq_true rfl, Nat.le_of_ble_eq_true rfl⟩ ⟨(Nat.le_of_ble_eq_true rfl), (Nat.le_of_ble_eq_true rfl)⟩ (Nat.le_of_ble_eq_true rfl) dL_methods_825 (fun _ _ hx => hx.elim) (fun r137 S136 h => ?_)
            refine z_widen (k' := 0) (n' := 0) (Nat.le_refl _) (Nat.le_refl _) ?_
            refine z_istore (lv' := [(13, .int r137), (12, .int r15), (11, .int r7), (10, .int (4 + r2)), (0, .ref a0), (1, .int l1), (2, .int l2), (3, .int l3), (4, .ref a4), (5, .ref a5), (6, .ref a6), (7, .ref a7), (8, .ref a8), (9, .ref a9)]) dL_methods_828 (Nat.le_of_ble_eq_true rfl) rfl ?_
            refine z_aload_n 4 dL_methods_830 rfl rfl ?_
            refine z_iload 2 dL_methods_831 rfl ?_
            refine z_iconst (v := 3) dL_methods_833 rfl ?_
            refine zz_fl ?_
            refine z_callW (st := []) (w_L_lead h) zw_705 zw_703 zw_704 zw_29 zy_L_lead rfl rfl ⟨Nat.le_of_ble_eq_true rfl, Nat.le_of_ble_eq_true rfl⟩ ⟨(Nat.le_of_ble_eq_true rfl), (Nat.le_of_ble_eq_true rfl)⟩ (Nat.le_of_ble_eq_true rfl) dL_methods_834 (fun r139 C138 h => ?_)
            refine z_widen (k' := 3) (n' := 34) (Nat.le_refl _) (Nat.le_refl _) ?_
            refine zz_fl ?_
            refine z_sipush (v := (-7200)) dL_methods_837 rfl ?_
            refine z_icmp_ne 856 dL_methods_840 (by decide) (fun c194 => ?_) (fun c194 => ?_)
            · have h := h.1 c194
              refine z_iconst (v := 0) dL_methods_856 rfl ?_
              obtain ⟨hz140, h⟩ := h
              exact z_zreturn ⟨_, _, rfl, rfl, h⟩ rfl (zbn hz140) (Nat.le_of_ble_eq_true rfl) (Nat.le_of_ble_eq_true rfl) dL_methods_857
            · have h := h.2 c194
              refine z_aload_n 4 dL_methods_843 rfl rfl ?_
              refine z_iload 2 dL_methods_844 rfl ?_
              refine z_iconst (v := (-1)) dL_methods_846 rfl ?_
              refine zz_fl ?_
              refine z_callW (st := []) (w_L_lead h) zw_705 zw_703 zw_704 zw_29 zy_L_lead rfl rfl ⟨Nat.le_of_ble_eq_true rfl, Nat.le_of_ble_eq_true rfl⟩ ⟨(Nat.le_of_ble_eq_true rfl), (Nat.le_of_ble_eq_true rfl)⟩ (Nat.le_of_ble_eq_true rfl) dL_methods_847 (fun r142 C141 h => ?_)
              refine z_widen (k' := 6) (n' := 68) (Nat.le_refl _) (Nat.le_refl _) ?_
              refine zz_fl ?_
              refine z_sipush (v := (-7200)) dL_methods_850 rfl ?_
              refine z_icmp_eq 858 dL_methods_853 (by decide) (fun c193 => ?_) (fun c193 => ?_)
              · have h := h.1 c193
                refine z_aload 13 dL_methods_858 rfl ?_
                refine z_bipush (v := 24) dL_methods_860 rfl ?_
                obtain ⟨hf143, h⟩ := h
                obtain ⟨hj145, h⟩ := h
                refine z_iald (j := 24) hf143.1 hf143.2 rfl hj145.1 hj145.2 dL_methods_862 ?_
                refine z_iconst (v := 4) dL_methods_863 rfl ?_
                refine z_icmp_ne 885 dL_methods_864 (by decide) (fun c191 => ?_) (fun c191 => ?_)
                · have h := h.1 c191
                  refine z_aload 13 dL_methods_885 rfl ?_
                  refine z_bipush (v := 24) dL_methods_887 rfl ?_
                  obtain ⟨hj147, h⟩ := h
                  refine z_iald (j := 24) hf143.1 hf143.2 rfl hj147.1 hj147.2 dL_methods_889 ?_
                  refine z_if_le 931 dL_methods_890 (by decide) (fun c185 => ?_) (fun c185 => ?_)
                  · have h := h.1 c185
                    refine z_sub [4, 13, 2, 0] rfl ?_
                    refine w_L_methods_J931 a0 a9 r7 r137 S136 C141 h
                  · have h := h.2 c185
                    refine z_aload 8 dL_methods_893 rfl ?_
                    refine z_aload 13 dL_methods_895 rfl ?_
                    refine z_bipush (v := 25) dL_methods_897 rfl ?_
                    obtain ⟨hj173, h⟩ := h
                    refine z_iald (j := 25) hf143.1 hf143.2 rfl hj173.1 hj173.2 dL_methods_899 ?_
                    refine z_iconst (v := 3) dL_methods_900 rfl ?_
                    refine z_iand dL_methods_901 ?_
                    obtain ⟨hf174, h⟩ := h
                    obtain ⟨j175, hj176, h⟩ := h
                    refine z_lald (j := j175) hf174.1 hf174.2 hj176.1 hj176.2.1 hj176.2.2 dL_methods_902 ?_
                    refine z_callSI (st := []) (w_L_stageOf h) zw_785 zw_783 zw_784 zw_29 zy_L_stageOf rfl rfl ⟨Nat.le_of_ble_eq_true rfl, Nat.le_of_ble_eq_true rfl⟩ ⟨(Nat.le_of_ble_eq_true rfl), (Nat.le_of_ble_eq_true rfl)⟩ (Nat.le_of_ble_eq_true rfl) dL_methods_903 (fun _ _ hx => hx.elim) (fun r178 S177 h => ?_)
                    refine z_widen (k' := 6) (n' := 68) (Nat.le_refl _) (Nat.le_refl _) ?_
                    refine z_iload 1 dL_methods_906 rfl ?_
                    refine z_icmp_eq 931 dL_methods_908 (by decide) (fun c184 => ?_) (fun c184 => ?_)
                    · have h := h.1 c184
                      refine z_sub [4, 13, 2, 0] rfl ?_
                      refine w_L_methods_J931 a0 a9 r7 r137 S177 C141 h
                    · have h := h.2 c184
                      refine z_aload_n 4 dL_methods_911 rfl rfl ?_
                      refine z_iload 2 dL_methods_912 rfl ?_
                      refine z_iload 0 dL_methods_914 rfl ?_
                      refine zz_fl ?_
                      refine z_callW (st := []) (w_L_lead h) zw_705 zw_703 zw_704 zw_29 zy_L_lead rfl rfl ⟨Nat.le_of_ble_eq_true rfl, Nat.le_of_ble_eq_true rfl⟩ ⟨(Nat.le_of_ble_eq_true rfl), (Nat.le_of_ble_eq_true rfl)⟩ (Nat.le_of_ble_eq_true rfl) dL_methods_916 (fun r180 C179 h => ?_)
                      refine z_widen (k' := 9) (n' := 102) (Nat.le_refl _) (Nat.le_refl _) ?_
                      refine zz_fl ?_
                      refine z_sipush (v := (-7300)) dL_methods_919 rfl ?_
                      refine z_icmp_ne 929 dL_methods_922 (by decide) (fun c183 => ?_) (fun c183 => ?_)
                      · have h := h.1 c183
                        refine z_iconst (v := 0) dL_methods_929 rfl ?_
                        obtain ⟨hz181, h⟩ := h
                        exact z_zreturn ⟨_, _, rfl, rfl, h⟩ rfl (zbn hz181) (Nat.le_of_ble_eq_true rfl) (Nat.le_of_ble_eq_true rfl) dL_methods_930
                      · have h := h.2 c183
                        refine z_iconst (v := 1) dL_methods_925 rfl ?_
                        refine z_goto 930 dL_methods_926 (by decide) ?_
                        obtain ⟨hz182, h⟩ := h
                        exact z_zreturn ⟨_, _, rfl, rfl, h⟩ rfl (zbn hz182) (Nat.le_of_ble_eq_true rfl) (Nat.le_of_ble_eq_true rfl) dL_methods_930
                · have h := h.2 c191
                  refine z_aload_n 4 dL_methods_867 rfl rfl ?_
                  refine z_iconst (v := (-1)) dL_methods_868 rfl ?_
                  refine z_iconst (v := 0) dL_methods_869 rfl ?_
                  refine zz_fl ?_
                  refine z_callW (st := []) (w_L_lead h) zw_705 zw_703 zw_704 zw_29 zy_L_lead rfl rfl ⟨Nat.le_of_ble_eq_true rfl, Nat.le_of_ble_eq_true rfl⟩ ⟨(Nat.le_of_ble_eq_true rfl), (Nat.le_of_ble_eq_true rfl)⟩ (Nat.le_of_ble_eq_true rfl) dL_methods_870 (fun r187 C186 h => ?_)
                  refine z_widen (k' := 9) (n' := 102) (Nat.le_refl _) (Nat.le_refl _) ?_
                  refine zz_fl ?_
                  refine z_sipush (v := (-7100)) dL_methods_873 rfl ?_
                  refine z_icmp_ne 883 dL_methods_876 (by decide) (fun c190 => ?_) (fun c190 => ?_)
                  · have h := h.1 c190
                    refine z_iconst (v := 0) dL_methods_883 rfl ?_
                    obtain ⟨hz188, h⟩ := h
                    exact z_zreturn ⟨_, _, rfl, rfl, h⟩ rfl (zbn hz188) (Nat.le_of_ble_eq_true rfl) (Nat.le_of_ble_eq_true rfl) dL_methods_884
                  · have h := h.2 c190
                    refine z_iconst (v := 1) dL_methods_879 rfl ?_
                    refine z_goto 884 dL_methods_880 (by decide) ?_
                    obtain ⟨hz189, h⟩ := h
                    exact z_zreturn ⟨_, _, rfl, rfl, h⟩ rfl (zbn hz189) (Nat.le_of_ble_eq_true rfl) (Nat.le_of_ble_eq_true rfl) dL_methods_884
              · have h := h.2 c193
                refine z_iconst (v := 0) dL_methods_856 rfl ?_
                obtain ⟨hz192, h⟩ := h
                exact z_zreturn ⟨_, _, rfl, rfl, h⟩ rfl (zbn hz192) (Nat.le_of_ble_eq_true rfl) (Nat.le_of_ble_eq_true rfl) dL_methods_857
        · have h := h.2 c252
          refine z_iconst (v := 1) dL_methods_565 rfl ?_
          refine z_iload_n 6 dL_methods_566 rfl rfl ?_
          refine z_iconst (v := 1) dL_methods_567 rfl ?_
          refine z_iand dL_methods_568 ?_
          refine z_iadd dL_methods_569 ?_
          refine z_istore (lv' := [(13, .int (1 + (l3 &&& 1))), (12, .int r15), (11, .int r7), (10, .int (4 + r2)), (0, .ref a0), (1, .int l1), (2, .int l2), (3, .int l3), (4, .ref a4), (5, .ref a5), (6, .ref a6), (7, .ref a7), (8, .ref a8), (9, .ref a9)]) dL_methods_570 (Nat.le_of_ble_eq_true rfl) rfl ?_
          refine z_iload_n 7 dL_methods_572 rfl rfl ?_
          refine z_iconst (v := 1) dL_methods_573 rfl ?_
          refine z_ishr dL_methods_574 ?_
          refine z_bipush (v := 64) dL_methods_575 rfl ?_
          refine z_callSI (st := []) (w_L_low h) zw_313 zw_311 zw_312 zw_29 zy_L_low rfl rfl ⟨Nat.le_of_ble_eq_true rfl, Nat.le_of_ble_eq_true rfl⟩ ⟨(Nat.le_of_ble_eq_true rfl), (Nat.le_of_ble_eq_true rfl)⟩ (Nat.le_of_ble_eq_true rfl) dL_methods_577 (fun _ _ hx => hx.elim) (fun r197 S196 h => ?_)
          refine z_widen (k' := 0) (n' := 0) (Nat.le_refl _) (Nat.le_refl _) ?_
          refine z_istore (lv' := [(14, .int r197), (13, .int (1 + (l3 &&& 1))), (12, .int r15), (11, .int r7), (10, .int (4 + r2)), (0, .ref a0), (1, .int l1), (2, .int l2), (3, .int l3), (4, .ref a4), (5, .ref a5), (6, .ref a6), (7, .ref a7), (8, .ref a8), (9, .ref a9)]) dL_methods_580 (Nat.le_of_ble_eq_true rfl) rfl ?_
          refine z_iconst (v := 0) dL_methods_582 rfl ?_
          refine z_istore (lv' := [(15, .int 0), (14, .int r197), (13, .int (1 + (l3 &&& 1))), (12, .int r15), (11, .int r7), (10, .int (4 + r2)), (0, .ref a0), (1, .int l1), (2, .int l2), (3, .int l3), (4, .ref a4), (5, .ref a5), (6, .ref a6), (7, .ref a7), (8, .ref a8), (9, .ref a9)]) dL_methods_583 (Nat.le_of_ble_eq_true rfl) rfl ?_
          obtain ⟨m585, h⟩ := h
          refine z_sub [6, 9, 10, 11, 12, 13, 14, 15, 4, 3, 2, 1, 0] rfl ?_
          refine w_L_methods_L585 (fun a0 a4 a5 a6 a7 a8 a9 l11 l12 l13 l14 S C h => ?_) m585 a0 l3 a4 a5 a6 a7 a8 a9 r7 r15 (1 + (l3 &&& 1)) r197 0 S196 C h
          refine w_L_methods_J625 a0 a4 a5 a6 a7 a8 a9 l11 l12 l13 l14 S C h
      · have h := h.2 c270
        refine z_aload_n 2 dL_methods_488 rfl rfl ?_
        refine z_iload 0 dL_methods_489 rfl ?_
        refine z_iconst (v := 0) dL_methods_491 rfl ?_
        refine z_bipush (v := 64) dL_methods_492 rfl ?_
        refine zz_fl ?_
        refine z_callW (st := []) (w_L_setCall h) zw_621 zw_619 zw_620 zw_29 zy_L_setCall rfl rfl ⟨Nat.le_of_ble_eq_true rfl, Nat.le_of_ble_eq_true rfl⟩ ⟨(Nat.le_of_ble_eq_true rfl), (Nat.le_of_ble_eq_true rfl)⟩ (Nat.le_of_ble_eq_true rfl) dL_methods_494 (fun r254 C253 h => ?_)
        refine z_widen (k' := 3) (n' := 18) (Nat.le_refl _) (Nat.le_refl _) ?_
        refine zz_fl ?_
        refine z_sipush (v := (-7100)) dL_methods_497 rfl ?_
        refine z_icmp_ne 547 dL_methods_500 (by decide) (fun c269 => ?_) (fun c269 => ?_)
        · have h := h.1 c269
          refine z_iconst (v := 0) dL_methods_547 rfl ?_
          obtain ⟨hz255, h⟩ := h
          exact z_zreturn ⟨_, _, rfl, rfl, h⟩ rfl (zbn hz255) (Nat.le_of_ble_eq_true rfl) (Nat.le_of_ble_eq_true rfl) dL_methods_548
        · have h := h.2 c269
          refine z_aload_n 2 dL_methods_503 rfl rfl ?_
          refine z_iload 0 dL_methods_504 rfl ?_
          refine z_iconst (v := 3) dL_methods_506 rfl ?_
          refine zz_fl ?_
          refine z_callW (st := []) (w_L_lead h) zw_705 zw_703 zw_704 zw_29 zy_L_lead rfl rfl ⟨Nat.le_of_ble_eq_true rfl, Nat.le_of_ble_eq_true rfl⟩ ⟨(Nat.le_of_ble_eq_true rfl), (Nat.le_of_ble_eq_true rfl)⟩ (Nat.le_of_ble_eq_true rfl) dL_methods_507 (fun r257 C256 h => ?_)
          refine z_widen (k' := 6) (n' := 52) (Nat.le_refl _) (Nat.le_refl _) ?_
          refine zz_fl ?_
          refine z_sipush (v := (-7100)) dL_methods_510 rfl ?_
          refine z_icmp_ne 547 dL_methods_513 (by decide) (fun c268 => ?_) (fun c268 => ?_)
          · have h := h.1 c268
            refine z_iconst (v := 0) dL_methods_547 rfl ?_
            obtain ⟨hz258, h⟩ := h
            exact z_zreturn ⟨_, _, rfl, rfl, h⟩ rfl (zbn hz258) (Nat.le_of_ble_eq_true rfl) (Nat.le_of_ble_eq_true rfl) dL_methods_548
          · have h := h.2 c268
            refine z_aload_n 2 dL_methods_516 rfl rfl ?_
            refine z_iload 0 dL_methods_517 rfl ?_
            refine z_iconst (v := 0) dL_methods_519 rfl ?_
            refine zz_fl ?_
            refine z_callW (st := []) (w_L_compose h) zw_730 zw_728 zw_729 zw_29 zy_L_compose rfl rfl ⟨Nat.le_of_ble_eq_true rfl, Nat.le_of_ble_eq_true rfl⟩ ⟨(Nat.le_of_ble_eq_true rfl), (Nat.le_of_ble_eq_true rfl)⟩ (Nat.le_of_ble_eq_true rfl) dL_methods_520 (fun r260 C259 h => ?_)
            refine z_widen (k' := 21) (n' := 518) (Nat.le_refl _) (Nat.le_refl _) ?_
            refine zz_fl ?_
            refine z_sipush (v := (-7100)) dL_methods_523 rfl ?_
            refine z_icmp_ne 547 dL_methods_526 (by decide) (fun c267 => ?_) (fun c267 => ?_)
            · have h := h.1 c267
              refine z_iconst (v := 0) dL_methods_547 rfl ?_
              obtain ⟨hz261, h⟩ := h
              exact z_zreturn ⟨_, _, rfl, rfl, h⟩ rfl (zbn hz261) (Nat.le_of_ble_eq_true rfl) (Nat.le_of_ble_eq_true rfl) dL_methods_548
            · have h := h.2 c267
              refine z_aload_n 2 dL_methods_529 rfl rfl ?_
              refine z_iload 0 dL_methods_530 rfl ?_
              refine z_iconst (v := 3) dL_methods_532 rfl ?_
              refine z_iconst (v := 0) dL_methods_533 rfl ?_
              refine zz_fl ?_
              refine z_callW (st := []) (w_L_changeAt h) zw_777 zw_775 zw_776 zw_29 zy_L_changeAt rfl rfl ⟨Nat.le_of_ble_eq_true rfl, Nat.le_of_ble_eq_true rfl⟩ ⟨(Nat.le_of_ble_eq_true rfl), (Nat.le_of_ble_eq_true rfl)⟩ (Nat.le_of_ble_eq_true rfl) dL_methods_534 (fun r263 C262 h => ?_)
              refine z_widen (k' := 23) (n' := 530) (Nat.le_refl _) (Nat.le_refl _) ?_
              refine zz_fl ?_
              refine z_sipush (v := (-7100)) dL_methods_537 rfl ?_
              refine z_icmp_ne 547 dL_methods_540 (by decide) (fun c266 => ?_) (fun c266 => ?_)
              · have h := h.1 c266
                refine z_iconst (v := 0) dL_methods_547 rfl ?_
                obtain ⟨hz264, h⟩ := h
                exact z_zreturn ⟨_, _, rfl, rfl, h⟩ rfl (zbn hz264) (Nat.le_of_ble_eq_true rfl) (Nat.le_of_ble_eq_true rfl) dL_methods_548
              · have h := h.2 c266
                refine z_iconst (v := 1) dL_methods_543 rfl ?_
                refine z_goto 548 dL_methods_544 (by decide) ?_
                obtain ⟨hz265, h⟩ := h
                exact z_zreturn ⟨_, _, rfl, rfl, h⟩ rfl (zbn hz265) (Nat.le_of_ble_eq_true rfl) (Nat.le_of_ble_eq_true rfl) dL_methods_548
    · have h := h.2 c361
      refine z_aload 10 dL_methods_205 rfl ?_
      refine z_bipush (v := 22) dL_methods_207 rfl ?_
      obtain ⟨hf271, h⟩ := h
      obtain ⟨hj273, h⟩ := h
      refine z_iald (j := 22) hf271.1 hf271.2 rfl hj273.1 hj273.2 dL_methods_209 ?_
      refine z_if_le 217 dL_methods_210 (by decide) (fun c360 => ?_) (fun c360 => ?_)
      · have h := h.1 c360
        refine z_iconst (v := 0) dL_methods_217 rfl ?_
        refine z_sub [1, 4, 5, 10, 0] rfl ?_
        refine w_L_methods_J218 a0 l3 a4 a9 (4 + r2) 0 S1 C h
      · have h := h.2 c360
        refine z_iconst (v := 1) dL_methods_213 rfl ?_
        refine z_goto 218 dL_methods_214 (by decide) ?_
        refine z_sub [1, 4, 5, 10, 0] rfl ?_
        refine w_L_methods_J218 a0 l3 a4 a9 (4 + r2) 1 S1 C h
  · have h := h.2 c421
    refine z_iload_n 3 dL_methods_14 rfl rfl ?_
    refine z_sipush (v := 768) dL_methods_15 rfl ?_
    refine z_iand dL_methods_18 ?_
    refine z_if_ne 31 dL_methods_19 (by decide) (fun c420 => ?_) (fun c420 => ?_)
    · have h := h.1 c420
      refine z_iload_n 4 dL_methods_31 rfl rfl ?_
      refine z_iconst (v := 5) dL_methods_32 rfl ?_
      refine z_callSI (st := []) (w_L_low h) zw_313 zw_311 zw_312 zw_29 zy_L_low rfl rfl ⟨Nat.le_of_ble_eq_true rfl, Nat.le_of_ble_eq_true rfl⟩ ⟨(Nat.le_of_ble_eq_true rfl), (Nat.le_of_ble_eq_true rfl)⟩ (Nat.le_of_ble_eq_true rfl) dL_methods_33 (fun _ _ hx => hx.elim) (fun r363 S362 h => ?_)
      refine z_widen (k' := 0) (n' := 0) (Nat.le_refl _) (Nat.le_refl _) ?_
      refine z_if_ne 43 dL_methods_36 (by decide) (fun c417 => ?_) (fun c417 => ?_)
      · have h := h.1 c417
        refine z_iload_n 4 dL_methods_43 rfl rfl ?_
        refine z_iconst (v := 5) dL_methods_44 rfl ?_
        refine z_callSI (st := []) (w_L_low h) zw_313 zw_311 zw_312 zw_29 zy_L_low rfl rfl ⟨Nat.le_of_ble_eq_true rfl, Nat.le_of_ble_eq_true rfl⟩ ⟨(Nat.le_of_ble_eq_true rfl), (Nat.le_of_ble_eq_true rfl)⟩ (Nat.le_of_ble_eq_true rfl) dL_methods_45 (fun _ _ hx => hx.elim) (fun r365 S364 h => ?_)
        refine z_widen (k' := 0) (n' := 0) (Nat.le_refl _) (Nat.le_refl _) ?_
        refine z_iconst (v := 1) dL_methods_48 rfl ?_
        refine z_icmp_ne 57 dL_methods_49 (by decide) (fun c416 => ?_) (fun c416 => ?_)
        · have h := h.1 c416
          refine z_iload_n 4 dL_methods_57 rfl rfl ?_
          refine z_iconst (v := 5) dL_methods_58 rfl ?_
          refine z_callSI (st := []) (w_L_low h) zw_313 zw_311 zw_312 zw_29 zy_L_low rfl rfl ⟨Nat.le_of_ble_eq_true rfl, Nat.le_of_ble_eq_true rfl⟩ ⟨(Nat.le_of_ble_eq_true rfl), (Nat.le_of_ble_eq_true rfl)⟩ (Nat.le_of_ble_eq_true rfl) dL_methods_59 (fun _ _ hx => hx.elim) (fun r367 S366 h => ?_)
          refine z_widen (k' := 0) (n' := 0) (Nat.le_refl _) (Nat.le_refl _) ?_
          refine z_iconst (v := 2) dL_methods_62 rfl ?_
          refine z_icmp_ne 71 dL_methods_63 (by decide) (fun c415 => ?_) (fun c415 => ?_)
          · have h := h.1 c415
            refine z_iload_n 4 dL_methods_71 rfl rfl ?_
            refine z_iconst (v := 5) dL_methods_72 rfl ?_
            refine z_callSI (st := []) (w_L_low h) zw_313 zw_311 zw_312 zw_29 zy_L_low rfl rfl ⟨Nat.le_of_ble_eq_true rfl, Nat.le_of_ble_eq_true rfl⟩ ⟨(Nat.le_of_ble_eq_true rfl), (Nat.le_of_ble_eq_true rfl)⟩ (Nat.le_of_ble_eq_true rfl) dL_methods_73 (fun _ _ hx => hx.elim) (fun r369 S368 h => ?_)
            refine z_widen (k' := 0) (n' := 0) (Nat.le_refl _) (Nat.le_refl _) ?_
            refine z_iconst (v := 3) dL_methods_76 rfl ?_
            refine z_icmp_ne 84 dL_methods_77 (by decide) (fun c414 => ?_) (fun c414 => ?_)
            · have h := h.1 c414
              refine z_bipush (v := 12) dL_methods_84 rfl ?_
              refine z_sub [1, 10] rfl ?_
              refine w_L_methods_J86 a0 a9 12 S368 C h
            · have h := h.2 c414
              refine z_iconst (v := 1) dL_methods_80 rfl ?_
              refine z_goto 86 dL_methods_81 (by decide) ?_
              refine z_sub [1, 10] rfl ?_
              refine w_L_methods_J86 a0 a9 1 S368 C h
          · have h := h.2 c415
            refine z_bipush (v := 33) dL_methods_66 rfl ?_
            refine z_goto 86 dL_methods_68 (by decide) ?_
            refine z_sub [1, 10] rfl ?_
            refine w_L_methods_J86 a0 a9 33 S366 C h
        · have h := h.2 c416
          refine z_bipush (v := 9) dL_methods_52 rfl ?_
          refine z_goto 86 dL_methods_54 (by decide) ?_
          refine z_sub [1, 10] rfl ?_
          refine w_L_methods_J86 a0 a9 9 S364 C h
      · have h := h.2 c417
        refine z_iconst (v := 0) dL_methods_39 rfl ?_
        refine z_goto 86 dL_methods_40 (by decide) ?_
        refine z_sub [1, 10] rfl ?_
        refine w_L_methods_J86 a0 a9 0 S362 C h
    · have h := h.2 c420
      refine z_iload_n 4 dL_methods_22 rfl rfl ?_
      refine z_bipush (v := 64) dL_methods_23 rfl ?_
      refine z_callSI (st := []) (w_L_low h) zw_313 zw_311 zw_312 zw_29 zy_L_low rfl rfl ⟨Nat.le_of_ble_eq_true rfl, Nat.le_of_ble_eq_true rfl⟩ ⟨(Nat.le_of_ble_eq_true rfl), (Nat.le_of_ble_eq_true rfl)⟩ (Nat.le_of_ble_eq_true rfl) dL_methods_25 (fun _ _ hx => hx.elim) (fun r419 S418 h => ?_)
      refine z_widen (k' := 0) (n' := 0) (Nat.le_refl _) (Nat.le_refl _) ?_
      refine z_goto 86 dL_methods_28 (by decide) ?_
      refine z_sub [1, 10] rfl ?_
      refine w_L_methods_J86 a0 a9 r419 S418 C h
