/-! the class's rota -/
def z_bP (Z : zZ) (a mx : Nat) : Nat → Bool := fun k => decide (mx ≤ Z 24 ((a + k) % 4))
theorem z_bP_n {Z : zZ} {a mx k : Nat} (h : ¬ mx ≤ Z 24 ((a + k) % 4)) (l : List Nat) : List.find? (z_bP Z a mx) (k :: l) = List.find? (z_bP Z a mx) l :=
  List.find?_cons_of_neg (by unfold z_bP; rw [decide_eq_true_iff]; exact h)
theorem z_bP_p {Z : zZ} {a mx k : Nat} (h : mx ≤ Z 24 ((a + k) % 4)) (l : List Nat) : List.find? (z_bP Z a mx) (k :: l) = some k :=
  List.find?_cons_of_pos (by unfold z_bP; rw [decide_eq_true_iff]; exact h)
theorem z_bf_eq (Z : zZ) (a mx : Nat) : z_bf Z a mx = ([0, 1, 2, 3].find? (z_bP Z a mx)).map (fun k => (a + k) % 4) := rfl
theorem z_bf_some {Z : zZ} {a mx j : Nat} (hj : j < 4) (h : ∀ k, k < j → ¬ mx ≤ Z 24 ((a + k) % 4)) (h2 : mx ≤ Z 24 ((a + j) % 4)) : z_bf Z a mx = some ((a + j) % 4) := by
  rw [z_bf_eq]
  have : j = 0 ∨ j = 1 ∨ j = 2 ∨ j = 3 := by omega
  rcases this with rfl | rfl | rfl | rfl
  · rw [z_bP_p h2]
    rfl
  · rw [z_bP_n (h 0 (by omega)), z_bP_p h2]
    rfl
  · rw [z_bP_n (h 0 (by omega)), z_bP_n (h 1 (by omega)), z_bP_p h2]
    rfl
  · rw [z_bP_n (h 0 (by omega)), z_bP_n (h 1 (by omega)), z_bP_n (h 2 (by omega)), z_bP_p h2]
    rfl
theorem z_bf_none {Z : zZ} {a mx : Nat} (h : ∀ k, k < 4 → ¬ mx ≤ Z 24 ((a + k) % 4)) : z_bf Z a mx = none := by
  rw [z_bf_eq, z_bP_n (h 0 (by omega)), z_bP_n (h 1 (by omega)), z_bP_n (h 2 (by omega)), z_bP_n (h 3 (by omega))]
  rfl
def z_on : Option Nat → Nat
  | none => 4294967295
  | some b => b
theorem z_on_oi (o : Option Nat) : nI (z_on o) = z_oi o := by
  cases o with
  | none => exact cm1.symm
  | some b => rfl
theorem z_mx_le {Z : zZ} (hM : z_M Z) (hP : z_P Z) (hT : z_TT Z) {d : Nat} (hd : d ≤ 60) : ∀ j, j ≤ Z 21 d → z_mx Z d j ≤ 6 ∧ (0 < j → 4 ≤ z_mx Z d j)
  | 0, _ => ⟨Nat.zero_le _, fun h => absurd h (Nat.lt_irrefl 0)⟩
  | j + 1, hj => by
    have ih := z_mx_le hM hP hT hd j (by omega)
    have ht := (hP d hd).2 _ (z_day_mem (d := d) (k := j) (by omega))
    have hn := ro_N6 (z_T_N hM (hT.2 _ ht))
    show (if z_mx Z d j < z_st Z (Z 22 (4 * d + j)) then z_st Z (Z 22 (4 * d + j)) else z_mx Z d j) ≤ 6 ∧ (0 < j + 1 → 4 ≤ (if z_mx Z d j < z_st Z (Z 22 (4 * d + j)) then z_st Z (Z 22 (4 * d + j)) else z_mx Z d j))
    split <;> omega
theorem V_Y.get {V : vV} {Z : zZ} (h : V_Y V Z) {d : Nat} (hd : d ≤ 60) : V 400 d 0 = Z 21 d ∧ ∀ j, j < Z 21 d → V 2400 d j = V 3003 0 (Z 22 (4 * d + j)) := by
  have e := h d hd
  have l : V 400 d 0 = Z 21 d := by
    have := congrArg List.length e
    rw [v_day_len, List.length_map, z_day_len] at this
    exact this
  refine ⟨l, fun j hj => ?_⟩
  have g := congrArg (fun l => l[j]?) e
  simp only [List.getElem?_map] at g
  rw [v_day_get, z_day_get, if_pos (by omega), if_pos hj] at g
  exact Option.some.inj g
section ROT
variable {E : zE} {ad la : Nat → Nat → Nat} {M T R : Nat} {V : vV} {Z : zZ} {S : zS} {X : String → zS → Prop}
theorem c_firstBand_L {K1 : Int32 → zS → Prop} {K0 : zS → Prop} {Q : Int32 → zS → Prop} {a mx : Nat} (h : RC E ad la (sd M T R) V S) (vR : V_R V Z) (hR : z_R4 Z) (ha : a < 4) (hm : mx ≤ 6) (k1 : ∀ b, z_bf Z a mx = some b → K1 (nI b) S) (k0 : z_bf Z a mx = none → K0 S) :
    ∀ (w j : Nat), j ≤ 4 → 4 < j + w → (∀ k, k < j → ¬ mx ≤ Z 24 ((a + k) % 4)) → p_X7_firstBand_L8 E K1 K0 Q X w (ad 8 0) (nI a) (nI mx) (nI j) S
  | 0, j, h1, h2, h3 => by omega
  | w + 1, j, h1, h2, h3 => by
    refine pk_le 4 j (fun h4 => k0 (z_bf_none (fun k hk => h3 k (by omega)))) (fun h4 => ⟨h.o 8 0 Nat.zero_lt_one, ?_⟩)
    have hb : (a + j) % 4 < 4 := Nat.mod_lt _ (by decide)
    have b := hR.1 _ hb
    have e : ((nI a + nI j) - (nI a + nI j) / 4 * 4) = nI ((a + j) % 4) := by rw [nI_add]; exact ri_rem4 (by omega)
    rw [e]
    refine h.ij 800 0 ((a + j) % 4) Nat.zero_lt_one rfl hb ?_
    rw [h.ga 800 0 _ Nat.zero_lt_one, vR.1 _ hb]
    refine pk_lt (Z 24 ((a + j) % 4)) mx (fun h5 => ?_) (fun h5 => k1 _ (z_bf_some h4 h3 h5))
    rw [nI_1]
    refine c_firstBand_L h vR hR ha hm k1 k0 w (j + 1) (by omega) (by omega) (fun k hk => ?_)
    by_cases x : k = j
    · subst x
      omega
    · exact h3 k (by omega)
theorem c_firstBand {Q : Int32 → zS → Prop} {a mx : Nat} (h : RC E ad la (sd M T R) V S) (vR : V_R V Z) (hR : z_R4 Z) (ha : a < 4) (hm : mx ≤ 6) (k : Q (z_oi (if mx = 0 then none else z_bf Z a mx)) S) : p_X7_firstBand E (ad 8 0) (nI a) (nI mx) S Q X := by
  refine ⟨fun h1 => ⟨5, ?_⟩, fun h1 => ?_⟩
  · have h0 : ¬ mx = 0 := fun e => h1 (by rw [e]; rfl)
    rw [if_neg h0] at k
    refine c_firstBand_L (K1 := fun l4 S => Q l4 S) (K0 := fun S => Q (-1) S) h vR hR ha hm (fun b e => ?_) (fun e => ?_) 5 0 (by omega) (by omega) (fun k hk => absurd hk (Nat.not_lt_zero k))
    · rw [e] at k
      exact k
    · rw [e] at k
      exact k
  · have h0 : mx = 0 := by
      by_cases e : 0 < mx
      · exact absurd h1 (nI_ne0 e (by omega))
      · omega
    rw [if_pos h0] at k
    exact k
theorem c_turnBehind {Q : Int32 → zS → Prop} {o : Option Nat} {a : Nat} {l : Int32} (hl : l = z_oi o) (ho : ∀ b, o = some b → b < 4) (k : Q (nI (z_tb o a)) S) : p_X7_turnBehind E l (nI a) S Q X := by
  subst hl
  cases o with
  | none => exact ⟨fun x => absurd rfl x, fun _ => k⟩
  | some b =>
    have hb := ho b rfl
    refine ⟨fun _ => ?_, fun x => absurd x (z_oi_n (by omega))⟩
    have e : ((nI b + 1) - (nI b + 1) / 4 * 4) = nI ((b + 1) % 4) := by rw [nI_1]; exact ri_rem4 (by omega)
    show Q ((nI b + 1) - (nI b + 1) / 4 * 4) S
    rw [e]
    exact k
theorem c_bandFor_L {K : Int32 → zS → Prop} {Q : Int32 → zS → Prop} {d : Nat} (h : RC E ad la (sd M T R) V S) (hM : z_M Z) (hP : z_P Z) (hT : z_TT Z) (hR : z_R4 Z) (vR : V_R V Z) (vY : V_Y V Z) (sl : v_SL T V Z) (hd : d ≤ 60) (hd2 : Z 20 0 ≤ d) (k : K (z_oi (z_ba Z d)) S) :
    ∀ (w j : Nat), Z 20 0 + j ≤ d + 1 → d + 1 < Z 20 0 + j + w → p_X7_bandFor_L13 E K Q X w (ad 8 0) (nI d) (z_oi (z_bo Z j).2) (nI (z_bo Z j).1) (nI (Z 20 0 + j)) S
  | 0, j, h1, h2 => by omega
  | w + 1, j, h1, h2 => by
    have e82 : gI S 802 (ad 8 0) = nI (Z 20 0) := by rw [h.gi 802 8 0 Nat.zero_lt_one, vR.2.1]
    have e85 : gI S 805 (ad 8 0) = nI (Z 26 0) := by rw [h.gi 805 8 0 Nat.zero_lt_one, vR.2.2.2.2]
    refine pk_lt d (Z 20 0 + j) (fun h3 => ?_) (fun h3 => pk_lt 60 (Z 20 0 + j) (fun h4 => by omega) (fun h4 => ⟨h.o 8 0 Nat.zero_lt_one, ?_⟩))
    · have e : d - Z 20 0 + 1 = j := by omega
      unfold z_ba at k
      rw [e] at k
      exact k
    · have ih := c_bandFor_L (Q := Q) h hM hP hT hR vR vY sl hd hd2 k w (j + 1) (by omega) (by omega)
      have alt := z_bo_lt hR j
      have hbo : z_bo Z (j + 1) = (z_tb (z_bd Z (Z 20 0 + j) (z_bo Z j).1) (z_bo Z j).1, z_bd Z (Z 20 0 + j) (z_bo Z j).1) := rfl
      rw [hbo] at ih
      have plain : ¬ (Z 20 0 + j = Z 20 0 ∧ ¬ nI (Z 26 0) = -1) → p_X7_bandFor_J48 E (fun a0 l1 l2 l3 l4 S => p_X7_bandFor_L13 E K Q X w a0 l1 l2 l3 l4 S) Q X (ad 8 0) (nI d) (nI (z_bo Z j).1) (nI (Z 20 0 + j)) 0 S := by
        intro hn
        have hdd : Z 20 0 + j ≤ 60 := by omega
        have mx := z_mx_le hM hP hT hdd (Z 21 (Z 20 0 + j)) (Nat.le_refl _)
        have yg := vY.get hdd
        refine ⟨fun _ => ⟨h.o 8 0 Nat.zero_lt_one, h.ed (Z 20 0 + j) (by omega) rfl ?_⟩, fun x => absurd rfl x⟩
        refine c_greatest (Z := Z) h (by omega) yg.1 (fun i hi => ?_) (fun i hi => by have := z_mx_le hM hP hT hdd i hi; omega) ⟨h.o 8 0 Nat.zero_lt_one, c_firstBand h vR hR alt mx.1 ?_⟩
        · rw [yg.2 i hi]
          exact (sl _ ((hP _ hdd).2 _ (z_day_mem hi))).2.2.1
        · have ebd : z_bd Z (Z 20 0 + j) (z_bo Z j).1 = if z_mx Z (Z 20 0 + j) (Z 21 (Z 20 0 + j)) = 0 then none else z_bf Z (z_bo Z j).1 (z_mx Z (Z 20 0 + j) (Z 21 (Z 20 0 + j))) := by
            unfold z_bd
            rw [if_neg hn]
            by_cases e : Z 21 (Z 20 0 + j) = 0
            · rw [if_pos e, e]
              exact (if_pos rfl).symm
            · have := mx.2 (by omega)
              rw [if_neg e, if_neg (by omega)]
          rw [← ebd]
          refine c_turnBehind rfl (fun b e => z_bd_lt hR e) ?_
          rw [nI_1]
          exact ih
      rw [e82]
      refine ⟨fun h5 => plain (fun x => h5 (by rw [x.1])), fun h5 => ?_⟩
      have ej : Z 20 0 + j = Z 20 0 := (nI_eq (by omega) (by omega)).mp h5
      rw [e85]
      refine ⟨fun h6 => plain (fun x => x.2 h6), fun h6 => ⟨fun x => absurd x (by decide), fun _ => ⟨h.o 8 0 Nat.zero_lt_one, ?_⟩⟩⟩
      have ebd : z_bd Z (Z 20 0 + j) (z_bo Z j).1 = some (Z 26 0) := by
        unfold z_bd
        rw [if_pos ⟨ej, h6⟩]
      rw [ebd] at ih
      rw [e85]
      refine c_turnBehind (o := some (Z 26 0)) rfl (fun b e => ?_) ?_
      · have := Option.some.inj e
        rcases hR.2.2 with y | y
        · exact absurd y h6
        · omega
      · rw [nI_1]
        exact ih
theorem c_bandFor {Q : Int32 → zS → Prop} {d : Nat} (h : RC E ad la (sd M T R) V S) (hM : z_M Z) (hP : z_P Z) (hT : z_TT Z) (hR : z_R4 Z) (vR : V_R V Z) (vY : V_Y V Z) (sl : v_SL T V Z) (hd : d ≤ 60) (hd2 : Z 20 0 ≤ d) (k : Q (z_oi (z_ba Z d)) S) : p_X7_bandFor E (ad 8 0) (nI d) S Q X := by
  refine ⟨h.o 8 0 Nat.zero_lt_one, d + 2, ?_⟩
  rw [h.gi 802 8 0 Nat.zero_lt_one, vR.2.1, h.gi 804 8 0 Nat.zero_lt_one, vR.2.2.2.1]
  exact c_bandFor_L h hM hP hT hR vR vY sl hd hd2 k (d + 2) 0 (by omega) (by omega)
theorem z_ba_lt {Z : zZ} (hR : z_R4 Z) {d b : Nat} (h : z_ba Z d = some b) : b < 4 := by
  unfold z_ba at h
  exact z_bd_lt hR h
theorem v_mem_sl {V : vV} {Z : zZ} (vJ : ∀ t u, t < Z 10 0 → u < Z 10 0 → V 3003 0 t = V 3003 0 u → t = u) {l : List Nat} (hl : ∀ t, t ∈ l → t < Z 10 0) {t : Nat} (ht : t < Z 10 0) : V 3003 0 t ∈ l.map (V 3003 0) ↔ t ∈ l := by
  rw [List.mem_map]
  exact ⟨fun ⟨u, hu, e⟩ => (vJ u t (hl u hu) ht e) ▸ hu, fun hm => ⟨t, hm, rfl⟩⟩
theorem c_canRing {Q : Int32 → zS → Prop} {t : Nat} (h : RC E ad la (sd M T R) V S) (hM : z_M Z) (hP : z_P Z) (hT : z_TT Z) (hR : z_R4 Z) (vR : V_R V Z) (vY : V_Y V Z) (sl : v_SL T V Z) (vJ : ∀ t u, t < Z 10 0 → u < Z 10 0 → V 3003 0 t = V 3003 0 u → t = u) (hd : Z 20 0 ≤ 60) (ht : t < Z 10 0)
    (k1 : ∀ b, z_ba Z (Z 20 0) = some b → z_st Z t ≤ Z 24 b → t ∈ z_day Z (Z 20 0) → Q 1 S) (k0 : (¬ ∃ b, z_ba Z (Z 20 0) = some b ∧ z_st Z t ≤ Z 24 b ∧ t ∈ z_day Z (Z 20 0)) → Q 0 S) : p_X7_canRingToday E (ad 8 0) (ad 9 (V 3003 0 t)) S Q X := by
  have e82 : gI S 802 (ad 8 0) = nI (Z 20 0) := by rw [h.gi 802 8 0 Nat.zero_lt_one, vR.2.1]
  have w := sl t ht
  have hn := ro_N6 (z_T_N hM (hT.2 t ht))
  refine ⟨h.o 8 0 Nat.zero_lt_one, ?_⟩
  rw [e82]
  refine c_bandFor h hM hP hT hR vR vY sl hd (Nat.le_refl _) ?_
  cases eb : z_ba Z (Z 20 0) with
  | none => exact ⟨fun _ => ⟨Or.inl rfl, k0 (fun ⟨b, e, _⟩ => by rw [eb] at e; cases e)⟩, fun x => absurd rfl x⟩
  | some b =>
    have hb := z_ba_lt hR eb
    have b4 := hR.1 b hb
    refine ⟨fun x => absurd x (z_oi_n (by omega)), fun _ => ⟨h.o 8 0 Nat.zero_lt_one, h.ij 800 0 b Nat.zero_lt_one rfl hb ⟨h.o 9 _ w.1, ?_⟩⟩⟩
    rw [h.ga 800 0 b Nat.zero_lt_one, vR.1 b hb, h.gi 901 9 _ w.1, w.2.2.1]
    have no : ∀ {P : Prop}, (¬ (z_st Z t ≤ Z 24 b ∧ t ∈ z_day Z (Z 20 0)) → P) → (¬ (∃ b, z_ba Z (Z 20 0) = some b ∧ z_st Z t ≤ Z 24 b ∧ t ∈ z_day Z (Z 20 0)) → P) := fun f x => f (fun y => x ⟨b, eb, y⟩)
    refine pk_lt (Z 24 b) (z_st Z t) (fun h1 => ⟨Or.inl rfl, k0 (fun ⟨b', e, y, _⟩ => by rw [eb] at e; cases e; omega)⟩) (fun h1 => ?_)
    refine h.ed (Z 20 0) (by omega) e82 (c_hasTouch h (by omega) w.1 (fun hm => ⟨fun x => absurd x (by decide), fun _ => ⟨Or.inr rfl, k1 b eb h1 ?_⟩⟩) (fun hm => ⟨fun _ => ⟨Or.inl rfl, k0 (fun ⟨b', e, _, y⟩ => hm ?_)⟩, fun x => absurd rfl x⟩))
    · rw [vY _ hd] at hm
      exact (v_mem_sl vJ (hP _ hd).2 ht).mp hm
    · rw [vY _ hd]
      exact (v_mem_sl vJ (hP _ hd).2 ht).mpr y
theorem c_keepBand {Q : zS → Prop} (h : RC E ad la (sd M T R) V S) (hM : z_M Z) (hP : z_P Z) (hT : z_TT Z) (hR : z_R4 Z) (vR : V_R V Z) (vY : V_Y V Z) (sl : v_SL T V Z) (hd : Z 20 0 ≤ 60)
    (k : ∀ S', RC E ad la (sd M T R) (u3 V 805 0 0 (z_on (z_ba Z (Z 20 0)))) S' → Q S') : p_X7_keepBandOfToday E (ad 8 0) S Q X := by
  have e82 : gI S 802 (ad 8 0) = nI (Z 20 0) := by rw [h.gi 802 8 0 Nat.zero_lt_one, vR.2.1]
  refine ⟨h.o 8 0 Nat.zero_lt_one, ?_⟩
  rw [e82]
  exact c_bandFor h hM hP hT hR vR vY sl hd (Nat.le_refl _) ⟨h.o 8 0 Nat.zero_lt_one, h.uI 805 8 0 _ Nat.zero_lt_one (z_on_oi _).symm k⟩
theorem c_endDay {Q : zS → Prop} (h : RC E ad la (sd M T R) V S) (hM : z_M Z) (hP : z_P Z) (hT : z_TT Z) (hR : z_R4 Z) (vR : V_R V Z) (vY : V_Y V Z) (sl : v_SL T V Z) (hd : Z 20 0 ≤ 60)
    (k : ∀ S', RC E ad la (sd M T R) (u3 (u3 (u3 (u3 V 804 0 0 (z_tb (z_ba Z (Z 20 0)) (Z 25 0))) 805 0 0 4294967295) 400 (Z 20 0) 0 0) 802 0 0 (Z 20 0 + 1)) S' → Q S') : p_X7_endDay E (ad 8 0) S Q X := by
  have e82 : gI S 802 (ad 8 0) = nI (Z 20 0) := by rw [h.gi 802 8 0 Nat.zero_lt_one, vR.2.1]
  refine ⟨h.o 8 0 Nat.zero_lt_one, ?_⟩
  rw [e82]
  refine c_bandFor h hM hP hT hR vR vY sl hd (Nat.le_refl _) ⟨h.o 8 0 Nat.zero_lt_one, ?_⟩
  rw [h.gi 804 8 0 Nat.zero_lt_one, vR.2.2.2.1]
  refine c_turnBehind rfl (fun b e => z_ba_lt hR e) ⟨h.o 8 0 Nat.zero_lt_one, h.uI 804 8 0 _ Nat.zero_lt_one rfl (fun S1 g1 => g1.uI 805 8 0 _ Nat.zero_lt_one cm1 (fun S2 g2 => ?_))⟩
  have f82 : gI S2 802 (ad 8 0) = nI (Z 20 0) := by rw [g2.gi 802 8 0 Nat.zero_lt_one, u3_f (by decide), u3_f (by decide), vR.2.1]
  refine g2.ed (Z 20 0) (by omega) f82 (g2.ex 400 (Z 20 0) (show Z 20 0 < 61 by omega) (c_clear g2 400 (Z 20 0) (show Z 20 0 < 61 by omega) (fun S3 g3 => ⟨g3.o 8 0 Nat.zero_lt_one, ?_⟩)))
  have h82 : gI S3 802 (ad 8 0) = nI (Z 20 0) := by rw [g3.gi 802 8 0 Nat.zero_lt_one, u3_f (by decide), u3_f (by decide), u3_f (by decide), vR.2.1]
  rw [h82, nI_1]
  exact g3.uI 802 8 0 _ Nat.zero_lt_one rfl k
theorem c_takeToday {Q : zS → Prop} {s : Nat} (h : RC E ad la (sd M T R) V S) (vR : V_R V Z) (hd : Z 20 0 ≤ 60) (hs : s < T) (k : ∀ V' S', RC E ad la (sd M T R) V' S' → v_dd V V' (Z 20 0) → v_day V' (Z 20 0) = (v_day V (Z 20 0)).filter (fun x => !(x == s)) → Q S') : p_X7_takeFromToday E (ad 8 0) (ad 9 s) S Q X := by
  have e82 : gI S 802 (ad 8 0) = nI (Z 20 0) := by rw [h.gi 802 8 0 Nat.zero_lt_one, vR.2.1]
  exact ⟨h.o 8 0 Nat.zero_lt_one, h.ed (Z 20 0) (by omega) e82 (c_takeAway h (by omega) hs k)⟩
/-- the days from d0 on up to d have been gone through -/
def v_dp (V V' : vV) (Z : zZ) (d0 d : Nat) : Prop := (∀ f, f ≠ 400 → f ≠ 2400 → V' f = V f) ∧ (∀ e, e < d0 ∨ d ≤ e → v_day V' e = v_day V e) ∧ ∀ e, d0 ≤ e → e < d → v_day V' e = ((z_day Z e).filter (z_fit Z)).map (V 3003 0)
theorem c_drop_L {K : Nat → Int32 → zS → Prop} {Q : Int32 → zS → Prop} (hM : z_M Z) (hP : z_P Z) (hT : z_TT Z) (vY : V_Y V Z) (sl : v_SL T V Z) (hd : Z 20 0 ≤ 60)
    (k : ∀ V' S', RC E ad la (sd M T R) V' S' → v_dp V V' Z (Z 20 0) 61 → K (ad 8 0) (nI (z_cnt Z (Z 20 0) (61 - Z 20 0))) S') :
    ∀ (w j : Nat) (V' : vV) (S : zS), RC E ad la (sd M T R) V' S → v_dp V V' Z (Z 20 0) (Z 20 0 + j) → Z 20 0 + j ≤ 61 → 61 < Z 20 0 + j + w → p_X7_dropUnfit_L7 E K Q X w (ad 8 0) (nI (z_mk Z 6)) (nI (z_cnt Z (Z 20 0) j)) (nI (Z 20 0 + j)) S
  | 0, j, V', S, h, hp, h1, h2 => by omega
  | w + 1, j, V', S, h, hp, h1, h2 => by
    refine pk_lt 60 (Z 20 0 + j) (fun h3 => ?_) (fun h3 => ⟨h.o 8 0 Nat.zero_lt_one, h.ed (Z 20 0 + j) (by omega) rfl ?_⟩)
    · have e : Z 20 0 + j = 61 := by omega
      have e2 : j = 61 - Z 20 0 := by omega
      rw [e] at hp
      rw [e2]
      exact k V' S h hp
    · have e3 : V' 3003 = V 3003 := hp.1 3003 (by decide) (by decide)
      have sl' : v_SL T V' Z := fun t ht => by
        rw [e3]
        exact ⟨(sl t ht).1, (sl t ht).2.cg (fun f hf => by
          have : ∀ f, f ∈ [900, 901, 902, 903, 905, 906, 907, 908, 2906] → f ≠ 400 ∧ f ≠ 2400 := by decide
          rw [hp.1 f (this f hf).1 (this f hf).2]) (fun _ _ => rfl)⟩
      have hd9 : Z 20 0 + j ≤ 60 := by omega
      refine c_dropDay (l0 := z_day Z (Z 20 0 + j)) h (by omega) hM hT (hP _ hd9).2 sl' ?_ (fun V2 S2 g ga ge => ?_)
      · rw [hp.2.1 _ (Or.inr (Nat.le_refl _)), e3]
        exact vY _ hd9
      · rw [nI_add, nI_1]
        refine c_drop_L hM hP hT vY sl hd k w (j + 1) V2 S2 g ⟨fun f f1 f2 => (ga.1 f f1 f2).trans (hp.1 f f1 f2), fun e he => ?_, fun e he1 he2 => ?_⟩ (by omega) (by omega)
        · rw [ga.day (by omega)]
          exact hp.2.1 e (by omega)
        · by_cases x : e = Z 20 0 + j
          · subst x
            rw [ge, e3]
          · rw [ga.day x]
            exact hp.2.2 e he1 (by omega)
theorem c_drop {Q : Int32 → zS → Prop} (h : RC E ad la (sd M T R) V S) (hM : z_M Z) (hP : z_P Z) (hT : z_TT Z) (vR : V_R V Z) (vY : V_Y V Z) (sl : v_SL T V Z) (hd : Z 20 0 ≤ 60)
    (k : ∀ V' V2 S', RC E ad la (sd M T R) V2 S' → v_dp V V' Z (Z 20 0) 61 → (∀ f, f ≠ 803 → V2 f = V' f) → nI (V2 803 0 0) = nI (V 803 0 0) + nI (z_cnt Z (Z 20 0) (61 - Z 20 0)) → Q (nI (z_cnt Z (Z 20 0) (61 - Z 20 0))) S') : p_X7_dropUnfit E (ad 8 0) (nI (z_mk Z 6)) S Q X := by
  refine ⟨h.o 8 0 Nat.zero_lt_one, 62, ?_⟩
  rw [h.gi 802 8 0 Nat.zero_lt_one, vR.2.1]
  refine c_drop_L hM hP hT vY sl hd (fun V' S' g gp => ⟨g.o 8 0 Nat.zero_lt_one, ?_⟩) 62 0 V S h ⟨fun _ _ _ => rfl, fun _ _ => rfl, fun e a b => by omega⟩ (by omega) (by omega)
  have e3 : V' 803 = V 803 := gp.1 803 (by decide) (by decide)
  rw [g.gi 803 8 0 Nat.zero_lt_one, e3, nI_add]
  refine g.uI 803 8 0 _ Nat.zero_lt_one rfl (fun S2 g2 => k V' _ S2 g2 gp (fun f hf => u3_f hf) ?_)
  rw [u3_s, nI_add]
end ROT
