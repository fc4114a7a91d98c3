/-! the class's ringing -/
/-- a ringing of the touch t is on -/
def G_on (V : vV) (Z : zZ) (t n : Nat) : Prop := V_G V Z ∧ Z 27 0 = 1 ∧ Z 28 0 = t ∧ t < Z 10 0 ∧ z_st Z t = n ∧ Z 29 0 < 2 ^ n
theorem z_pp_hi {Z : zZ} {n b : Nat} (h : Z 29 0 < 2 ^ n) (hb : n ≤ b) : z_pp Z b = false := by
  unfold z_pp
  have : 2 ^ n ≤ 2 ^ b := Nat.pow_le_pow_right (by decide) hb
  rw [Nat.div_eq_of_lt (by omega)]
  rfl
theorem z_pow6 {n : Nat} (hN : ro_N n) : 2 ^ n ≤ 64 := by
  rcases hN with rfl | rfl | rfl <;> decide
section RNG
variable {E : zE} {ad la : Nat → Nat → Nat} {M T R : Nat} {V : vV} {Z : zZ} {S : zS} {X : String → zS → Prop}
theorem RC.r7 (h : RC E ad la (sd M T R) V S) (hR : 0 < R) : gR S 703 (ad 7 0) = some (ad 100 0) := (h.1.2.2.2.2.2.2.1 hR).2
theorem c_byPeople {Q : Int32 → zS → Prop} {b : Nat} (h : RC E ad la (sd M T R) V S) (hR : 0 < R) (e4 : V 704 0 0 = Z 29 0) (hp : Z 29 0 < 64) (hb : b < 31) (k : Q (zb (z_pp Z b)) S) : p_X6_isByPeople E (ad 7 0) (nI b) S Q X := by
  refine ⟨h.o 7 0 hR, ?_⟩
  rw [h.gi 704 7 0 hR, e4, ri_bit (by omega) hb, ri_is1 (Nat.mod_lt _ (by decide))]
  unfold z_pp at k
  refine ⟨fun h1 => ⟨Or.inl rfl, ?_⟩, fun h1 => ⟨Or.inr rfl, ?_⟩⟩
  · rw [show (Z 29 0 / 2 ^ b % 2 == 1) = false by simpa using h1] at k
    exact k
  · rw [show (Z 29 0 / 2 ^ b % 2 == 1) = true by simpa using h1] at k
    exact k
theorem c_dueAt {Q : Int32 → zS → Prop} {t n r p : Nat} (h : RC E ad la (sd M T R) V S) (hR : 0 < R) (g : G_on V Z t n) (sl : v_SL T V Z) (hr : r < 2 ^ 31) (k : Q (nI (z_du Z r p)) S) : p_X6_dueAt E (ad 7 0) (nI r) (nI p) S Q X := by
  obtain ⟨vG, on, et, ht, en, hp⟩ := g
  have v := vG.2 on
  have w := sl t ht
  rw [et] at v
  refine ⟨h.o 7 0 hR, h.vr 700 hR (fun hm => ?_)⟩
  rw [v.1, h.gi 705 7 0 hR, h.gi 702 7 0 hR, h.gi 901 9 _ w.1, v.2.2.2.2, v.2.2.1, w.2.2.1, show nI r / 2 = nI (r / 2) from pk_div hr (by decide) (by decide), pk_mul, nI_add, nI_add, pk_mul, nI_add]
  unfold z_du at k
  rw [et] at k
  exact k
theorem c_awaits {Q : Int32 → zS → Prop} {t n b : Nat} (h : RC E ad la (sd M T R) V S) (hR : 0 < R) (g : G_on V Z t n) (hM : z_M Z) (hT : z_TT Z) (sl : v_SL T V Z) (vB : V_B V Z) (h34 : Z 34 b ≤ 240) (hb : b < 6) (k : Q (zb (z_pp Z b && decide (Z 34 b < z_L Z t))) S) : p_X6_awaitsPull E (ad 7 0) (nI b) S Q X := by
  obtain ⟨vG, on, et, ht, en, hp⟩ := g
  have v := vG.2 on
  have w := sl t ht
  rw [et] at v
  have hN := z_T_N hM (hT.2 t ht)
  rw [en] at hN
  have h64 := z_pow6 hN
  have hL := z_L_bd hM (hT.2 t ht)
  refine ⟨h.o 7 0 hR, c_byPeople h hR v.2.2.2.1 (by omega) (by omega) ?_⟩
  refine zb_c (fun e => ⟨Or.inl rfl, ?_⟩) (fun e => ⟨h.o 7 0 hR, _, h.r7 hR, h.bel b Nat.zero_lt_one hb hb rfl rfl (h.vr 700 hR (fun hm => ?_))⟩)
  · rw [e] at k
    exact k
  · rw [v.1, h.gi 902 9 _ w.1, h.gi 204 2 b hb, w.2.2.2.1, (vB b hb).2.2.2.2.1]
    rw [e] at k
    refine pk_le (z_L Z t) (Z 34 b) (fun h1 => ⟨Or.inl rfl, ?_⟩) (fun h1 => ⟨Or.inr rfl, ?_⟩)
    · rw [decide_eq_false (by omega)] at k
      exact k
    · rw [decide_eq_true h1] at k
      exact k
theorem c_nextDue {Q : Int32 → zS → Prop} {t n b p0 : Nat} (h : RC E ad la (sd M T R) V S) (hR : 0 < R) (g : G_on V Z t n) (hM : z_M Z) (hT : z_TT Z) (sl : v_SL T V Z) (vB : V_B V Z) (h34 : Z 34 b < z_L Z t) (hb : b < 6) (hp0 : p0 < n) (h4 : ro_bl (z_f Z t (Z 34 b)) p0 = b) (h5 : ∀ q, q < p0 → ro_bl (z_f Z t (Z 34 b)) q ≠ b) (k : Q (nI (z_du Z (Z 34 b) p0)) S) : p_X6_nextDue E (ad 7 0) (nI b) S Q X := by
  have g0 := g
  obtain ⟨vG, on, et, ht, en, hp⟩ := g
  have v := vG.2 on
  have w := sl t ht
  rw [et] at v
  have hN := z_T_N hM (hT.2 t ht)
  rw [en] at hN
  have hn6 := ro_N6 hN
  have hL := z_L_bd hM (hT.2 t ht)
  have fl := z_f_lt hM (hT.2 t ht) h34
  refine ⟨h.o 7 0 hR, _, h.r7 hR, h.bel b Nat.zero_lt_one hb hb rfl rfl (h.vr 700 hR (fun hm => ?_))⟩
  rw [v.1, h.gi 204 2 b hb, (vB b hb).2.2.2.2.1]
  refine h.ij 908 _ (Z 34 b) w.1 rfl (by show _ < 240; omega) (h.vr 700 hR (fun hm => ?_))
  rw [v.1, h.gi 901 9 _ w.1, w.2.2.1, en, h.ga 908 _ _ w.1, w.2.2.2.2.2.2.1 _ h34]
  exact w8_placeOf hn6.1 (by omega) hp0 h4 h5 ⟨h.o 7 0 hR, c_dueAt h hR g0 sl (by omega) k⟩
theorem c_allDone {Q : Int32 → zS → Prop} {s L dn : Nat} (h : RC E ad la (sd M T R) V S) (hR : 0 < R) (e0 : V 700 0 0 = s) (hs : s < T) (e1 : V 701 0 0 = dn) (e2 : V 902 s 0 = L) (hL : L ≤ 240) (hd : dn ≤ 240) (k : Q (zb (!decide (dn < L))) S) : p_X6_areAllRowsDone E (ad 7 0) S Q X := by
  refine ⟨h.o 7 0 hR, h.vr 700 hR (fun hm => ?_)⟩
  rw [e0, h.gi 701 7 0 hR, h.gi 902 9 _ hs, e1, e2]
  refine pk_lt dn L (fun h1 => ⟨Or.inl rfl, ?_⟩) (fun h1 => ⟨Or.inr rfl, ?_⟩)
  · rw [decide_eq_true h1] at k
    exact k
  · rw [decide_eq_false (by omega)] at k
    exact k
theorem c_ready_L {K0 K1 : zS → Prop} {Q : Int32 → zS → Prop} {t n : Nat} (h : RC E ad la (sd M T R) V S) (hR : 0 < R) (g : G_on V Z t n) (hM : z_M Z) (hT : z_TT Z) (sl : v_SL T V Z) (vB : V_B V Z) (h34 : ∀ b, b < 6 → Z 34 b ≤ 240) (h31 : Z 31 0 < 240) (k1 : (∀ b, b < n → z_pp Z b = false ∨ Z 31 0 < Z 34 b) → K1 S) (k0 : (∃ b, b < n ∧ z_pp Z b = true ∧ ¬ Z 31 0 < Z 34 b) → K0 S) :
    ∀ (w p : Nat), p ≤ n → n < p + w → (∀ b, b < p → z_pp Z b = false ∨ Z 31 0 < Z 34 b) → p_X6_isNextRowReady_L11 E K0 K1 Q X w (ad 7 0) (nI p) S
  | 0, p, h1, h2, h3 => by omega
  | w + 1, p, h1, h2, h3 => by
    have g0 := g
    obtain ⟨vG, on, et, ht, en, hp⟩ := g
    have v := vG.2 on
    have ww := sl t ht
    rw [et] at v
    have hN := z_T_N hM (hT.2 t ht)
    rw [en] at hN
    have hn6 := ro_N6 hN
    have h64 := z_pow6 hN
    refine ⟨h.o 7 0 hR, h.vr 700 hR (fun hm => ?_)⟩
    rw [v.1, h.gi 901 9 _ ww.1, ww.2.2.1, en]
    refine pk_le n p (fun h4 => k1 (fun b hb => h3 b (by omega))) (fun h4 => c_byPeople h hR v.2.2.2.1 (by omega) (by omega) ?_)
    have next : (z_pp Z p = false ∨ Z 31 0 < Z 34 p) → p_X6_isNextRowReady_L11 E K0 K1 Q X w (ad 7 0) (nI p + 1) S := fun e => by
      rw [nI_1]
      refine c_ready_L h hR g0 hM hT sl vB h34 h31 k1 k0 w (p + 1) (by omega) (by omega) (fun b hb => ?_)
      by_cases x : b = p
      · subst x
        exact e
      · exact h3 b (by omega)
    have b6 : p < 6 := by omega
    refine zb_c (fun e => next (Or.inl e)) (fun e => ⟨h.o 7 0 hR, _, h.r7 hR, h.bel p Nat.zero_lt_one b6 b6 rfl rfl ?_⟩)
    rw [h.gi 701 7 0 hR, v.2.1, h.gi 204 2 p b6, (vB p b6).2.2.2.2.1]
    have := h34 p b6
    exact pk_lt (Z 31 0) (Z 34 p) (fun h5 => next (Or.inr h5)) (fun h5 => k0 ⟨p, h4, e, by omega⟩)
theorem z_rd_iff {Z : zZ} {n L : Nat} (hn : n ≤ 6) (hp : Z 29 0 < 2 ^ n) : z_rd Z L = true ↔ Z 31 0 < L ∧ ∀ b, b < n → z_pp Z b = false ∨ Z 31 0 < Z 34 b := by
  unfold z_rd
  rw [Bool.and_eq_true, decide_eq_true_iff, List.all_eq_true]
  refine and_congr Iff.rfl ⟨fun h b hb => ?_, fun h b hb => ?_⟩
  · have := h b (List.mem_range.mpr (by omega))
    rw [Bool.or_eq_true, decide_eq_true_iff] at this
    rcases this with e | e
    · left
      simpa using e
    · exact Or.inr e
  · rw [Bool.or_eq_true, decide_eq_true_iff]
    by_cases x : b < n
    · rcases h b x with e | e
      · left
        rw [e]
        rfl
      · exact Or.inr e
    · left
      rw [z_pp_hi hp (by omega)]
      rfl
theorem c_ready {Q : Int32 → zS → Prop} {t n : Nat} (h : RC E ad la (sd M T R) V S) (hR : 0 < R) (g : G_on V Z t n) (hM : z_M Z) (hT : z_TT Z) (sl : v_SL T V Z) (vB : V_B V Z) (h34 : ∀ b, b < 6 → Z 34 b ≤ 240) (h31 : Z 31 0 < 240) (k : Q (zb (z_rd Z (z_L Z t))) S) : p_X6_isNextRowReady E (ad 7 0) S Q X := by
  have g0 := g
  obtain ⟨vG, on, et, ht, en, hp⟩ := g
  have v := vG.2 on
  have ww := sl t ht
  rw [et] at v
  have hN := z_T_N hM (hT.2 t ht)
  rw [en] at hN
  have hn6 := ro_N6 hN
  have hL := z_L_bd hM (hT.2 t ht)
  have kt : z_rd Z (z_L Z t) = true → Q 1 S := fun e => by rw [e] at k; exact k
  have kf : ¬ z_rd Z (z_L Z t) = true → Q 0 S := fun e => by
    rw [show z_rd Z (z_L Z t) = false by simpa using e] at k
    exact k
  rw [z_rd_iff hn6.1 hp] at kt kf
  refine ⟨h.o 7 0 hR, c_allDone h hR v.1 ww.1 v.2.1 ww.2.2.2.1 hL.2 (by omega) ?_⟩
  by_cases e : Z 31 0 < z_L Z t
  · rw [decide_eq_true e]
    refine ⟨fun _ => ⟨7, ?_⟩, fun x => absurd rfl x⟩
    exact c_ready_L (K0 := fun S => ((0 : Int32) = 0 ∨ (0 : Int32) = 1) ∧ Q 0 S) (K1 := fun S => ((1 : Int32) = 0 ∨ (1 : Int32) = 1) ∧ Q 1 S) h hR g0 hM hT sl vB h34 h31 (fun x => ⟨Or.inr rfl, kt ⟨e, x⟩⟩) (fun ⟨b, x1, x2, x3⟩ => ⟨Or.inl rfl, kf (fun y => by
      rcases y.2 b x1 with z | z
      · rw [x2] at z
        cases z
      · exact x3 z)⟩) 7 0 (by omega) (by omega) (fun b hb => absurd hb (Nat.not_lt_zero b))
  · rw [decide_eq_false e]
    exact ⟨fun x => absurd x (by decide), fun _ => ⟨Or.inl rfl, kf (fun y => e y.1)⟩⟩
/-- after the blows at the places ahead of p -/
def v_bl (V V' : vV) (Z : zZ) (row p : Nat) : Prop := (∀ f, f ≠ 205 → V' f = V f) ∧ ∀ b, b < 6 → V' 205 b 0 = z_sk Z row p 17 b ∧ V' 205 b 1 = z_sk Z row p 17 (6 + b)
theorem z_bw_17 (Z : zZ) (b r c : Nat) (hb : b < 6) (hc : c < 6) : z_bw Z b r 17 c = (if c = b then Z 17 b + (1 + r % 2) else Z 17 c) ∧ z_bw Z b r 17 (6 + c) = (if c = b then Z 17 (6 + b) + 1 else Z 17 (6 + c)) := by
  unfold z_bw
  constructor
  · rw [up_i (show c ≠ 6 + b by omega)]
    by_cases e : c = b
    · rw [e, up_s, if_pos rfl]
    · rw [up_i e, if_neg e]
  · by_cases e : c = b
    · rw [e, up_s, if_pos rfl]
    · rw [up_i (show 6 + c ≠ 6 + b by omega), up_i (show 6 + c ≠ b by omega), if_neg e]
theorem c_row_L {K : Nat → Int32 → zS → Prop} {Q : Int32 → zS → Prop} {t n row : Nat} (g : G_on V Z t n) (hR : 0 < R) (hM : z_M Z) (hT : z_TT Z) (sl : v_SL T V Z) (vB : V_B V Z) (h31 : Z 31 0 < z_L Z t) (er : row = z_f Z t (Z 31 0)) (hat : ∀ p, p < n → z_at Z row p < 2 ^ 31)
    (k : ∀ V' S', RC E ad la (sd M T R) V' S' → v_bl V V' Z row n → K (ad 7 0) (zb (z_wg Z row n)) S') :
    ∀ (w p : Nat) (V' : vV) (S : zS) (l2 : Int32), RC E ad la (sd M T R) V' S → v_bl V V' Z row p → p ≤ n → n < p + w → (p = 0 → l2 = -1) → (0 < p → l2 = nI (z_at Z row (p - 1))) → p_X6_doNextRow_L6 E K Q X w (ad 7 0) (zb (z_wg Z row p)) l2 (nI p) S
  | 0, p, V', S, l2, h, hl, h1, h2, e0, e1 => by omega
  | w + 1, p, V', S, l2, h, hl, h1, h2, e0, e1 => by
    have g0 := g
    obtain ⟨vG, on, et, ht, en, hp⟩ := g
    have v := vG.2 on
    have ww := sl t ht
    rw [et] at v
    have hN := z_T_N hM (hT.2 t ht)
    have hV := z_f_V hM (hT.2 t ht) h31
    rw [en] at hN hV
    have hn6 := ro_N6 hN
    have h64 := z_pow6 hN
    have hL := z_L_bd hM (hT.2 t ht)
    have fl := z_f_lt hM (hT.2 t ht) h31
    have e700 := hl.1 700 (by decide)
    have e701 := hl.1 701 (by decide)
    have e704 := hl.1 704 (by decide)
    refine ⟨h.o 7 0 hR, h.vr 700 hR (fun hm => ?_)⟩
    rw [e700, v.1, h.gi 901 9 _ ww.1, hl.1 901 (by decide), ww.2.2.1, en]
    refine pk_le n p (fun h4 => ?_) (fun h4 => ⟨h.o 7 0 hR, h.vr 700 hR (fun hm => ?_)⟩)
    · have : p = n := by omega
      subst this
      exact k V' S h hl
    · rw [e700, v.1, h.gi 701 7 0 hR, e701, v.2.1]
      refine h.ij 908 _ (Z 31 0) ww.1 rfl (by show _ < 240; omega) ?_
      rw [h.ga 908 _ _ ww.1, hl.1 908 (by decide), ww.2.2.2.2.2.2.1 _ h31, ← er]
      rw [← er] at fl hV
      have hb : ro_bl row p < n := hV.2.1 p h4
      refine w8_bellIn (by omega) (by omega) ⟨h.o 7 0 hR, c_byPeople h hR (by rw [e704]; exact v.2.2.2.1) (by omega) (by omega) ?_⟩
      have b6 : ro_bl row p < 6 := by omega
      have hatp := hat p h4
      have ewg : z_wg Z row (p + 1) = (z_wg Z row p || (decide (0 < p) && decide (z_at Z row p ≤ z_at Z row (p - 1)))) := rfl
      have fin : ∀ V2 S2, RC E ad la (sd M T R) V2 S2 → v_bl V V2 Z row (p + 1) → ((l2 < nI (z_at Z row p)) → p_X6_doNextRow_L6 E K Q X w (ad 7 0) (zb (z_wg Z row p) ||| 0) (nI (z_at Z row p)) (nI p + 1) S2) ∧ ((¬ l2 < nI (z_at Z row p)) → p_X6_doNextRow_L6 E K Q X w (ad 7 0) (zb (z_wg Z row p) ||| 1) (nI (z_at Z row p)) (nI p + 1) S2) := by
        intro V2 S2 g2 hl2
        have ih := c_row_L (Q := Q) g0 hR hM hT sl vB h31 er hat k w (p + 1) V2 S2 (nI (z_at Z row p)) g2 hl2 (by omega) (by omega) (fun x => absurd x (Nat.succ_ne_zero p)) (fun _ => rfl)
        rw [ewg] at ih
        rw [nI_1]
        by_cases e : p = 0
        · subst e
          rw [e0 rfl]
          have ll : (-1 : Int32) < nI (z_at Z row 0) := by
            rw [Int32.lt_iff_toInt_lt, nI_toInt hatp]
            have : (-1 : Int32).toInt = -1 := by decide
            omega
          refine ⟨fun _ => ?_, fun x => absurd ll x⟩
          rw [show zb (z_wg Z row 0) ||| 0 = zb (z_wg Z row 0 || false) from zor2 _ false]
          exact ih
        · have hat0 := hat (p - 1) (by omega)
          rw [e1 (by omega)]
          rw [decide_eq_true (show 0 < p by omega), Bool.true_and] at ih
          refine pk_lt (z_at Z row (p - 1)) (z_at Z row p) (fun h5 => ?_) (fun h5 => ?_)
          · rw [decide_eq_false (show ¬ z_at Z row p ≤ z_at Z row (p - 1) by omega)] at ih
            rw [show zb (z_wg Z row p) ||| 0 = zb (z_wg Z row p || false) from zor2 _ false]
            exact ih
          · rw [decide_eq_true h5] at ih
            rw [show zb (z_wg Z row p) ||| 1 = zb (z_wg Z row p || true) from zor2 _ true]
            exact ih
      have esk : z_sk Z row (p + 1) = if z_pp Z (ro_bl row p) = true then z_sk Z row p else z_bw (z_sk Z row p) (ro_bl row p) (Z 31 0) := rfl
      refine zb_c (fun e => ⟨h.o 7 0 hR, _, h.r7 hR, h.bel _ Nat.zero_lt_one b6 b6 rfl rfl ?_⟩) (fun e => ⟨h.o 7 0 hR, _, h.r7 hR, h.bel _ Nat.zero_lt_one b6 b6 rfl rfl ?_⟩)
      · rw [h.gi 701 7 0 hR, e701, v.2.1]
        refine c_strike h b6 (by omega) (fun S2 g2 => ⟨g2.o 7 0 hR, ?_⟩)
        have f701 : gI S2 701 (ad 7 0) = nI (Z 31 0) := by rw [g2.gi 701 7 0 hR, u3_f (by decide), u3_f (by decide), e701, v.2.1]
        rw [f701]
        have ag : ∀ f, f ≠ 205 → u3 (u3 V' 205 (ro_bl row p) 0 (V' 205 (ro_bl row p) 0 + (1 + Z 31 0 % 2))) 205 (ro_bl row p) 1 (V' 205 (ro_bl row p) 1 + 1) f = V f := fun f hf => by
          rw [u3_f hf, u3_f hf]
          exact hl.1 f hf
        have sl2 : v_SL T (u3 (u3 V' 205 (ro_bl row p) 0 (V' 205 (ro_bl row p) 0 + (1 + Z 31 0 % 2))) 205 (ro_bl row p) 1 (V' 205 (ro_bl row p) 1 + 1)) Z := fun u hu => by
          rw [ag 3003 (by decide)]
          exact ⟨(sl u hu).1, (sl u hu).2.cg (fun f hf => by
            have : ∀ f, f ∈ [900, 901, 902, 903, 905, 906, 907, 908, 2906] → f ≠ 205 := by decide
            rw [ag f (this f hf)]) (fun _ _ => rfl)⟩
        have g9 : G_on (u3 (u3 V' 205 (ro_bl row p) 0 (V' 205 (ro_bl row p) 0 + (1 + Z 31 0 % 2))) 205 (ro_bl row p) 1 (V' 205 (ro_bl row p) 1 + 1)) Z t n := ⟨vG.cg (fun f hf => by
          have : ∀ f, f ∈ [1009, 700, 701, 702, 704, 705, 3003] → f ≠ 205 := by decide
          rw [ag f (this f hf)]) (fun _ _ => rfl), on, et, ht, en, hp⟩
        have ea : z_at Z row p = z_du Z (Z 31 0) p := by
          unfold z_at
          rw [if_neg (by rw [e]; decide)]
        refine c_dueAt g2 hR g9 sl2 (by omega) ?_
        rw [← ea]
        refine fin _ S2 g2 ⟨ag, fun c hc => ?_⟩
        rw [esk, if_neg (by rw [e]; decide)]
        have zz := z_bw_17 (z_sk Z row p) (ro_bl row p) (Z 31 0) c b6 hc
        rw [zz.1, zz.2]
        by_cases x : c = ro_bl row p
        · rw [if_pos x, if_pos x, x, u3_s, u3_j (show 0 ≠ 1 by decide), u3_s, (hl.2 _ b6).1, (hl.2 _ b6).2]
          exact ⟨rfl, rfl⟩
        · rw [if_neg x, if_neg x, u3_i x, u3_i x]
          exact hl.2 c hc
      · rw [h.gi 701 7 0 hR, e701, v.2.1]
        refine c_pullTime h b6 (by omega) ?_
        have ea : z_at Z row p = Z 35 (240 * ro_bl row p + Z 31 0) := by
          unfold z_at
          rw [if_pos e]
        rw [hl.1 207 (by decide), (vB _ b6).2.2.2.2.2.2.2.2.2 _ (show Z 31 0 < 240 by omega), ← ea]
        refine fin V' S h ⟨hl.1, fun c hc => ?_⟩
        rw [esk, if_pos e]
        exact hl.2 c hc
theorem c_row {Q : Int32 → zS → Prop} {t n row : Nat} (h : RC E ad la (sd M T R) V S) (g : G_on V Z t n) (hR : 0 < R) (hM : z_M Z) (hT : z_TT Z) (sl : v_SL T V Z) (vB : V_B V Z) (h31 : Z 31 0 < z_L Z t) (er : row = z_f Z t (Z 31 0)) (hat : ∀ p, p < n → z_at Z row p < 2 ^ 31)
    (k : ∀ V' S', RC E ad la (sd M T R) V' S' → (∀ f, f ≠ 205 → f ≠ 701 → V' f = V f) → V' 701 0 0 = Z 31 0 + 1 → (∀ b, b < 6 → V' 205 b 0 = z_sk Z row n 17 b ∧ V' 205 b 1 = z_sk Z row n 17 (6 + b)) → Q (zb (z_wg Z row n)) S') : p_X6_doNextRow E (ad 7 0) S Q X := by
  have hN := z_T_N hM (hT.2 t g.2.2.2.1)
  rw [g.2.2.2.2.1] at hN
  have hn6 := ro_N6 hN
  refine ⟨7, c_row_L g hR hM hT sl vB h31 er hat (fun V' S' g2 hl => ⟨g2.o 7 0 hR, ?_⟩) 7 0 V S (-1) h ⟨fun _ _ => rfl, fun b hb => ⟨(vB b hb).2.2.2.2.2.1, (vB b hb).2.2.2.2.2.2.1⟩⟩ (by omega) (by omega) (fun _ => rfl) (fun x => absurd x (Nat.lt_irrefl 0))⟩
  have e1 : gI S' 701 (ad 7 0) = nI (Z 31 0) := by rw [g2.gi 701 7 0 hR, hl.1 701 (by decide), (g.1.2 g.2.1).2.1]
  rw [e1, nI_1]
  refine g2.uI 701 7 0 _ hR rfl (fun S3 g3 => ⟨zb_01 _, k _ S3 g3 (fun f f1 f2 => by rw [u3_f f2]; exact hl.1 f f1) (u3_s _ _ _ _ _) (fun b hb => ?_)⟩)
  rw [u3_f (by decide)]
  exact hl.2 b hb
end RNG
