/-! the loops of rows, the class's and the reference's -/
def zF (E : zE) (m : Nat) (V' : vV) (Z : zZ) : Prop := ∀ (Q : Int32 → zS → Prop) (X : String → zS → Prop) (K : Nat → zS → Prop) (ma : Nat → Nat) (Zs : zZ) (Sm : zS), z_eq Z Zs → RM ma Zs m Sm → (Z 27 0 = 1 → z_W (z_st Zs (Zs 28 0)) Zs (z_cs Zs (Zs 28 0))) →
  (∀ Z' S', RM ma Z' m S' → RV V' Z' → IZ Z' → V' 701 0 0 = Z' 31 0 → Z' 31 0 ≤ 240 → (∀ f, f ∈ [0, 3, 10] → Z' f = Zs f) → K m S') → ∀ w, 240 < Z 31 0 + w → p_X11_goesOn_L8 E K Q X w m Sm
theorem z_eq_rd {Z Z' : zZ} (h : z_eq Z Z') (L : Nat) : z_rd Z' L = z_rd Z L := by
  unfold z_rd
  rw [z_eq_pp h, h.1 31 (by decide), h.1 34 (by decide)]
theorem z_at_lt {Z : zZ} {t n row : Nat} (hM : z_M Z) (hT : z_TT Z) (f4 : I_g Z) (f5 : I_n Z) (on : Z 27 0 = 1) (et : Z 28 0 = t) (en : z_st Z t = n) : ∀ p, p < n → z_at Z row p < 2 ^ 31 := by
  obtain ⟨g1, g2, g3, g4, g5, g6, g7⟩ := f4.2 on
  rw [et] at g1 g5
  have hn6 := ro_N6 (z_T_N hM (hT.2 t g1))
  have hL := z_L_bd hM (hT.2 t g1)
  rw [en] at hn6
  intro p hp
  unfold z_at
  split
  · have := f5.1 (240 * ro_bl row p + Z 31 0)
    omega
  · unfold z_du
    rw [et, en]
    have a : n * Z 31 0 ≤ 6 * 239 := Nat.mul_le_mul hn6.1 (by omega)
    have b : Z 30 0 * (n * Z 31 0 + p + Z 31 0 / 2) ≤ 1000 * 1600 := Nat.mul_le_mul g4.2 (by omega)
    omega
section LPS
variable {E : zE} {ad la : Nat → Nat → Nat} {M T R : Nat} {V : vV} {Z : zZ} {S : zS} {X : String → zS → Prop}
theorem zF_stop {m : Nat} (hV : RV V Z) (hI : IZ Z) (e1 : V 701 0 0 = Z 31 0) (e2 : Z 31 0 ≤ 240) (hr : Z 27 0 = 1 → z_rd Z (z_L Z (Z 28 0)) = false) : zF E m V Z := by
  intro Q X K ma Zs Sm he h hW k w hw
  have hI2 := hI.eq he
  have e27 := he.2.2.2.1.1
  have e28 := he.1 28 (by decide)
  have e31 := he.1 31 (by decide)
  have fin : K m Sm := k Zs Sm h (hV.eq he) hI2 (by rw [e31]; exact e1) (by rw [e31]; exact e2) (fun _ _ => rfl)
  obtain ⟨⟨hM, hT, hB, hP, hR4, h20⟩, f1, f2, f3, f4, f5⟩ := hI2
  match w, hw with
  | 0, hw => omega
  | w + 1, hw =>
    have i27 : gI Sm 1127 m = nI (Zs 27 0) := h.i 27
    refine ⟨h.1, ?_⟩
    rw [i27, ri_0 f4.1]
    refine ⟨fun _ => fin, fun h0 => ?_⟩
    have on : Zs 27 0 = 1 := by have := f4.1; omega
    obtain ⟨g1, g2, g3, g4, g5, g6, g7⟩ := f4.2 on
    have hN := z_T_N hM (hT.2 _ g1)
    have h64 := z_pow6 hN
    have hL := z_L_bd hM (hT.2 _ g1)
    have on0 : Z 27 0 = 1 := by rw [← e27]; exact on
    have hw1 := hW on0
    refine m_isReady h (L := z_L Zs (Zs 28 0)) hw1.1 (by omega) (by omega) (by omega) (fun b hb => by have := f5.2.2.1 b hb; omega) ?_
    rw [z_eq_rd he, z_C_L he.C, e28, hr on0]
    exact ⟨fun _ => fin, fun x => absurd rfl x⟩
theorem zF_step {m t n row : Nat} {V' : vV} {W : zZ} (hI : IZ Z) (on : Z 27 0 = 1) (et : Z 28 0 = t) (en : z_st Z t = n) (er : row = z_f Z t (Z 31 0)) (hr : z_rd Z (z_L Z t) = true) (hW : z_rowR Z row n (z_L Z t) W) (k : zF E m V' W) : zF E m V' Z := by
  intro Q X K ma Zs Sm he h hWr kk w hw
  have hI2 := hI.eq he
  have hIZ := hI
  have e27 := he.2.2.2.1.1
  have e28 := he.1 28 (by decide)
  have e31 := he.1 31 (by decide)
  obtain ⟨⟨hM, hT, hB, hP, hR4, h20⟩, f1, f2, f3, f4, f5⟩ := hI2
  obtain ⟨⟨hM0, hT0, _, hP0, _, h200⟩, _, f20, _, f40, _⟩ := hIZ
  have ons : Zs 27 0 = 1 := by rw [e27]; exact on
  have ets : Zs 28 0 = t := by rw [e28]; exact et
  have ens : z_st Zs t = n := by rw [z_C_st he.C]; exact en
  have eLs : z_L Zs t = z_L Z t := z_C_L he.C t
  obtain ⟨g1, g2, g3, g4, g5, g6, g7⟩ := f4.2 ons
  rw [ets] at g1 g2 g3 g5
  rw [ens] at g3
  have hN := z_T_N hM (hT.2 _ g1)
  rw [ens] at hN
  have h64 := z_pow6 hN
  have hn6 := ro_N6 hN
  have hL := z_L_bd hM (hT.2 _ g1)
  have w31 := z_row_31 hW
  match w, hw with
  | 0, hw =>
    have := f40.2 on
    rw [et] at this
    have g5' := this.2.2.2.2.1
    rw [← eLs] at g5'
    omega
  | w + 1, hw =>
    have i27 : gI Sm 1127 m = nI (Zs 27 0) := h.i 27
    have hw1 := hWr on
    rw [ets, ens] at hw1
    refine ⟨h.1, ?_⟩
    rw [i27, ri_0 f4.1]
    refine ⟨fun x => by omega, fun _ => m_isReady h (L := z_L Zs t) hw1.1 (by omega) (by omega) (by omega) (fun b hb => by have := f5.2.2.1 b hb; omega) ?_⟩
    rw [eLs, z_eq_rd he, hr]
    refine ⟨fun x => absurd x (by decide), fun _ => ⟨h.1, ?_⟩⟩
    have ers : row = z_f Zs t (Zs 31 0) := by rw [e31, z_C_f he.C]; exact er
    have hsnd : z_snd Zs t = true := by
      have := f1 _ (Nat.le_refl _) h20 t g2
      unfold z_fit at this
      rw [Bool.and_eq_true] at this
      exact this.2
    refine m_doesRow h hM hT hB hP h20 ets g1 ens g5 hsnd g2 (by omega) hw1 ers (z_at_lt hM hT f4 f5 ons ets ens) (fun Z' S' h' hr' hW' => ?_)
    rw [eLs] at hr'
    have eqW := z_eq_row hM0 hT0 hP0 h200 f20 hn6.1 he hW hr'
    have c0 : ∀ f, f ∈ [0, 3, 10] → Z' f = Zs f := fun f hf => by
      obtain ⟨Z3, lo, r⟩ := hr'
      have k3 : Z3 f = Zs f := (z_lo_f lo f (fun e => by
        simp only [List.mem_cons, List.not_mem_nil, or_false] at hf e
        omega)).trans (z_2_f (fun e => by
        simp only [List.mem_cons, List.not_mem_nil, or_false] at hf e
        omega))
      rcases r with ⟨_, a, _⟩ | ⟨_, _, a, _⟩ | ⟨_, _, a⟩
      · rw [a f (fun e => by
          simp only [List.mem_cons, List.not_mem_nil, or_false] at hf e
          omega)]
        exact k3
      · rw [a f (fun e => by
          simp only [List.mem_cons, List.not_mem_nil, or_false] at hf e
          omega)]
        exact k3
      · rw [a f (fun e => by
          simp only [List.mem_cons, List.not_mem_nil, or_false] at hf
          omega) (fun e => by
          simp only [List.mem_cons, List.not_mem_nil, or_false] at hf
          omega)]
        exact k3
    refine k Q X K ma Z' S' eqW h' (fun onW => ?_) (fun Z2 S2 g2 v2 i2 a2 b2 e2 => kk Z2 S2 g2 v2 i2 a2 b2 (fun f hf => (e2 f hf).trans (c0 f hf))) w (by omega)
    have c : z_C Zs Z' := fun f hf => by
      obtain ⟨Z3, lo, r⟩ := hr'
      have k3 : Z3 f = Zs f := (z_lo_f lo f (fun e => by
        simp only [List.mem_cons, List.not_mem_nil, or_false] at hf e
        omega)).trans (z_2_f (fun e => by
        simp only [List.mem_cons, List.not_mem_nil, or_false] at hf e
        omega))
      rcases r with ⟨_, a, _⟩ | ⟨_, _, a, _⟩ | ⟨_, _, a⟩
      · rw [a f (fun e => by
          simp only [List.mem_cons, List.not_mem_nil, or_false] at hf e
          omega)]
        exact k3
      · rw [a f (fun e => by
          simp only [List.mem_cons, List.not_mem_nil, or_false] at hf e
          omega)]
        exact k3
      · rw [a f (fun e => by
          simp only [List.mem_cons, List.not_mem_nil, or_false] at hf
          omega) (fun e => by
          simp only [List.mem_cons, List.not_mem_nil, or_false] at hf
          omega)]
        exact k3
    have e28' : Z' 28 = Zs 28 := by
      obtain ⟨Z3, lo, r⟩ := hr'
      have k3 : Z3 28 = Zs 28 := (z_lo_f lo 28 (by decide)).trans (z_2_f (by decide))
      rcases r with ⟨_, a, _⟩ | ⟨_, _, a, _⟩ | ⟨_, _, a⟩
      · rw [a 28 (by decide)]
        exact k3
      · rw [a 28 (by decide)]
        exact k3
      · rw [a 28 (by decide) (by decide)]
        exact k3
    rw [e28', ets, z_C_st c, z_C_cs c, ens]
    exact hW'
theorem RV.r2 {V1 : vV} {t n row : Nat} (hV : RV V Z) (on : Z 27 0 = 1) (a : ∀ f, f ≠ 205 → f ≠ 701 → f ≠ 1011 → V1 f = V f) (a7 : V1 701 0 0 = Z 31 0 + 1) (a5 : ∀ b, b < 6 → V1 205 b 0 = z_sk Z row n 17 b ∧ V1 205 b 1 = z_sk Z row n 17 (6 + b)) (a11 : nI (V1 1011 0 0) = nI (Z 39 0 + (if z_wg Z row n = true then 1 else 0))) : RV V1 (z_2 Z row n) := by
  obtain ⟨m1, m2, m3, m4, m5, m6, m7, m8, m9, m10, m11⟩ := hV
  have vl : ∀ (l : List Nat), (∀ f, f ∈ l → f ≠ 205 ∧ f ≠ 701 ∧ f ≠ 1011) → ∀ f, f ∈ l → V1 f = V f := fun l hl f hf => a f (hl f hf).1 (hl f hf).2.1 (hl f hf).2.2
  have zf : ∀ (l : List Nat), (∀ f, f ∈ l → f ∉ [17, 31, 39]) → ∀ f, f ∈ l → z_2 Z row n f = Z f := fun l hl f hf => z_2_f (hl f hf)
  refine ⟨m1.cg (vl _ (by decide)) (zf _ (by decide)), m2.cg (vl _ (by decide)) (zf _ (by decide)), m3.cg (vl _ (by decide)) (fun t _ f hf => by rw [vl _ (by decide) f hf]) z_2_C, m4.cg (vl _ (by decide)) (z_2_f (by decide)), m5.cg (vl [1006] (by decide) 1006 (by decide)) (fun f hf => by rw [vl _ (by decide) f hf]) (zf _ (by decide)), m6.cg (vl [600] (by decide) 600 (by decide)), fun b hb => ?_, m8.cg (vl _ (by decide)) (zf _ (by decide)), m9.cg (vl _ (by decide)) (zf _ (by decide)), ⟨?_, fun _ => ?_⟩, ?_⟩
  · have m := m7 b hb
    have k := a5 b hb
    have e17 : ∀ i, z_2 Z row n 17 i = z_sk Z row n 17 i := fun i => by
      unfold z_2
      rw [up_f (by decide), up_f (by decide)]
    rw [k.1, k.2, e17, e17, vl [200] (by decide) 200 (by decide), vl [201] (by decide) 201 (by decide), vl [202] (by decide) 202 (by decide), vl [203] (by decide) 203 (by decide), vl [204] (by decide) 204 (by decide), vl [206] (by decide) 206 (by decide), vl [207] (by decide) 207 (by decide), zf [18] (by decide) 18 (by decide), zf [19] (by decide) 19 (by decide), zf [34] (by decide) 34 (by decide), zf [35] (by decide) 35 (by decide), zf [36] (by decide) 36 (by decide), zf [37] (by decide) 37 (by decide), zf [38] (by decide) 38 (by decide)]
    exact ⟨m.1, m.2.1, m.2.2.1, m.2.2.2.1, m.2.2.2.2.1, rfl, rfl, m.2.2.2.2.2.2.2.1, m.2.2.2.2.2.2.2.2.1, m.2.2.2.2.2.2.2.2.2⟩
  · rw [vl [1009] (by decide) 1009 (by decide), zf [27] (by decide) 27 (by decide)]
    exact m10.1
  · have v := m10.2 on
    have y31 : z_2 Z row n 31 0 = Z 31 0 + 1 := up_s _ _ _ _
    rw [vl [700] (by decide) 700 (by decide), vl [3003] (by decide) 3003 (by decide), vl [702] (by decide) 702 (by decide), vl [704] (by decide) 704 (by decide), vl [705] (by decide) 705 (by decide), zf [28] (by decide) 28 (by decide), zf [29] (by decide) 29 (by decide), zf [30] (by decide) 30 (by decide), zf [32] (by decide) 32 (by decide), y31]
    exact ⟨v.1, a7, v.2.2.1, v.2.2.2.1, v.2.2.2.2⟩
  · have y39 : z_2 Z row n 39 0 = Z 39 0 + (if z_wg Z row n = true then 1 else 0) := by
      unfold z_2
      rw [up_f (by decide), up_s]
    unfold V_S
    rw [vl [1010] (by decide) 1010 (by decide), vl [1012] (by decide) 1012 (by decide), vl [1013] (by decide) 1013 (by decide), zf [33] (by decide) 33 (by decide), zf [40] (by decide) 40 (by decide), zf [41] (by decide) 41 (by decide), y39]
    exact ⟨m11.1, a11, m11.2.2.1, m11.2.2.2⟩
theorem c_loop {C : zS → Prop} {Q : zS → Prop} {m : Nat} :
    ∀ (w j : Nat) (V : vV) (Z : zZ) (S : zS), RC E ad la (sd M T 1) V S → Z 10 0 + 2 = T → RV V Z → IZ Z → V 701 0 0 = Z 31 0 → Z 31 0 ≤ 240 → j ≤ Z 31 0 → 240 < j + w → (∀ V' S', RC E ad la (sd M T 1) V' S' → zF E m V' Z → C S') → p_X10_doReadyRows_L2 E C C Q X w (ad 10 0) (nI j) S
  | 0, j, V, Z, S, h, eT, hV, hI, e7, e31, h1, h2, k => by omega
  | w + 1, j, V, Z, S, h, eT, hV, hI, e7, e31, h1, h2, k => by
    have hI0 := hI
    obtain ⟨⟨hM, hT, hB, hP, hR4, h20⟩, f1, f2, f3, f4, f5⟩ := hI
    have m10 := hV.2.2.2.2.2.2.2.2.2.1
    have noton : ¬ Z 27 0 = 1 → C S := fun hn => k V S h (zF_stop hV hI0 e7 e31 (fun x => absurd x hn))
    refine pk_le 240 j (fun h3 => noton (fun on => ?_)) (fun h3 => ⟨h.o 10 0 Nat.zero_lt_one, ?_⟩)
    · obtain ⟨g1, g2, g3, g4, g5, g6, g7⟩ := f4.2 on
      have hL := z_L_bd hM (hT.2 _ g1)
      omega
    · refine h.r9 Nat.zero_lt_one (fun e => noton (by rw [← m10.1, e]; decide)) (fun e hR => ⟨h.o 7 0 hR, ?_⟩)
      have on : Z 27 0 = 1 := by rw [← m10.1]; exact e
      obtain ⟨g1, g2, g3, g4, g5, g6, g7⟩ := f4.2 on
      have hTt := hT.2 _ g1
      have hL := z_L_bd hM hTt
      have sl : v_SL T V Z := hV.2.2.1.sl eT
      have vB := hV.2.2.2.2.2.2.1
      have G : G_on V Z (Z 28 0) (z_st Z (Z 28 0)) := ⟨m10, on, rfl, g1, rfl, g3⟩
      refine c_ready h hR G hM hT sl vB f5.2.2.1 (by omega) (zb_d (fun hr => ⟨h.o 7 0 hR, ?_⟩) (fun hr => k V S h (zF_stop hV hI0 e7 e31 (fun _ => hr))))
      obtain ⟨W, hW⟩ := z_row_ex (row := z_f Z (Z 28 0) (Z 31 0)) hI0 on rfl rfl
      have hIW := z_row_I hI0 on rfl rfl hW
      have w31 := z_row_31 hW
      have w10 : W 10 = Z 10 := by
        obtain ⟨Z3, lo, r⟩ := hW
        have k3 : Z3 10 = Z 10 := (z_lo_f lo 10 (by decide)).trans (z_2_f (by decide))
        rcases r with ⟨_, a, _⟩ | ⟨_, _, a, _⟩ | ⟨_, _, a⟩
        · rw [a 10 (by decide)]
          exact k3
        · rw [a 10 (by decide)]
          exact k3
        · rw [a 10 (by decide) (by decide)]
          exact k3
      have next : ∀ V1 S1, RC E ad la (sd M T 1) V1 S1 → RV V1 (z_2 Z (z_f Z (Z 28 0) (Z 31 0)) (z_st Z (Z 28 0))) → p_X10_doReadyRows_J43 E (fun (a0 : Nat) (l1 : Int32) (S : zS) => p_X10_doReadyRows_L2 E C C Q X w a0 l1 S) Q X (ad 10 0) (nI j) (ad 7 0) S1 := by
        intro V1 S1 k1 hV1
        refine c_J43 k1 hR eT hV1 hI0 on rfl rfl rfl (fun V2 S2 k2 e72 hV2 => ?_)
        rw [nI_1]
        exact c_loop w (j + 1) V2 W S2 k2 (by rw [w10]; exact eT) (hV2 W hW) hIW (by rw [w31]; exact e72) (by omega) (by omega) (by omega) (fun V' S' k' hF => k V' S' k' (zF_step hI0 on rfl rfl rfl hr hW hF))
      refine c_row h G hR hM hT sl vB g5 rfl (z_at_lt hM hT f4 f5 on rfl rfl) (fun V1 S1 k1 a1 a7 a5 => ?_)
      have e11 : nI (V 1011 0 0) = nI (Z 39 0) := hV.2.2.2.2.2.2.2.2.2.2.2.1
      have v11 : V1 1011 = V 1011 := a1 1011 (by decide) (by decide)
      refine zb_c (fun ew => next V1 S1 k1 (hV.r2 (t := Z 28 0) on (fun f h1 h2 _ => a1 f h1 h2) a7 a5 ?_)) (fun ew => ⟨k1.o 10 0 Nat.zero_lt_one, k1.uI 1011 10 0 (V 1011 0 0 + 1) Nat.zero_lt_one ?_ (fun S2 k2 => next _ S2 k2 (hV.r2 (t := Z 28 0) on (fun f h1 h2 h3 => by rw [u3_f h3]; exact a1 f h1 h2) ?_ ?_ ?_))⟩)
      · rw [v11, ew, if_neg (by decide)]
        exact e11
      · rw [k1.gi 1011 10 0 Nat.zero_lt_one, v11, nI_1]
      · rw [u3_f (by decide)]
        exact a7
      · rw [u3_f (by decide)]
        exact a5
      · rw [u3_s, ew, if_pos rfl, ← nI_1, ← nI_1, e11]
end LPS
