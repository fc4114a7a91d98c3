/-! a row that is done: who has pulled, when, the blows -/
theorem zb_or (b c : Bool) : zb b ||| zb c = zb (b || c) := by cases b <;> cases c <;> rfl
section LR
variable {E : zE} {aa : Nat → Nat} {L Z : zZ} {S : zS} {X : String → zS → Prop}
theorem l_isPulled_L {K0 K1 : zS → Prop} {Q : Int32 → zS → Prop} {r : Nat} (h : RA aa L S) (hz : LZ L Z) (on : Z 27 0 = 1) (h29 : Z 29 0 < 2 ^ 31) (h34 : ∀ b, b < 6 → Z 34 b ≤ 240) (hr : r < 2 ^ 31)
    (k0 : (∃ b, b < 6 ∧ z_pp Z b = true ∧ Z 34 b ≤ r) → K0 S) (k1 : (∀ b, b < 6 → z_pp Z b = true → r < Z 34 b) → K1 S) :
    ∀ (w j : Nat), j ≤ 6 → 6 < j + w → (∀ b, b < j → z_pp Z b = true → r < Z 34 b) → p_L_isPulled_L2 E K0 K1 Q X w (aa 10) (nI r) (nI j) S
  | 0, j, h1, h2, h3 => by omega
  | w + 1, j, h1, h2, h3 => by
    have R := hz.R.2.2 on
    have g8 : L 10 8 = Z 29 0 := R.2.1
    refine pk_le 6 j (fun h5 => ?_) (fun h5 => ⟨h.o 10, h.i0 10 8, ?_⟩)
    · have : j = 6 := by omega
      subst this
      exact k1 h3
    · have b2 : Z 29 0 / 2 ^ j % 2 < 2 := Nat.mod_lt _ (by decide)
      have g16 : L 10 (16 + j) = Z 34 j := R.2.2.2.2 j h5
      have hb := h34 j h5
      have up1 : ∀ (h7 : z_pp Z j = true → r < Z 34 j), ∀ b, b < j + 1 → z_pp Z b = true → r < Z 34 b := fun h7 b hb hp => by
        by_cases e : b = j
        · subst e
          exact h7 hp
        · exact h3 b (by omega) hp
      rw [h.a 10, g8, ri_bit h29 (by omega), ri_is1 b2, nI_1]
      refine ⟨fun h6 => l_isPulled_L h hz on h29 h34 hr k0 k1 w (j + 1) (by omega) (by omega) (up1 (fun hp => ?_)), fun h6 => h.ix 10 (16 + j) (nI_add 16 j) (by show _ < 26; omega) ?_⟩
      · exact absurd (by simpa [z_pp] using hp) h6
      · have hp : z_pp Z j = true := by simpa [z_pp] using h6
        rw [h.a 10, g16]
        exact pk_lt r (Z 34 j) (fun h7 => l_isPulled_L h hz on h29 h34 hr k0 k1 w (j + 1) (by omega) (by omega) (up1 (fun _ => h7))) (fun h7 => k0 ⟨j, h5, hp, h7⟩)
theorem l_isPulled {Q : Int32 → zS → Prop} (h : RA aa L S) (hz : LZ L Z) (on : Z 27 0 = 1) (h29 : Z 29 0 < 2 ^ 31) (h34 : ∀ b, b < 6 → Z 34 b ≤ 240) {LL : Nat} (hL : Z 31 0 < LL) (hL2 : LL ≤ 240) (k : Q (zb (z_rd Z LL)) S) : p_L_isPulled E (aa 10) (nI (Z 31 0)) S Q X := by
  refine ⟨7, l_isPulled_L h hz on h29 h34 (by omega) (fun ⟨b, hb, hp, hr⟩ => ⟨Or.inl rfl, ?_⟩) (fun h6 => ⟨Or.inr rfl, ?_⟩) 7 0 (by decide) (by decide) (fun b hb => by omega)⟩
  · have e : z_rd Z LL = false := by
      unfold z_rd
      rw [Bool.and_eq_false_iff]
      right
      rw [List.all_eq_false]
      exact ⟨b, List.mem_range.mpr hb, by rw [hp, Bool.not_true, Bool.false_or]; simpa using hr⟩
    rw [e] at k
    exact k
  · have e : z_rd Z LL = true := by
      unfold z_rd
      rw [Bool.and_eq_true]
      refine ⟨decide_eq_true hL, List.all_eq_true.mpr (fun b hb => ?_)⟩
      cases hp : z_pp Z b with
      | false => rfl
      | true =>
        have := h6 b (List.mem_range.mp hb) hp
        simpa using this
    rw [e] at k
    exact k
theorem l_when {Q : Int32 → zS → Prop} {b r : Nat} (h : RA aa L S) (hz : LZ L Z) (h35 : ∀ i, Z 35 i ≤ 2000000000) (hb : b < 6) (hr : r < 16) (k : Q (nI (Z 35 (240 * b + r))) S) : p_L_when E (aa 8) (nI b) (nI r) S Q X := by
  have e : (8 : Int32) * nI b + nI r / 2 = nI (8 * b + r / 2) := by
    rw [show (8 : Int32) * nI b = nI (8 * b) from pk_mul 8 b, show nI r / 2 = nI (r / 2) from pk_div (d := 2) (by omega) (by decide) (by decide), nI_add]
  refine ⟨h.o 8, h.ix 8 (8 * b + r / 2) e (by show _ < 48; omega) ?_⟩
  have hy : L 8 (8 * b + r / 2) = Z 35 (240 * b + 2 * (r / 2)) + 2 ^ 32 * Z 35 (240 * b + 2 * (r / 2) + 1) := hz.Y b (r / 2) hb (by omega)
  have a1 := h35 (240 * b + 2 * (r / 2))
  have a2 := h35 (240 * b + 2 * (r / 2) + 1)
  have a3 := h35 (240 * b + r)
  rw [h.j 8, hy, ri_rem2 (by omega), show (32 : Int32) * nI (r % 2) = nI (32 * (r % 2)) from pk_mul 32 _, lj_shr (by omega) (by omega), lj_and (Nat.lt_of_le_of_lt (Nat.div_le_self _ _) (by omega)) 32 (by decide)]
  have ev : (Z 35 (240 * b + 2 * (r / 2)) + 2 ^ 32 * Z 35 (240 * b + 2 * (r / 2) + 1)) / 2 ^ (32 * (r % 2)) % 2 ^ 32 = Z 35 (240 * b + r) := by
    rcases (show r % 2 = 0 ∨ r % 2 = 1 by omega) with x | x
    · rw [x, show 240 * b + r = 240 * b + 2 * (r / 2) by omega]
      omega
    · rw [x, show 240 * b + r = 240 * b + 2 * (r / 2) + 1 by omega]
      omega
  rw [ev, lj_i (by omega)]
  exact k
theorem LZ.bw {L Zp : zZ} {b r v1 v2 : Nat} (hz : LZ L Zp) (hb : b < 6) (e1 : v1 = Zp 17 b + (1 + r % 2)) (e2 : v2 = Zp 17 (6 + b) + 1) : LZ (up (up L 3 b v1) 3 (6 + b) v2) (z_bw Zp b r) := by
  refine ⟨hz.M, hz.T, hz.P, fun i hi => ?_, hz.B, hz.D, hz.E, hz.X, hz.Y, hz.G, hz.R, hz.C⟩
  show up (up L 3 b v1) 3 (6 + b) v2 3 i = up (up Zp 17 b (Zp 17 b + (1 + r % 2))) 17 (6 + b) (Zp 17 (6 + b) + 1) 17 i
  by_cases a : i = 6 + b
  · rw [a, up_s, up_s, e2]
  · rw [up_i a, up_i a]
    by_cases c : i = b
    · rw [c, up_s, up_s, e1]
    · rw [up_i c, up_i c]
      exact hz.W i hi
def l_st (Z : zZ) (row : Nat) : Nat → Int32
  | 0 => -1
  | p + 1 => nI (z_at Z row p)
theorem l_row_L {K : Nat → Nat → Nat → Nat → Nat → Nat → Nat → Nat → Int32 → Int32 → Int32 → zS → Prop} {Q : Int32 → zS → Prop} {row n : Nat} {l9 : Int32} (on : Z 27 0 = 1) (h29 : Z 29 0 < 2 ^ 31) (h35 : ∀ i, Z 35 i ≤ 2000000000) (en : z_st Z (Z 28 0) = n) (hN : ro_N n) (hV : ro_V n row) (h31 : Z 31 0 < 16) (hat : ∀ p, p < n → z_at Z row p < 2 ^ 31)
    (k : ∀ L' S', RA aa L' S' → LZ L' (z_sk Z row n) → K (aa 0) (aa 1) (aa 2) (aa 3) (aa 4) (aa 8) (aa 9) (aa 10) (nI n) l9 (zb (z_wg Z row n)) S') :
    ∀ (w p : Nat) (L : zZ) (S : zS), RA aa L S → LZ L (z_sk Z row p) → p ≤ n → n < p + w → p_L_goOn_L78 E K Q X w (aa 0) (aa 1) (aa 2) (aa 3) (aa 4) (aa 8) (aa 9) (aa 10) (nI n) l9 (nI (iv n row)) (l_st Z row p) (zb (z_wg Z row p)) (nI p) S
  | 0, p, L, S, h, hz, h1, h2 => by omega
  | w + 1, p, L, S, h, hz, h1, h2 => by
    have hn6 := ro_N6 hN
    have kf : ∀ f, f ≠ 17 → z_sk Z row p f = Z f := fun f hf => z_sk_f hf p
    refine pk_le n p (fun h5 => ?_) (fun h5 => l_bell hN hV h5 ⟨h.o 10, h.i0 10 8, ?_⟩)
    · have : p = n := by omega
      subst this
      exact k L S h hz
    · have hb6 : ro_bl row p < 6 := by have := hV.2.1 p h5; omega
      have R := hz.R.2.2 (by rw [kf 27 (by decide)]; exact on)
      have g8 : L 10 8 = Z 29 0 := by rw [← kf 29 (by decide)]; exact R.2.1
      have g9 : L 10 9 = Z 30 0 := by rw [← kf 30 (by decide)]; exact R.2.2.1
      have g11 : L 10 11 = Z 32 0 := by rw [← kf 32 (by decide)]; exact R.2.2.2.1
      have g10 : L 10 10 = Z 31 0 := by rw [← kf 31 (by decide)]; exact hz.R.2.1
      have b2 : Z 29 0 / 2 ^ ro_bl row p % 2 < 2 := Nat.mod_lt _ (by decide)
      have ha := hat p h5
      have wgs : z_wg Z row (p + 1) = (z_wg Z row p || (decide (0 < p) && decide (z_at Z row p ≤ z_at Z row (p - 1)))) := rfl
      have sks : z_sk Z row (p + 1) = if z_pp Z (ro_bl row p) = true then z_sk Z row p else z_bw (z_sk Z row p) (ro_bl row p) (Z 31 0) := rfl
      -- the blow, and on
      have J184 : ∀ (l100 : Int32) (c : Bool), l100 = zb c → (z_wg Z row p || c) = z_wg Z row (p + 1) → ∀ (own : Int32), (own = 0 ↔ z_pp Z (ro_bl row p) = false) → p_L_goOn_J184 E (fun (a0 : Nat) (a1 : Nat) (a2 : Nat) (a3 : Nat) (a4 : Nat) (a5 : Nat) (a6 : Nat) (a7 : Nat) (l8 : Int32) (l9 : Int32) (l10 : Int32) (l11 : Int32) (l12 : Int32) (l13 : Int32) (S : zS) => p_L_goOn_L78 E K Q X w a0 a1 a2 a3 a4 a5 a6 a7 l8 l9 l10 l11 l12 l13 S) Q X (aa 0) (aa 1) (aa 2) (aa 3) (aa 4) (aa 8) (aa 9) (aa 10) (nI n) l9 (nI (iv n row)) (nI p) (nI (ro_bl row p)) own (nI (z_at Z row p)) l100 (zb (z_wg Z row p)) S := by
        intro l100 c e100 ec own eo
        subst e100
        unfold p_L_goOn_J184
        rw [zb_or, ec, nI_1]
        refine ⟨fun h6 => ⟨h.o 3, h.ix 3 (ro_bl row p) rfl (by show _ < 12; omega) ⟨h.o 10, h.i0 10 10, h.ix 3 (ro_bl row p) rfl (by show _ < 12; omega) ?_⟩⟩, fun h6 => ?_⟩
        · rw [h.a 3, h.a 10, g10, ri_rem2 (by omega), show (1 : Int32) + nI (Z 31 0 % 2) = nI (1 + Z 31 0 % 2) from nI_add 1 _, nI_add]
          refine h.wA 3 (ro_bl row p) _ rfl (fun S1 g1 => g1.ix 3 (6 + ro_bl row p) (nI_add 6 _) (by show _ < 12; omega) (g1.ix 3 (6 + ro_bl row p) (nI_add 6 _) (by show _ < 12; omega) ?_))
          rw [g1.a 3, up_i (by omega), nI_1]
          refine g1.wA 3 (6 + ro_bl row p) _ rfl (fun S2 g2 => ?_)
          refine l_row_L on h29 h35 en hN hV h31 hat k w (p + 1) _ S2 g2 ?_ (by omega) (by omega)
          rw [sks, if_neg (by rw [eo.mp h6]; decide)]
          exact hz.bw hb6 (by rw [hz.W _ (by omega)]) (by rw [hz.W _ (by omega)])
        · refine l_row_L on h29 h35 en hN hV h31 hat k w (p + 1) L S h ?_ (by omega) (by omega)
          have : z_pp Z (ro_bl row p) = true := by
            cases x : z_pp Z (ro_bl row p) with
            | true => rfl
            | false => exact absurd (eo.mpr x) h6
          rw [sks, if_pos this]
          exact hz
      have J168 : ∀ (own : Int32), (own = 0 ↔ z_pp Z (ro_bl row p) = false) → p_L_goOn_J168 E (fun (a0 : Nat) (a1 : Nat) (a2 : Nat) (a3 : Nat) (a4 : Nat) (a5 : Nat) (a6 : Nat) (a7 : Nat) (l8 : Int32) (l9 : Int32) (l10 : Int32) (l11 : Int32) (l12 : Int32) (l13 : Int32) (S : zS) => p_L_goOn_L78 E K Q X w a0 a1 a2 a3 a4 a5 a6 a7 l8 l9 l10 l11 l12 l13 S) Q X (aa 0) (aa 1) (aa 2) (aa 3) (aa 4) (aa 8) (aa 9) (aa 10) (nI n) l9 (nI (iv n row)) (l_st Z row p) (zb (z_wg Z row p)) (nI p) (nI (ro_bl row p)) own (nI (z_at Z row p)) S := by
        intro own eo
        refine ⟨fun h6 => J184 0 false rfl ?_ own eo, fun h6 => J184 1 true rfl ?_ own eo⟩
        · rw [wgs]
          match p, h6, h5 with
          | 0, _, _ => rfl
          | q + 1, h6, h5 =>
            have hq := hat q (by omega)
            have : z_at Z row q < z_at Z row (q + 1) := pk_lt (A := z_at Z row q < z_at Z row (q + 1)) (B := True) (z_at Z row q) (z_at Z row (q + 1)) (fun x => x) (fun _ => trivial) |>.1 h6
            rw [decide_eq_false (show ¬ z_at Z row (q + 1) ≤ z_at Z row (q + 1 - 1) by rw [Nat.add_sub_cancel]; omega), Bool.and_false]
        · rw [wgs]
          match p, h6, h5, ha with
          | 0, h6, _, ha =>
            exact absurd (show (-1 : Int32) < nI (z_at Z row 0) by
              rw [Int32.lt_iff_toInt_lt, nI_toInt ha]
              have : (-1 : Int32).toInt = -1 := by decide
              omega) h6
          | q + 1, h6, h5, ha =>
            have hq := hat q (by omega)
            have : z_at Z row (q + 1) ≤ z_at Z row q := (pk_lt (A := True) (B := z_at Z row (q + 1) ≤ z_at Z row q) (z_at Z row q) (z_at Z row (q + 1)) (fun _ => trivial) (fun x => x)).2 h6
            rw [decide_eq_true (show z_at Z row (q + 1) ≤ z_at Z row (q + 1 - 1) by rw [Nat.add_sub_cancel]; exact this), decide_eq_true (show 0 < q + 1 by omega)]
            rfl
      rw [h.a 10, g8, ri_bit h29 (by omega), ri_is1 b2]
      refine ⟨fun h6 => ?_, fun h6 => ?_⟩
      · have hp : z_pp Z (ro_bl row p) = false := by
          unfold z_pp
          simpa using h6
        refine ⟨fun _ => ⟨h.o 10, h.i0 10 9, h.i0 10 10, h.i0 10 10, h.i0 10 11, ?_⟩, fun x => absurd rfl x⟩
        have ez : z_at Z row p = z_du Z (Z 31 0) p := by
          unfold z_at
          rw [if_neg (by rw [hp]; decide)]
        have ee : ((gA S (aa 10) 9) * (((nI n * (gA S (aa 10) 10)) + nI p) + ((gA S (aa 10) 10) / 2))) + (gA S (aa 10) 11) = nI (z_at Z row p) := by
          rw [h.a 10, h.a 10, h.a 10, g9, g10, g11, ez]
          unfold z_du
          rw [en, pk_mul n, nI_add, show nI (Z 31 0) / 2 = nI (Z 31 0 / 2) from pk_div (d := 2) (by omega) (by decide) (by decide), nI_add, pk_mul (Z 30 0), nI_add]
        rw [ee]
        exact J168 0 ⟨fun _ => hp, fun _ => rfl⟩
      · have hp : z_pp Z (ro_bl row p) = true := by
          unfold z_pp
          simpa using h6
        refine ⟨fun x => absurd x (by decide), fun _ => ⟨h.o 10, h.i0 10 10, ?_⟩⟩
        have ez : z_at Z row p = Z 35 (240 * ro_bl row p + Z 31 0) := by
          unfold z_at
          rw [if_pos hp]
        rw [h.a 10, g10]
        refine l_when h hz (by rw [kf 35 (by decide)]; exact h35) hb6 h31 ?_
        rw [kf 35 (by decide), ← ez]
        exact J168 1 ⟨fun x => absurd x (by decide), fun x => by rw [hp] at x; cases x⟩
end LR
