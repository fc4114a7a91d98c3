/-! ringing -/
def z_pp (Z : zZ) (b : Nat) : Bool := Z 29 0 / 2 ^ b % 2 == 1
def z_du (Z : zZ) (r p : Nat) : Nat := Z 30 0 * (z_st Z (Z 28 0) * r + p + r / 2) + Z 32 0
def z_rd (Z : zZ) (L : Nat) : Bool := decide (Z 31 0 < L) && (List.range 6).all (fun b => !z_pp Z b || decide (Z 31 0 < Z 34 b))
def z_at (Z : zZ) (row p : Nat) : Nat := if z_pp Z (ro_bl row p) = true then Z 35 (240 * ro_bl row p + Z 31 0) else z_du Z (Z 31 0) p
def z_sk (Z : zZ) (row : Nat) : Nat → zZ
  | 0 => Z
  | p + 1 => if z_pp Z (ro_bl row p) = true then z_sk Z row p else z_bw (z_sk Z row p) (ro_bl row p) (Z 31 0)
def z_wg (Z : zZ) (row : Nat) : Nat → Bool
  | 0 => false
  | p + 1 => z_wg Z row p || (decide (0 < p) && decide (z_at Z row p ≤ z_at Z row (p - 1)))
def z_lo (Z Z' : zZ) : Prop := (z_any Z 6 = false ∧ z_lk Z Z') ∨ (z_any Z 6 = true ∧ ∃ Z1, z_lk Z Z1 ∧ z_dr Z1 Z')
theorem z_dr_C {Z Z' : zZ} (h : z_dr Z Z') : z_C Z Z' := fun f hf => h.1 f (fun e => by
  simp only [List.mem_cons, List.not_mem_nil, or_false] at hf e
  omega)
theorem z_dr_P {Z Z' : zZ} (h : z_dr Z Z') (hP : z_P Z) : z_P Z' := by
  intro d hd
  have h2 := hP d hd
  have e10 : Z' 10 = Z 10 := h.1 10 (by decide)
  rw [e10, ← z_day_len Z' d]
  rw [← z_day_len Z d] at h2
  by_cases a : d < Z 20 0
  · rw [h.2.2.1 d a]
    exact h2
  · rw [h.2.2.2 d (by omega) hd]
    exact ⟨Nat.le_trans (List.length_filter_le _ _) h2.1, fun t ht => h2.2 t (List.mem_filter.mp ht).1⟩
theorem z_lo_f {Z Z' : zZ} (h : z_lo Z Z') : ∀ f, f ∉ [13, 14, 18, 21, 22, 23] → Z' f = Z f := by
  intro f hf
  rcases h with ⟨_, h⟩ | ⟨_, Z1, h, h2⟩
  · exact h.1 f (fun e => hf (by rw [e]; decide))
  · rw [h2.1 f (fun e => hf (by
      simp only [List.mem_cons, List.not_mem_nil, or_false] at e ⊢
      omega)), h.1 f (fun e => hf (by rw [e]; decide))]
theorem z_lo_C {Z Z' : zZ} (h : z_lo Z Z') : z_C Z Z' := fun f hf => z_lo_f h f (fun e => by
  simp only [List.mem_cons, List.not_mem_nil, or_false] at hf e
  omega)
theorem z_lo_18 {Z Z' : zZ} (h : z_lo Z Z') : ∀ i, i < 12 → Z' 18 i = z_nv Z i := by
  intro i hi
  rcases h with ⟨_, h⟩ | ⟨_, Z1, h, h2⟩
  · exact h.2 i hi
  · rw [h2.1 18 (by decide)]
    exact h.2 i hi
theorem z_lo_B {Z Z' : zZ} (h : z_lo Z Z') (hB : z_B Z) : z_B Z' := by
  refine ⟨fun b hb => by rw [z_lo_f h 19 (by decide)]; exact hB.1 b hb, fun b hb => ?_⟩
  rw [z_lo_18 h b hb]
  unfold z_nv
  split
  · omega
  · exact hB.2 b hb
theorem z_lo_P {Z Z' : zZ} (h : z_lo Z Z') (hP : z_P Z) : z_P Z' := by
  rcases h with ⟨_, h⟩ | ⟨_, Z1, h, h2⟩
  · exact z_lk_P h hP
  · exact z_dr_P h2 (z_lk_P h hP)
section MJs
variable {E : zE} {ma : Nat → Nat} {Z : zZ} {m : Nat} {S : zS} {X : String → zS → Prop}
theorem m_lo {Q : zS → Prop} (h : RM ma Z m S) (hM : z_M Z) (hT : z_TT Z) (hB : z_B Z) (hP : z_P Z) (hd : Z 20 0 ≤ 60) (k : ∀ Z' S', RM ma Z' m S' → z_lo Z Z' → Q S') : p_X11_looks E m S Q X :=
  m_looks h hM hT hB hP hd (fun a Z' S' g hl => k Z' S' g (Or.inl ⟨a, hl⟩)) (fun a Z1 Z' S' hl g hr => k Z' S' g (Or.inr ⟨a, Z1, hl, hr⟩))
theorem m_isPeoples {Q : Int32 → zS → Prop} {b : Nat} (h : RM ma Z m S) (hp : Z 29 0 < 64) (hb : b < 31) (k : Q (zb (z_pp Z b)) S) : p_X11_isPeoples E m (nI b) S Q X := by
  have e : gI S 1129 m = nI (Z 29 0) := h.i 29
  refine ⟨h.1, ?_⟩
  unfold z_pp at k
  rw [e, ri_bit (by omega) hb, ri_is1 (Nat.mod_lt _ (by decide))]
  refine ⟨fun h1 => ⟨Or.inl rfl, ?_⟩, fun h1 => ⟨Or.inr rfl, ?_⟩⟩
  · rw [show (Z 29 0 / 2 ^ b % 2 == 1) = false by simpa using h1] at k
    exact k
  · rw [show (Z 29 0 / 2 ^ b % 2 == 1) = true by simpa using h1] at k
    exact k
theorem m_dueAt {Q : Int32 → zS → Prop} {r p : Nat} (h : RM ma Z m S) (hM : z_M Z) (ht : z_T Z (Z 28 0)) (hr : r < 2 ^ 31) (k : Q (nI (z_du Z r p)) S) : p_X11_dueAt E m (nI r) (nI p) S Q X := by
  have e28 : gI S 1128 m = nI (Z 28 0) := h.i 28
  have e30 : gI S 1130 m = nI (Z 30 0) := h.i 30
  have e32 : gI S 1132 m = nI (Z 32 0) := h.i 32
  refine ⟨h.1, ?_⟩
  rw [e28, e30]
  refine m_stageOf h hM ht.1 (z_T_x ht) ⟨h.1, ?_⟩
  rw [e32, pk_mul, nI_add, show nI r / 2 = nI (r / 2) from pk_div (d := 2) hr (by decide) (by decide), nI_add, pk_mul, nI_add]
  exact k
theorem z_all6 (P : Nat → Bool) (b : Nat) : (List.range (b + 1)).all P = ((List.range b).all P && P b) := by
  rw [List.range_succ, List.all_append]
  simp
theorem m_isReady_L {K : Int32 → zS → Prop} {Q : Int32 → zS → Prop} {g0 : Bool} (h : RM ma Z m S) (hp : Z 29 0 < 64) (h31 : Z 31 0 < 2 ^ 31) (h34 : ∀ b, b < 6 → Z 34 b < 2 ^ 31) (k : K (zb (g0 && (List.range 6).all (fun b => !z_pp Z b || decide (Z 31 0 < Z 34 b)))) S) :
    ∀ (w b : Nat), b ≤ 6 → 6 < b + w → p_X11_isReady_L19 E K Q X w m (zb (g0 && (List.range b).all (fun b => !z_pp Z b || decide (Z 31 0 < Z 34 b)))) (nI b) S
  | 0, b, h1, h2 => by omega
  | w + 1, b, h1, h2 => by
    have e31 : gI S 1131 m = nI (Z 31 0) := h.i 31
    refine pk_le 6 b (fun h3 => ?_) (fun h3 => ?_)
    · have e : b = 6 := by omega
      subst e
      exact k
    · have h5 := m_isReady_L (Q := Q) h hp h31 h34 k w (b + 1) (by omega) (by omega)
      rw [z_all6, ← Bool.and_assoc] at h5
      rw [nI_1]
      refine zb_c (fun h4 => ?_) (fun h4 => ⟨h.1, m_isPeoples h hp (by omega) (zb_c (fun h6 => ?_) (fun h6 => ⟨h.1, ?_⟩))⟩)
      · rw [h4] at h5
        exact h5
      · rw [h4, h6] at h5
        exact h5
      · rw [h4, h6] at h5
        refine h.ij 34 b rfl (by show _ < 6; omega) ?_
        have b1 := h34 b h3
        rw [h.a 34, e31]
        refine pk_le _ _ (fun h7 => ?_) (fun h7 => ?_)
        · rw [show decide (Z 31 0 < Z 34 b) = false by simpa using h7] at h5
          exact h5
        · rw [show decide (Z 31 0 < Z 34 b) = true by simpa using h7] at h5
          exact h5
theorem m_isReady {Q : Int32 → zS → Prop} {L : Nat} (h : RM ma Z m S) (hL : Z 13 0 = L) (hL2 : L < 2 ^ 31) (hp : Z 29 0 < 64) (h31 : Z 31 0 < 2 ^ 31) (h34 : ∀ b, b < 6 → Z 34 b < 2 ^ 31) (k : Q (zb (z_rd Z L)) S) : p_X11_isReady E m S Q X := by
  have e31 : gI S 1131 m = nI (Z 31 0) := h.i 31
  have e13 : gI S 1113 m = nI (Z 13 0) := h.i 13
  refine ⟨h.1, ?_⟩
  rw [e31, e13, hL]
  have J : ∀ g0 : Bool, g0 = decide (Z 31 0 < L) → p_X11_isReady_J16 E Q X m (zb g0) S := by
    intro g0 e
    refine ⟨7, ?_⟩
    have h2 := m_isReady_L (E := E) (X := X) (Q := Q) (g0 := g0) h hp h31 h34 (K := fun (l1 : Int32) (S : zS) => (l1 = 0 ∨ l1 = 1) ∧ Q l1 S) ⟨zb_01 _, by
      rw [e]
      exact k⟩ 7 0 (by omega) (by omega)
    rw [show (List.range 0).all (fun b => !z_pp Z b || decide (Z 31 0 < Z 34 b)) = true from rfl, Bool.and_true] at h2
    exact h2
  refine pk_le L (Z 31 0) (fun h1 => J false (by simpa using h1)) (fun h1 => J true (by simpa using h1))
theorem z_bw_f {Z : zZ} {b r f : Nat} (h : f ≠ 17) : z_bw Z b r f = Z f := by
  unfold z_bw
  rw [up_f h, up_f h]
theorem z_sk_f {Z : zZ} {row f : Nat} (h : f ≠ 17) : ∀ p, z_sk Z row p f = Z f
  | 0 => rfl
  | p + 1 => by
    unfold z_sk
    split
    · exact z_sk_f h p
    · rw [z_bw_f h, z_sk_f h p]
theorem m_doesRow_L {K : Nat → Int32 → Int32 → zS → Prop} {Q : zS → Prop} {n row : Nat} (hM : z_M Z) (ht : z_T Z (Z 28 0)) (hp : Z 29 0 < 64) (h31 : Z 31 0 < 240) (hrow : Z 14 (Z 31 0) = row) (hn : n ≤ 6) (hrl : row < 2 ^ 18) (hrb : ∀ p, p < n → ro_bl row p < 6) (hat : ∀ p, p < n → z_at Z row p < 2 ^ 31)
    (k : ∀ S', RM ma (z_sk Z row n) m S' → K m (nI n) (zb (z_wg Z row n)) S') :
    ∀ (w p : Nat) (l2 : Int32) (S : zS), RM ma (z_sk Z row p) m S → p ≤ n → n < p + w → (0 < p → l2 = nI (z_at Z row (p - 1))) → p_X11_doesRow_L16 E K Q X w m (nI n) l2 (zb (z_wg Z row p)) (nI p) S
  | 0, p, l2, S, h, h1, h2, h3 => by omega
  | w + 1, p, l2, S, h, h1, h2, h3 => by
    refine pk_le n p (fun h4 => ?_) (fun h4 => ⟨h.1, ?_⟩)
    · have e : p = n := by omega
      subst e
      exact k S h
    · have f14 : z_sk Z row p 14 = Z 14 := z_sk_f (by decide) p
      have f31 : z_sk Z row p 31 = Z 31 := z_sk_f (by decide) p
      have f29 : z_sk Z row p 29 = Z 29 := z_sk_f (by decide) p
      have f28 : z_sk Z row p 28 = Z 28 := z_sk_f (by decide) p
      have f30 : z_sk Z row p 30 = Z 30 := z_sk_f (by decide) p
      have f32 : z_sk Z row p 32 = Z 32 := z_sk_f (by decide) p
      have f35 : z_sk Z row p 35 = Z 35 := z_sk_f (by decide) p
      have hC : z_C Z (z_sk Z row p) := fun f hf => z_sk_f (fun e => by subst e; exact absurd hf (by decide)) p
      have e31 : gI S 1131 m = nI (Z 31 0) := by
        have := h.i 31
        rw [f31] at this
        exact this
      have epp : ∀ b, z_pp (z_sk Z row p) b = z_pp Z b := fun b => by unfold z_pp; rw [f29]
      have edu : ∀ r q, z_du (z_sk Z row p) r q = z_du Z r q := fun r q => by unfold z_du; rw [f30, f28, f32, z_C_st hC]
      have hb6 := hrb p h4
      have hatp := hat p h4
      have go : ∀ (S2 : zS) (pb : Bool), RM ma (z_sk Z row p) m S2 → z_pp Z (ro_bl row p) = pb → p_X11_doesRow_J76 E (fun (a0 : Nat) (l1 : Int32) (l2 : Int32) (l3 : Int32) (l4 : Int32) (S : zS) => p_X11_doesRow_L16 E K Q X w a0 l1 l2 l3 l4 S) Q X m (nI n) l2 (zb (z_wg Z row p)) (nI p) (nI (ro_bl row p)) (nI (z_at Z row p)) S2 := by
        intro S2 pb g hpb
        have g31 : gI S2 1131 m = nI (Z 31 0) := by
          have := g.i 31
          rw [f31] at this
          exact this
        have rest : ∀ S3, RM ma (z_sk Z row (p + 1)) m S3 → p_X11_doesRow_L16 E K Q X w m (nI n) (nI (z_at Z row p)) (zb (z_wg Z row (p + 1))) (nI (p + 1)) S3 := fun S3 g3 =>
          m_doesRow_L hM ht hp h31 hrow hn hrl hrb hat k w (p + 1) _ S3 g3 (by omega) (by omega) (fun _ => by rw [Nat.add_sub_cancel])
        have ewg : z_wg Z row (p + 1) = (z_wg Z row p || (decide (0 < p) && decide (z_at Z row p ≤ z_at Z row (p - 1)))) := rfl
        have esk : z_sk Z row (p + 1) = if z_pp Z (ro_bl row p) = true then z_sk Z row p else z_bw (z_sk Z row p) (ro_bl row p) (Z 31 0) := rfl
        have J93 : z_wg Z row (p + 1) = true → p_X11_doesRow_J93 E (fun (a0 : Nat) (l1 : Int32) (l2 : Int32) (l3 : Int32) (l4 : Int32) (S : zS) => p_X11_doesRow_L16 E K Q X w a0 l1 l2 l3 l4 S) Q X m (nI n) (nI p) (nI (ro_bl row p)) (nI (z_at Z row p)) S2 := by
          intro e
          rw [e] at rest
          refine ⟨g.1, m_isPeoples g (by rw [f29]; exact hp) (by omega) ?_⟩
          rw [epp, hpb, nI_1]
          refine zb_d (fun h6 => rest S2 ?_) (fun h6 => ⟨g.1, ?_⟩)
          · rw [esk, hpb, if_pos h6]
            exact g
          · rw [g31]
            refine m_blows g hb6 (by omega) (fun S3 g3 => rest S3 ?_)
            rw [esk, hpb, h6]
            exact g3
        have J97 : z_wg Z row (p + 1) = false → p_X11_doesRow_J97 E (fun (a0 : Nat) (l1 : Int32) (l2 : Int32) (l3 : Int32) (l4 : Int32) (S : zS) => p_X11_doesRow_L16 E K Q X w a0 l1 l2 l3 l4 S) Q X m (nI n) (nI p) (nI (ro_bl row p)) (nI (z_at Z row p)) S2 := by
          intro e
          rw [e] at rest
          refine ⟨g.1, m_isPeoples g (by rw [f29]; exact hp) (by omega) ?_⟩
          rw [epp, hpb, nI_1]
          refine zb_d (fun h6 => rest S2 ?_) (fun h6 => ⟨g.1, ?_⟩)
          · rw [esk, hpb, if_pos h6]
            exact g
          · rw [g31]
            refine m_blows g hb6 (by omega) (fun S3 g3 => rest S3 ?_)
            rw [esk, hpb, h6]
            exact g3
        refine zb_d (fun h6 => J93 (by rw [ewg, h6]; rfl)) (fun h6 => pk_le p 0 (fun h7 => J97 ?_) (fun h7 => ?_))
        · rw [ewg, h6, show decide (0 < p) = false by simp; omega]
          rfl
        · have h8 := hat (p - 1) (by omega)
          rw [h3 (by omega)]
          refine pk_lt _ _ (fun h9 => J97 ?_) (fun h9 => J93 ?_)
          · rw [ewg, h6, show decide (z_at Z row p ≤ z_at Z row (p - 1)) = false by simpa using h9, Bool.and_false]
            rfl
          · rw [ewg, h6, show decide (z_at Z row p ≤ z_at Z row (p - 1)) = true by simpa using h9, show decide (0 < p) = true by simpa using h7]
            rfl
      refine h.ij 14 (Z 31 0) e31 (by show _ < 240; omega) ?_
      rw [h.a 14, f14, hrow]
      refine w1_bell (by omega) (by omega) ⟨h.1, m_isPeoples h (by rw [f29]; exact hp) (by omega) ?_⟩
      rw [epp]
      refine zb_c (fun h6 => ⟨h.1, ?_⟩) (fun h6 => ⟨h.1, ?_⟩)
      · rw [e31]
        refine m_dueAt h (z_C_M hC hM) (by rw [f28]; exact z_C_T hC ht) (by omega) ?_
        rw [edu]
        have h7 := go S false h h6
        rw [show z_at Z row p = z_du Z (Z 31 0) p by unfold z_at; rw [h6]; rfl] at h7
        exact h7
      · refine h.ij 35 (240 * ro_bl row p + Z 31 0) ?_ (by show _ < 1440; omega) ?_
        · rw [e31, show (240 : Int32) * nI (ro_bl row p) = nI (240 * ro_bl row p) from pk_mul 240 _, nI_add]
        · rw [h.a 35, f35]
          have h7 := go S true h h6
          rw [show z_at Z row p = Z 35 (240 * ro_bl row p + Z 31 0) by unfold z_at; rw [if_pos h6]] at h7
          exact h7
end MJs
