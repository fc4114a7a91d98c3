/-! sound touches, bells that are in, what both sides say of them -/
def zb (b : Bool) : Int32 := if b then 1 else 0
theorem zb_01 (b : Bool) : zb b = 0 ∨ zb b = 1 := by cases b <;> decide
theorem zb_0 {b : Bool} : zb b = 0 ↔ b = false := by cases b <;> decide
theorem zb_n0 {b : Bool} : ¬ zb b = 0 ↔ b = true := by cases b <;> decide
theorem zb_c {b : Bool} {A B : Prop} (f : b = false → A) (g : b = true → B) : (zb b = 0 → A) ∧ (¬ zb b = 0 → B) := ⟨fun h => f (zb_0.mp h), fun h => g (zb_n0.mp h)⟩
theorem zb_d {b : Bool} {A B : Prop} (g : b = true → B) (f : b = false → A) : (¬ zb b = 0 → B) ∧ (zb b = 0 → A) := ⟨fun h => g (zb_n0.mp h), fun h => f (zb_0.mp h)⟩
def z_f (Z : zZ) (t i : Nat) : Nat := (z_rw Z t).getD i 0
def z_L (Z : zZ) (t : Nat) : Nat := (z_cs Z t).length
def z_ndB (f : Nat → Nat) (L : Nat) : Bool := (List.range L).all (fun r => (List.range r).all (fun k => !(f k == f r)))
theorem z_ndB_iff (f : Nat → Nat) (L : Nat) : z_ndB f L = true ↔ ∀ r, r < L → ∀ k, k < r → f k ≠ f r := by
  unfold z_ndB
  simp [List.all_eq_true]
def z_la (Z : zZ) (t : Nat) : Nat := ro_la (z_st Z t) (ro_rnd (z_st Z t)) (z_cs Z t)
def z_snd (Z : zZ) (t : Nat) : Bool := z_la Z t == ro_rnd (z_st Z t) && z_ndB (z_f Z t) (z_L Z t)
def z_in (Z : zZ) (b : Nat) : Bool := Z 19 b == 0 && (Z 18 b == 0 && Z 18 (6 + b) == 0)
def z_are (Z : zZ) (n : Nat) : Bool := (List.range n).all (z_in Z)
def z_B (Z : zZ) : Prop := (∀ b, b < 6 → Z 19 b < 2) ∧ ∀ b, b < 12 → Z 18 b < 2
theorem z_R_congr {f g : Nat → Nat} {L : Nat} {v : Int32} (h : ∀ i, i < L → f i = g i) (h2 : z_R f L v) : z_R g L v := by
  rcases h2 with ⟨e, h3⟩ | ⟨r, e, hr, ⟨k, hk, e2⟩, h3⟩
  · refine Or.inl ⟨e, fun r hr k hk => ?_⟩
    rw [← h r hr, ← h k (by omega)]
    exact h3 r hr k hk
  · refine Or.inr ⟨r, e, hr, ⟨k, hk, ?_⟩, fun r' hr' k hk => ?_⟩
    · rw [← h r hr, ← h k (by omega)]
      exact e2
    · rw [← h r' (by omega), ← h k (by omega)]
      exact h3 r' hr' k hk
theorem z_rw_len (Z : zZ) (t : Nat) : (z_rw Z t).length = z_L Z t := ro_ws_len _ _ _
theorem z_f_get {Z : zZ} {t i : Nat} (h : i < z_L Z t) : (z_rw Z t)[i]? = some (z_f Z t i) := by
  unfold z_f
  rw [List.getD_eq_getElem?_getD, List.getElem?_eq_getElem (by rw [z_rw_len]; exact h)]
  rfl
theorem z_W_f {Z Z' : zZ} {t : Nat} (h : z_W (z_st Z t) Z' (z_cs Z t)) {i : Nat} (hi : i < z_L Z t) : Z' 14 i = z_f Z t i := h.2 i _ (z_f_get hi)
theorem z_f_V {Z : zZ} (h : z_M Z) {t : Nat} (ht : z_T Z t) {i : Nat} (hi : i < z_L Z t) : ro_V (z_st Z t) (z_f Z t i) :=
  ro_ws_V (z_T_N h ht) _ _ (ro_V_rnd (z_T_N h ht)).1 (z_T_tc h ht _ (Nat.le_refl _)).1 _ (List.mem_of_getElem? (z_f_get hi))
theorem z_f_lt {Z : zZ} (h : z_M Z) {t : Nat} (ht : z_T Z t) {i : Nat} (hi : i < z_L Z t) : z_f Z t i < 2 ^ 18 := ro_V_lt (z_T_N h ht) (z_f_V h ht hi)
theorem z_L_bd {Z : zZ} (h : z_M Z) {t : Nat} (ht : z_T Z t) : 1 ≤ z_L Z t ∧ z_L Z t ≤ 240 := by
  have h1 := z_T_tc h ht _ (Nat.le_refl _)
  have h2 := ht.2.1
  have h3 := ht.2.2.1
  unfold z_L z_cs
  omega
theorem ro_ws_last (n : Nat) : ∀ (cs : List Nat) (r : Nat), cs ≠ [] → (ro_ws n r cs)[cs.length - 1]? = some (ro_la n r cs)
  | [], r, h => absurd rfl h
  | [c], r, _ => rfl
  | c :: d :: cs, r, _ => by
    have := ro_ws_last n (d :: cs) (ro_af n c r) (by simp)
    simpa [ro_ws, ro_la] using this
theorem z_la_f {Z : zZ} {t : Nat} (h : 1 ≤ z_L Z t) : z_f Z t (z_L Z t - 1) = z_la Z t := by
  have h1 := z_f_get (Z := Z) (t := t) (i := z_L Z t - 1) (by omega)
  have h2 := ro_ws_last (z_st Z t) (z_cs Z t) (ro_rnd (z_st Z t)) (fun e => by unfold z_L at h; rw [e] at h; exact absurd h (by decide))
  exact Option.some.inj (h1.symm.trans h2)
theorem z_E_st {Z Z' : zZ} (h : z_E Z Z') (t : Nat) : z_st Z' t = z_st Z t := by
  unfold z_st
  rw [h 4 (by decide) (by decide), h 12 (by decide) (by decide)]
theorem z_T_x {Z : zZ} {t : Nat} (ht : z_T Z t) : Z 12 (20 * t) / 3 < Z 3 0 := (ht.2.2.2 0 (by have := ht.2.1; omega)).1
theorem z_E_T {Z Z' : zZ} (h : z_E Z Z') {t : Nat} (ht : z_T Z t) : z_T Z' t := by
  unfold z_T z_mt z_st
  rw [h 11 (by decide) (by decide), h 12 (by decide) (by decide), h 3 (by decide) (by decide), h 4 (by decide) (by decide)]
  exact ht
section ME
variable {E : zE} {ma : Nat → Nat} {Z : zZ} {m : Nat} {S : zS} {X : String → zS → Prop}
theorem m_isSound {Q : Int32 → zS → Prop} {t : Nat} (h : RM ma Z m S) (hM : z_M Z) (ht : z_T Z t) (k : ∀ Z' S', RM ma Z' m S' → z_E Z Z' → z_W (z_st Z t) Z' (z_cs Z t) → Q (zb (z_snd Z t)) S') : p_X11_isSound E m (nI t) S Q X := by
  have hL := z_L_bd hM ht
  have hN := z_T_N hM ht
  refine ⟨h.1, m_writes h hM ht (fun Z' S' g hE hW => ?_)⟩
  have hr : Z' 13 0 = z_L Z t := hW.1
  refine ⟨g.1, g.ij 14 (z_L Z t - 1) ?_ (by show _ < 240; omega) ?_⟩
  · have := g.i 13
    rw [this, hr]
    exact pk_sub (b := 1) (by omega)
  · rw [g.a 14, z_W_f hW (by omega), z_la_f hL.1]
    refine m_stageOf g (z_E_M hE hM) ht.1 (z_T_x (z_E_T hE ht)) ?_
    rw [z_E_st hE]
    refine w1_rounds (by unfold ro_N at hN; omega) ?_
    have b1 : z_la Z t < 2 ^ 18 := by rw [← z_la_f hL.1]; exact z_f_lt hM ht (by omega)
    have b2 := ro_V_lt hN (ro_V_rnd hN).1
    rw [nI_eq (by omega) (by omega)]
    refine ⟨fun h1 => ⟨Or.inl rfl, ?_⟩, fun h1 => ⟨g.1, ?_⟩⟩
    · have e : z_snd Z t = false := by unfold z_snd; simp [h1]
      have := k Z' S' g hE hW
      rw [e] at this
      exact this
    · refine m_repeat g hr hL.1 hL.2 (fun i hi => by rw [z_W_f hW hi]; exact z_f_lt hM ht hi) (fun v hv => ?_)
      have hv2 := z_R_congr (fun i hi => z_W_f hW hi) hv
      refine ⟨fun h2 => ⟨Or.inl rfl, ?_⟩, fun h2 => ⟨Or.inr rfl, ?_⟩⟩
      · have e : z_snd Z t = false := by
          unfold z_snd
          rw [Bool.and_eq_false_iff]
          refine Or.inr ?_
          cases e2 : z_ndB (z_f Z t) (z_L Z t) with
          | false => rfl
          | true => exact absurd (z_R_one hv2 (Or.inl ⟨rfl, (z_ndB_iff _ _).mp e2⟩)) h2
        have := k Z' S' g hE hW
        rw [e] at this
        exact this
      · have e : z_snd Z t = true := by
          unfold z_snd
          rw [Bool.and_eq_true]
          refine ⟨by simp [h1], ?_⟩
          rcases hv2 with ⟨_, h3⟩ | ⟨r, e4, hr4, _⟩
          · exact (z_ndB_iff _ _).mpr h3
          · exfalso
            have e5 : (-1 : Int32) = nI r := h2.symm.trans e4
            have e6 := congrArg Int32.toInt e5
            rw [nI_toInt (by omega)] at e6
            have : (-1 : Int32).toInt = -1 := by decide
            omega
        have := k Z' S' g hE hW
        rw [e] at this
        exact this
theorem m_isInNow {Q : Int32 → zS → Prop} {b : Nat} (h : RM ma Z m S) (hB : z_B Z) (hb : b < 6) (k : Q (zb (z_in Z b)) S) : p_X11_isInNow E m (nI b) S Q X := by
  have b1 := hB.1 b hb
  have b2 := hB.2 b (by omega)
  have b3 := hB.2 (6 + b) (by omega)
  unfold z_in at k
  refine ⟨h.1, h.ij 19 b rfl (by show _ < 6; omega) ?_⟩
  rw [h.a 19, ri_0 b1]
  refine ⟨fun h1 => ⟨Or.inl rfl, ?_⟩, fun h1 => h.ij 18 b rfl (by show _ < 12; omega) ?_⟩
  · rw [show (Z 19 b == 0) = false by simpa using h1] at k
    exact k
  · rw [show (Z 19 b == 0) = true by simpa using h1] at k
    rw [h.a 18, ri_0 b2]
    refine ⟨fun h2 => ⟨Or.inl rfl, ?_⟩, fun h2 => h.ij 18 (6 + b) (nI_add 6 b) (by show _ < 12; omega) ?_⟩
    · rw [show (Z 18 b == 0) = false by simpa using h2] at k
      exact k
    · rw [show (Z 18 b == 0) = true by simpa using h2] at k
      rw [h.a 18, ri_0 b3]
      refine ⟨fun h3 => ⟨Or.inl rfl, ?_⟩, fun h3 => ⟨Or.inr rfl, ?_⟩⟩
      · rw [show (Z 18 (6 + b) == 0) = false by simpa using h3] at k
        exact k
      · rw [show (Z 18 (6 + b) == 0) = true by simpa using h3] at k
        exact k
theorem z_are_s (Z : zZ) (n : Nat) : z_are Z (n + 1) = (z_are Z n && z_in Z n) := by
  unfold z_are
  rw [List.range_succ, List.all_append]
  simp
theorem m_areIn_L {K : Int32 → zS → Prop} {Q : Int32 → zS → Prop} {n : Nat} (h : RM ma Z m S) (hB : z_B Z) (hn : n ≤ 6) (k : K (zb (z_are Z n)) S) : ∀ (w p : Nat), p ≤ n → n < p + w → p_X11_areIn_L4 E K Q X w m (nI n) (zb (z_are Z p)) (nI p) S
  | 0, p, h1, h2 => by omega
  | w + 1, p, h1, h2 => by
    refine pk_le n p (fun h3 => ?_) (fun h3 => ?_)
    · have : p = n := by omega
      subst this
      exact k
    · have h5 := m_areIn_L (Q := Q) h hB hn k w (p + 1) (by omega) (by omega)
      rw [z_are_s] at h5
      rw [nI_1]
      refine zb_c (fun h4 => ?_) (fun h4 => ⟨h.1, m_isInNow h hB (by omega) ?_⟩)
      · rw [h4] at h5
        exact h5
      · rw [h4] at h5
        refine zb_c (fun h6 => ?_) (fun h6 => ?_)
        · rw [h6] at h5
          exact h5
        · rw [h6] at h5
          exact h5
theorem m_areIn {Q : Int32 → zS → Prop} {n : Nat} (h : RM ma Z m S) (hB : z_B Z) (hn : n ≤ 6) (k : Q (zb (z_are Z n)) S) : p_X11_areIn E m (nI n) S Q X := ⟨7, m_areIn_L h hB hn (K := fun (l2 : Int32) (S : zS) => (l2 = 0 ∨ l2 = 1) ∧ Q l2 S) ⟨zb_01 _, k⟩ 7 0 (by omega) (by omega)⟩
end ME
