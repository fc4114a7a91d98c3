/-! blows, places in a day, bands -/
def z_bw (Z : zZ) (b r : Nat) : zZ := up (up Z 17 b (Z 17 b + (1 + r % 2))) 17 (6 + b) (Z 17 (6 + b) + 1)
def z_oi : Option Nat → Int32
  | none => -1
  | some b => nI b
def z_bf (Z : zZ) (a mx : Nat) : Option Nat := ((List.range 4).find? (fun k => decide (mx ≤ Z 24 ((a + k) % 4)))).map (fun k => (a + k) % 4)
def z_mx (Z : zZ) (d : Nat) : Nat → Nat
  | 0 => 0
  | k + 1 => if z_mx Z d k < z_st Z (Z 22 (4 * d + k)) then z_st Z (Z 22 (4 * d + k)) else z_mx Z d k
def z_bd (Z : zZ) (d a : Nat) : Option Nat := if d = Z 20 0 ∧ ¬ nI (Z 26 0) = -1 then some (Z 26 0) else if Z 21 d = 0 then none else z_bf Z a (z_mx Z d (Z 21 d))
def z_tb (o : Option Nat) (a : Nat) : Nat := match o with
  | none => a
  | some b => (b + 1) % 4
def z_bo (Z : zZ) : Nat → Nat × Option Nat
  | 0 => (Z 25 0, none)
  | j + 1 => (z_tb (z_bd Z (Z 20 0 + j) (z_bo Z j).1) (z_bo Z j).1, z_bd Z (Z 20 0 + j) (z_bo Z j).1)
/-- bands, turn, the band that is kept -/
def z_R4 (Z : zZ) : Prop := (∀ i, i < 4 → 4 ≤ Z 24 i ∧ Z 24 i ≤ 6) ∧ Z 25 0 < 4 ∧ (nI (Z 26 0) = -1 ∨ Z 26 0 < 4)
theorem z_oi_n {b : Nat} (hb : b < 2 ^ 31) : ¬ nI b = -1 := by
  intro e
  have e6 := congrArg Int32.toInt e
  rw [nI_toInt hb] at e6
  have : (-1 : Int32).toInt = -1 := by decide
  omega
theorem z_bf_lt {Z : zZ} {a mx b : Nat} (h : z_bf Z a mx = some b) : b < 4 := by
  unfold z_bf at h
  obtain ⟨k, _, e⟩ := Option.map_eq_some_iff.mp h
  omega
theorem z_bd_lt {Z : zZ} (hR : z_R4 Z) {d a b : Nat} (h : z_bd Z d a = some b) : b < 4 := by
  unfold z_bd at h
  split at h
  · rename_i h1
    have e := Option.some.inj h
    rcases hR.2.2 with h2 | h2
    · exact absurd h2 h1.2
    · omega
  · split at h
    · exact absurd h (by simp)
    · exact z_bf_lt h
theorem z_bo_lt {Z : zZ} (hR : z_R4 Z) : ∀ j, (z_bo Z j).1 < 4
  | 0 => hR.2.1
  | j + 1 => by
    show z_tb _ _ < 4
    unfold z_tb
    split
    · exact z_bo_lt hR j
    · omega
section MI
variable {E : zE} {ma : Nat → Nat} {Z : zZ} {m : Nat} {S : zS} {X : String → zS → Prop}
theorem m_blows {Q : zS → Prop} {b r : Nat} (h : RM ma Z m S) (hb : b < 6) (hr : r < 2 ^ 31) (k : ∀ S', RM ma (z_bw Z b r) m S' → Q S') : p_X11_blows E m (nI b) (nI r) S Q X := by
  refine ⟨h.1, h.ex 17 (h.ix 17 b rfl (by show _ < 12; omega) (h.ix 17 b rfl (by show _ < 12; omega) ?_))⟩
  rw [h.a 17, ri_rem2 hr, show (1 : Int32) + nI (r % 2) = nI (1 + r % 2) from nI_add 1 _, nI_add]
  refine h.wA 17 b _ rfl (fun S1 g1 => g1.ex 17 (g1.ix 17 (6 + b) (nI_add 6 b) (by show _ < 12; omega) (g1.ix 17 (6 + b) (nI_add 6 b) (by show _ < 12; omega) ?_)))
  rw [g1.a 17, up_i (by omega), nI_1]
  exact g1.wA 17 (6 + b) _ rfl k
theorem m_placeOf_L {K : Int32 → zS → Prop} {Q : Int32 → zS → Prop} {d t : Nat} (h : RM ma Z m S) (hP : z_P Z) (hT : z_TT Z) (hd : d ≤ 60) (ht : t < 12) (k : ∀ v, (v = -1 ∧ ∀ k, k < Z 21 d → Z 22 (4 * d + k) ≠ t) ∨ (∃ k, k < Z 21 d ∧ v = nI k ∧ Z 22 (4 * d + k) = t) → K v S) :
    ∀ (w j : Nat) (v : Int32), j ≤ Z 21 d → Z 21 d < j + w → ((v = -1 ∧ ∀ k, k < j → Z 22 (4 * d + k) ≠ t) ∨ ∃ k, k < Z 21 d ∧ v = nI k ∧ Z 22 (4 * d + k) = t) → p_X11_placeOf_L5 E K Q X w m (nI d) (nI t) v (nI j) S
  | 0, j, v, h1, h2, h3 => by omega
  | w + 1, j, v, h1, h2, h3 => by
    have h4 := hP d hd
    refine ⟨h.1, h.ij 21 d rfl (by show _ < 61; omega) ?_⟩
    rw [h.a 21]
    refine pk_le (Z 21 d) j (fun h5 => k v ?_) (fun h5 => h.ij 22 (4 * d + j) ?_ (by show _ < 244; omega) ?_)
    · have e : j = Z 21 d := by omega
      subst e
      exact h3
    · rw [show (4 : Int32) * nI d = nI (4 * d) from pk_mul 4 d, nI_add]
    · have h6 := h4.2 _ (z_day_mem (Z := Z) (d := d) h5)
      have h7 := hT.1
      rw [h.a 22, nI_eq (by omega) (by omega), nI_1]
      refine ⟨fun h8 => m_placeOf_L h hP hT hd ht k w (j + 1) v (by omega) (by omega) ?_, fun h8 => m_placeOf_L h hP hT hd ht k w (j + 1) (nI j) (by omega) (by omega) (Or.inr ⟨j, h5, rfl, h8⟩)⟩
      rcases h3 with ⟨e, h9⟩ | h9
      · refine Or.inl ⟨e, fun q hq => ?_⟩
        by_cases e2 : q = j
        · subst e2
          exact h8
        · exact h9 q (by omega)
      · exact Or.inr h9
theorem m_placeOf {Q : Int32 → zS → Prop} {d t : Nat} (h : RM ma Z m S) (hP : z_P Z) (hT : z_TT Z) (hd : d ≤ 60) (ht : t < 12) (k : ∀ v, (v = -1 ∧ ∀ k, k < Z 21 d → Z 22 (4 * d + k) ≠ t) ∨ (∃ k, k < Z 21 d ∧ v = nI k ∧ Z 22 (4 * d + k) = t) → Q v S) : p_X11_placeOf E m (nI d) (nI t) S Q X :=
  ⟨6, m_placeOf_L h hP hT hd ht k 6 0 (-1) (by omega) (by have := (hP d hd).1; omega) (Or.inl ⟨rfl, fun k hk => by omega⟩)⟩
theorem w1_inR {v : Int32} {lo hi : Nat} {Q : Int32 → zS → Prop} (hh : hi < 2 ^ 31) (hl : lo < 2 ^ 31) (k1 : ∀ j, lo ≤ j → j ≤ hi → v = nI j → Q 1 S) (k0 : (∀ j, lo ≤ j → j ≤ hi → v ≠ nI j) → Q 0 S) : p_X11_in E v (nI lo) (nI hi) S Q X := by
  refine w1_in (fun h1 h2 => ?_) (fun h => k0 (fun j hj hj2 e => h ?_))
  · obtain ⟨j, hj, rfl⟩ := nI_of (x := v) (fun h3 => by
      have h4 := Int32.le_iff_toInt_le.mp h1
      have h5 := Int32.lt_iff_toInt_lt.mp h3
      rw [nI_toInt hl] at h4
      have : (0 : Int32).toInt = 0 := by decide
      omega)
    exact k1 j ((nI_leI hl hj).mp h1) ((nI_leI hj hh).mp h2) rfl
  · rw [e]
    exact ⟨nI_le hj (by omega), nI_le hj2 hh⟩
theorem m_isDay {Q : Int32 → zS → Prop} {l : Int32} (h : RM ma Z m S) (hd : Z 20 0 ≤ 60) (k1 : ∀ d, Z 20 0 ≤ d → d ≤ 60 → l = nI d → Q 1 S) (k0 : (∀ d, Z 20 0 ≤ d → d ≤ 60 → l ≠ nI d) → Q 0 S) : p_X11_isDay E m l S Q X := by
  have e : gI S 1120 m = nI (Z 20 0) := h.i 20
  refine ⟨h.1, ?_⟩
  rw [e]
  exact w1_inR (hi := 60) (by omega) (by omega) (fun j a b c => ⟨Or.inr rfl, k1 j a b c⟩) (fun a => ⟨Or.inl rfl, k0 a⟩)
theorem m_bf_L26 {K : Nat → Int32 → Int32 → Int32 → zS → Prop} {Q : Int32 → zS → Prop} {d : Nat} {l2 : Int32} (h : RM ma Z m S) (hM : z_M Z) (hP : z_P Z) (hT : z_TT Z) (hd : d ≤ 60) (k : K m (nI d) l2 (nI (z_mx Z d (Z 21 d))) S) :
    ∀ (w j : Nat), j ≤ Z 21 d → Z 21 d < j + w → z_mx Z d j ≤ 6 → p_X11_bandFor_L26 E K Q X w m (nI d) l2 (nI (z_mx Z d j)) (nI j) S
  | 0, j, h1, h2, h3 => by omega
  | w + 1, j, h1, h2, h3 => by
    have h4 := hP d hd
    refine ⟨h.1, h.ij 21 d rfl (by show _ < 61; omega) ?_⟩
    rw [h.a 21]
    refine pk_le (Z 21 d) j (fun h5 => ?_) (fun h5 => h.ij 22 (4 * d + j) ?_ (by show _ < 244; omega) ?_)
    · have e : j = Z 21 d := by omega
      subst e
      exact k
    · rw [show (4 : Int32) * nI d = nI (4 * d) from pk_mul 4 d, nI_add]
    · have h6 := h4.2 _ (z_day_mem (Z := Z) (d := d) h5)
      have h7 := hT.2 _ h6
      have hN := z_T_N hM h7
      have e0 : z_mx Z d (j + 1) = if z_mx Z d j < z_st Z (Z 22 (4 * d + j)) then z_st Z (Z 22 (4 * d + j)) else z_mx Z d j := rfl
      unfold ro_N at hN
      rw [h.a 22]
      refine m_stageOf h hM h7.1 (z_T_x h7) ?_
      rw [nI_1]
      refine pk_le _ _ (fun h8 => ?_) (fun h8 => ?_)
      · have h9 := m_bf_L26 (Q := Q) h hM hP hT hd k w (j + 1) (by omega) (by omega) (by rw [e0]; split <;> omega)
        rw [e0, if_neg (by omega)] at h9
        exact h9
      · have h9 := m_bf_L26 (Q := Q) h hM hP hT hd k w (j + 1) (by omega) (by omega) (by rw [e0]; split <;> omega)
        rw [e0, if_pos (by omega)] at h9
        exact h9
/-- the first band by the places from k on -/
def z_bk (Z : zZ) (a mx : Nat) : Nat → Option Nat
  | 0 => none
  | k + 1 => if mx ≤ Z 24 ((a + (3 - k)) % 4) then some ((a + (3 - k)) % 4) else z_bk Z a mx k
theorem z_bk_bf (Z : zZ) (a mx : Nat) : z_bk Z a mx 4 = z_bf Z a mx := by
  unfold z_bf
  rw [show List.range 4 = [0, 1, 2, 3] from rfl]
  show (if mx ≤ Z 24 ((a + 0) % 4) then some ((a + 0) % 4) else if mx ≤ Z 24 ((a + 1) % 4) then some ((a + 1) % 4) else if mx ≤ Z 24 ((a + 2) % 4) then some ((a + 2) % 4) else if mx ≤ Z 24 ((a + 3) % 4) then some ((a + 3) % 4) else none) = _
  by_cases h0 : mx ≤ Z 24 ((a + 0) % 4)
  · rw [if_pos h0, List.find?_cons_of_pos (by simpa using h0)]; rfl
  · rw [if_neg h0, List.find?_cons_of_neg (by simpa using h0)]
    by_cases h1 : mx ≤ Z 24 ((a + 1) % 4)
    · rw [if_pos h1, List.find?_cons_of_pos (by simpa using h1)]; rfl
    · rw [if_neg h1, List.find?_cons_of_neg (by simpa using h1)]
      by_cases h2 : mx ≤ Z 24 ((a + 2) % 4)
      · rw [if_pos h2, List.find?_cons_of_pos (by simpa using h2)]; rfl
      · rw [if_neg h2, List.find?_cons_of_neg (by simpa using h2)]
        by_cases h3 : mx ≤ Z 24 ((a + 3) % 4)
        · rw [if_pos h3, List.find?_cons_of_pos (by simpa using h3)]; rfl
        · rw [if_neg h3, List.find?_cons_of_neg (by simpa using h3)]; rfl
theorem ri_rem4 {o : Nat} (h : o < 2 ^ 31) : (nI o - nI o / 4 * 4) = nI (o % 4) := pk_rem (d := 4) h (by decide) (by decide)
theorem m_bf_L79 {K : Nat → Int32 → Int32 → zS → Prop} {Q : Int32 → zS → Prop} {a mx : Nat} {l1 : Int32} (h : RM ma Z m S) (hR : z_R4 Z) (ha : a < 4) (hm : mx ≤ 6) (k : K m l1 (z_oi (z_bf Z a mx)) S) :
    ∀ (w j : Nat), j ≤ 4 → j < w → p_X11_bandFor_L79 E K Q X w m l1 (nI a) (nI mx) (z_oi (z_bk Z a mx (4 - j))) (nI j + (-1)) S
  | 0, j, h1, h2 => by omega
  | w + 1, 0, h1, h2 => by
    refine ⟨fun _ => ?_, fun h9 => absurd (by decide) h9⟩
    rw [show 4 - 0 = 4 by rfl, z_bk_bf]
    exact k
  | w + 1, j + 1, h1, h2 => by
    rw [pk_m1]
    have hb := hR.1 ((a + j) % 4) (by omega)
    have e1 : 4 - (j + 1) = 3 - j := by omega
    have e2 : 4 - j = (3 - j) + 1 := by omega
    have e3 : 3 - (3 - j) = j := by omega
    refine ⟨fun h9 => absurd h9 (nI_pos (by omega)), fun _ => ⟨h.1, ?_⟩⟩
    have h5 := m_bf_L79 (Q := Q) h hR ha hm k w j (by omega) (by omega)
    rw [e2] at h5
    unfold z_bk at h5
    rw [e3] at h5
    rw [nI_add, ri_rem4 (by omega), e1]
    refine h.ij 24 ((a + j) % 4) rfl (by show _ < 4; omega) ?_
    rw [h.a 24]
    refine pk_lt _ _ (fun h6 => ?_) (fun h6 => ?_)
    · rw [if_neg (by omega)] at h5
      exact h5
    · rw [if_pos (by omega)] at h5
      exact h5
theorem m_bandFor {Q : Int32 → zS → Prop} {d a : Nat} (h : RM ma Z m S) (hM : z_M Z) (hP : z_P Z) (hT : z_TT Z) (hR : z_R4 Z) (hd : d ≤ 60) (hd2 : Z 20 0 ≤ 60) (ha : a < 4) (k : Q (z_oi (z_bd Z d a)) S) : p_X11_bandFor E m (nI d) (nI a) S Q X := by
  have e20 : gI S 1120 m = nI (Z 20 0) := h.i 20
  have e26 : gI S 1126 m = nI (Z 26 0) := h.i 26
  have hmx : z_mx Z d (Z 21 d) ≤ 6 := by
    have : ∀ j, j ≤ Z 21 d → z_mx Z d j ≤ 6 := by
      intro j
      induction j with
      | zero => intro _; exact Nat.zero_le _
      | succ j ih =>
        intro hj
        have hN := z_T_N hM (hT.2 _ ((hP d hd).2 _ (z_day_mem (Z := Z) (d := d) (k := j) (by omega))))
        unfold ro_N at hN
        have := ih (by omega)
        show (if _ then _ else _) ≤ 6
        split <;> omega
    exact this _ (Nat.le_refl _)
  have J : (¬ (d = Z 20 0 ∧ ¬ nI (Z 26 0) = -1)) → p_X11_bandFor_J21 E Q X m (nI d) (nI a) S := by
    intro hn
    unfold z_bd at k
    rw [if_neg hn] at k
    refine ⟨6, m_bf_L26 h hM hP hT hd ⟨5, ?_⟩ 6 0 (by omega) (by have := (hP d hd).1; omega) (Nat.zero_le _)⟩
    refine m_bf_L79 h hR ha hmx ⟨h.1, h.ij 21 d rfl (by show _ < 61; omega) ?_⟩ 5 4 (by omega) (by omega)
    have h4 := (hP d hd).1
    have ez : nI (Z 21 d) = 0 ↔ Z 21 d = 0 := nI_eq (b := 0) (by omega) (by omega)
    rw [h.a 21, ez]
    refine ⟨fun h5 => ?_, fun h5 => ?_⟩
    · rw [if_neg h5] at k
      exact k
    · rw [if_pos h5] at k
      exact k
  refine ⟨h.1, ?_⟩
  rw [e20, e26, nI_eq (by omega) (by omega)]
  refine ⟨fun h1 => J (fun h2 => h1 h2.1), fun h1 => ⟨fun h2 => J (fun h3 => h3.2 h2), fun h2 => ?_⟩⟩
  unfold z_bd at k
  rw [if_pos ⟨h1, h2⟩] at k
  exact k
theorem m_bandOf_L {K : Int32 → zS → Prop} {Q : Int32 → zS → Prop} {d : Nat} (h : RM ma Z m S) (hM : z_M Z) (hP : z_P Z) (hT : z_TT Z) (hR : z_R4 Z) (hd : d ≤ 60) (hd2 : Z 20 0 ≤ d) (k : K (z_oi (z_bo Z (d - Z 20 0 + 1)).2) S) :
    ∀ (w j : Nat), Z 20 0 + j ≤ d + 1 → d + 1 < Z 20 0 + j + w → p_X11_bandOf_L13 E K Q X w m (nI d) (nI (z_bo Z j).1) (z_oi (z_bo Z j).2) (nI (Z 20 0 + j)) S
  | 0, j, h1, h2 => by omega
  | w + 1, j, h1, h2 => by
    refine pk_lt d (Z 20 0 + j) (fun h5 => ?_) (fun h5 => ⟨h.1, m_bandFor h hM hP hT hR (by omega) (by omega) (z_bo_lt hR j) ?_⟩)
    · rw [show d - Z 20 0 + 1 = j by omega] at k
      exact k
    · have h6 := m_bandOf_L (Q := Q) h hM hP hT hR hd hd2 k w (j + 1) (by omega) (by omega)
      have e1 : (z_bo Z (j + 1)).2 = z_bd Z (Z 20 0 + j) (z_bo Z j).1 := rfl
      have e2 : (z_bo Z (j + 1)).1 = z_tb (z_bd Z (Z 20 0 + j) (z_bo Z j).1) (z_bo Z j).1 := rfl
      rw [e1, e2] at h6
      rw [nI_1]
      cases hb : z_bd Z (Z 20 0 + j) (z_bo Z j).1 with
      | none =>
        rw [hb] at h6
        exact ⟨fun h9 => absurd rfl h9, fun _ => h6⟩
      | some b =>
        rw [hb] at h6
        have h7 := z_bd_lt hR hb
        refine ⟨fun _ => ?_, fun h9 => absurd h9 (z_oi_n (by omega))⟩
        show p_X11_bandOf_L13 E K Q X w m (nI d) ((nI b + 1) - (nI b + 1) / 4 * 4) (nI b) (nI (Z 20 0 + j + 1)) S
        rw [nI_1, ri_rem4 (by omega)]
        exact h6
def z_ba (Z : zZ) (d : Nat) : Option Nat := (z_bo Z (d - Z 20 0 + 1)).2
theorem m_bandOf {Q : Int32 → zS → Prop} {d : Nat} (h : RM ma Z m S) (hM : z_M Z) (hP : z_P Z) (hT : z_TT Z) (hR : z_R4 Z) (hd : d ≤ 60) (hd2 : Z 20 0 ≤ d) (k : Q (z_oi (z_ba Z d)) S) : p_X11_bandOf E m (nI d) S Q X := by
  have e20 : gI S 1120 m = nI (Z 20 0) := h.i 20
  have e25 : gI S 1125 m = nI (Z 25 0) := h.i 25
  refine ⟨h.1, 63, ?_⟩
  rw [e20, e25]
  exact m_bandOf_L h hM hP hT hR hd hd2 k 63 0 (by omega) (by omega)
end MI
