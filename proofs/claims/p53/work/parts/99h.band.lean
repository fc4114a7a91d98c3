/-! the band of a day -/
section LB
variable {E : zE} {aa : Nat → Nat} {L Z : zZ} {S : zS} {X : String → zS → Prop}
def lbf (Z : zZ) (a mx : Nat) : Nat → Nat → Option Nat
  | 0, _ => none
  | w + 1, k => if mx ≤ Z 24 ((a + k) % 4) then some ((a + k) % 4) else lbf Z a mx w (k + 1)
theorem lbf_bf (a mx : Nat) : lbf Z a mx 4 0 = z_bf Z a mx := by
  unfold z_bf
  rw [show List.range 4 = [0, 1, 2, 3] from rfl]
  unfold lbf
  by_cases h0 : mx ≤ Z 24 ((a + 0) % 4)
  · rw [if_pos h0, List.find?_cons_of_pos (by simpa using h0)]
    rfl
  · rw [if_neg h0, List.find?_cons_of_neg (by simpa using h0)]
    unfold lbf
    by_cases h1 : mx ≤ Z 24 ((a + (0 + 1)) % 4)
    · rw [if_pos h1, List.find?_cons_of_pos (by simpa using h1)]
      rfl
    · rw [if_neg h1, List.find?_cons_of_neg (by simpa using h1)]
      unfold lbf
      by_cases h2 : mx ≤ Z 24 ((a + (0 + 1 + 1)) % 4)
      · rw [if_pos h2, List.find?_cons_of_pos (by simpa using h2)]
        rfl
      · rw [if_neg h2, List.find?_cons_of_neg (by simpa using h2)]
        unfold lbf
        by_cases h3 : mx ≤ Z 24 ((a + (0 + 1 + 1 + 1)) % 4)
        · rw [if_pos h3, List.find?_cons_of_pos (by simpa using h3)]
          rfl
        · rw [if_neg h3, List.find?_cons_of_neg (by simpa using h3)]
          rfl
theorem z_mx_b (hM : z_M Z) (hT : z_TT Z) (hP : z_P Z) {d : Nat} (hd : d ≤ 60) : ∀ j, j ≤ Z 21 d → z_mx Z d j ≤ 6 ∧ (0 < j → 4 ≤ z_mx Z d j)
  | 0, _ => ⟨Nat.zero_le _, fun h => absurd h (Nat.lt_irrefl 0)⟩
  | j + 1, hj => by
    have hN := ro_N6 (z_T_N hM (hT.2 _ ((hP d hd).2 _ (z_day_mem (Z := Z) (d := d) (k := j) (by omega)))))
    have := z_mx_b hM hT hP hd j (by omega)
    show (if _ then _ else _) ≤ 6 ∧ (_ → 4 ≤ (if _ then _ else _))
    split
    · exact ⟨hN.1, fun _ => hN.2⟩
    · rename_i h
      exact ⟨this.1, fun _ => by omega⟩
theorem l_band_L28 {K : Nat → Nat → Nat → Nat → Nat → Int32 → Int32 → Int32 → Int32 → zS → Prop} {Q : Int32 → zS → Prop} {d : Nat} {l5 l6 : Int32} (h : RA aa L S) (hz : LZ L Z) (hM : z_M Z) (hT : z_TT Z) (hP : z_P Z) (h1 : Z 20 0 ≤ d) (h2 : d ≤ 60) (k : K (aa 0) (aa 1) (aa 2) (aa 5) (aa 10) l5 l6 (nI d) (nI (z_mx Z d (Z 21 d))) S) :
    ∀ (w j : Nat), j ≤ Z 21 d → Z 21 d < j + w → p_L_band_L28 E K Q X w (aa 0) (aa 1) (aa 2) (aa 5) (aa 10) l5 l6 (nI d) (nI (z_mx Z d j)) (nI j) S
  | 0, j, h3, h4 => by omega
  | w + 1, j, h3, h4 => by
    have b10 : Z 10 0 ≤ 4 := hz.T.2.1
    have hp := hP d h2
    have hp' := hp
    rw [← z_day_len Z] at hp
    have ep : L 2 d = lpd (z_day Z d) := hz.P d h1 h2
    have h44 : ∀ t, t ∈ z_day Z d → t < 4 := fun t ht => by have := hp.2 t ht; omega
    have hl := lpd_lt h44 hp.1
    refine ⟨h.o 2, h.ix 2 d rfl (by show _ < 61; omega) ?_⟩
    rw [h.a 2, ep, (li_and (by omega)).1, (lpd8 hp.1).1, z_day_len]
    have h4 := hp'.1
    refine pk_le (Z 21 d) j (fun h6 => ?_) (fun h6 => h.ix 2 d rfl (by show _ < 61; omega) ?_)
    · have : j = Z 21 d := by omega
      subst this
      exact k
    · have hg : (z_day Z d)[j]? = some (Z 22 (4 * d + j)) := by rw [z_day_get, if_pos h6]
      have ht := hp.2 _ (List.mem_of_getElem? hg)
      rw [h.a 2, ep, lpd_at h44 hp.1 hg]
      refine l_stageIn h hz hM hT ht ?_
      have ih := l_band_L28 (Q := Q) h hz hM hT hP h1 h2 k w (j + 1) (by omega) (by omega)
      have em : z_mx Z d (j + 1) = if z_mx Z d j < z_st Z (Z 22 (4 * d + j)) then z_st Z (Z 22 (4 * d + j)) else z_mx Z d j := rfl
      have bm := (z_mx_b hM hT hP h2 j (by omega)).1
      have bs := ro_N6 (z_T_N hM (hT.2 _ ht))
      rw [em] at ih
      rw [nI_1]
      refine pk_le _ _ (fun h7 => ?_) (fun h7 => ?_)
      · rw [if_neg (by omega)] at ih
        exact ih
      · rw [if_pos h7] at ih
        exact ih
theorem l_band_L88 {K : Nat → Nat → Nat → Nat → Nat → Int32 → Int32 → Int32 → Int32 → zS → Prop} {Q : Int32 → zS → Prop} {a mx : Nat} {l5 l8 : Int32} (h : RA aa L S) (hz : LZ L Z) (hR : z_R4 Z) (ha : a < 4) (h0 : 0 < mx) (h6 : mx ≤ 6) :
    ∀ (w j : Nat), j + w = 4 → K (aa 0) (aa 1) (aa 2) (aa 5) (aa 10) l5 (nI a) (z_oi (lbf Z a mx w j)) l8 S → p_L_band_L88 E K Q X (w + 1) (aa 0) (aa 1) (aa 2) (aa 5) (aa 10) l5 (nI a) (-1) l8 (nI mx) (nI j) S
  | 0, j, h1, k => pk_le 4 j (fun _ => k) (fun h => by omega)
  | w + 1, j, h1, k => by
    refine pk_le 4 j (fun h => by omega) (fun h5 => pk_le mx 0 (fun h => by omega) (fun _ => ⟨fun x => absurd x (by decide), fun _ => ⟨h.o 5, ?_⟩⟩))
    have e : (nI a + nI j) - (nI a + nI j) / 4 * 4 = nI ((a + j) % 4) := by rw [nI_add]; exact ri_rem4 (by omega)
    have hb := hR.1 ((a + j) % 4) (by omega)
    have e5 : L 5 ((a + j) % 4) = Z 24 ((a + j) % 4) := hz.D _ (by omega)
    refine h.ix 5 ((a + j) % 4) e (by show _ < 4; omega) ?_
    rw [h.a 5, e5, e, nI_1]
    unfold lbf at k
    refine pk_lt _ _ (fun h7 => ?_) (fun h7 => ?_)
    · rw [if_neg (by omega)] at k
      exact l_band_L88 h hz hR ha h0 h6 w (j + 1) (by omega) k
    · rw [if_pos h7] at k
      refine pk_le 4 (j + 1) (fun _ => k) (fun _ => pk_le mx 0 (fun h => by omega) (fun _ => ⟨fun _ => k, fun x => absurd (nI_n0 (by omega)) x⟩))
theorem l_band_1 {B : Nat → Nat → Nat → Nat → Nat → Int32 → Int32 → Int32 → Int32 → zS → Prop} {Q : Int32 → zS → Prop} {d a : Nat} {l5 : Int32} (h : RA aa L S) (hz : LZ L Z) (hM : z_M Z) (hT : z_TT Z) (hP : z_P Z) (hR : z_R4 Z) (h1 : Z 20 0 ≤ d) (h2 : d ≤ 60) (ha : a < 4) (k : B (aa 0) (aa 1) (aa 2) (aa 5) (aa 10) l5 (nI (z_tb (z_bd Z d a) a)) (z_oi (z_bd Z d a)) (nI (d + 1)) S) :
    p_L_band_L28 E (fun (a0 : Nat) (a1 : Nat) (a2 : Nat) (a3 : Nat) (a4 : Nat) (l5 : Int32) (l6 : Int32) (l8 : Int32) (l9 : Int32) (S : zS) => ∃ m88, p_L_band_L88 E (fun (a0 : Nat) (a1 : Nat) (a2 : Nat) (a3 : Nat) (a4 : Nat) (l5 : Int32) (l6 : Int32) (l7 : Int32) (l8 : Int32) (S : zS) => p_L_band_J133 E B Q X a0 a1 a2 a3 a4 l5 l6 l7 l8 S) Q X m88 a0 a1 a2 a3 a4 l5 l6 (-1) l8 l9 0 S) Q X 5 (aa 0) (aa 1) (aa 2) (aa 5) (aa 10) l5 (nI a) (nI d) 0 0 S := by
  have h4 := (hP d h2).1
  have g2 : L 10 2 = Z 20 0 := hz.G.1
  have fin : ∀ o : Option Nat, (∀ b, o = some b → b < 4) → ((d = Z 20 0 ∧ ¬ nI (Z 26 0) = -1) ∨ z_bd Z d a = o) → p_L_band_J133 E B Q X (aa 0) (aa 1) (aa 2) (aa 5) (aa 10) l5 (nI a) (z_oi o) (nI d) S := by
    intro o ho hd
    have plain : z_bd Z d a = o → (((0 ≤ z_oi o) → B (aa 0) (aa 1) (aa 2) (aa 5) (aa 10) l5 ((z_oi o + 1) - (z_oi o + 1) / 4 * 4) (z_oi o) (nI d + 1) S) ∧ ((¬ 0 ≤ z_oi o) → B (aa 0) (aa 1) (aa 2) (aa 5) (aa 10) l5 (nI a) (z_oi o) (nI d + 1) S)) := by
      intro e
      rw [e] at k
      rw [nI_1]
      cases o with
      | none => exact ⟨fun x => absurd x (by decide), fun _ => k⟩
      | some b =>
        have b4 := ho b rfl
        refine ⟨fun _ => ?_, fun x => absurd (nI_n0 (by omega)) x⟩
        show B _ _ _ _ _ l5 ((nI b + 1) - (nI b + 1) / 4 * 4) (nI b) _ S
        rw [nI_1, ri_rem4 (by omega)]
        exact k
    refine ⟨h.o 10, h.i0 10 2, ?_⟩
    rw [h.a 10, g2, nI_eq (by omega) (by omega)]
    refine ⟨fun x => plain (hd.resolve_left (fun y => x y.1)), fun x => ⟨h.i0 10 5, ?_⟩⟩
    have g5 := hz.G.2.2.2.1
    rw [h.a 10]
    rcases g5 with ⟨e5, e26⟩ | ⟨e5, e26⟩
    · rw [e5]
      exact ⟨fun _ => plain (hd.resolve_left (fun y => y.2 e26)), fun y => absurd (by decide) y⟩
    · have n26 : ¬ nI (Z 26 0) = -1 := z_oi_n (by omega)
      have eb : z_bd Z d a = some (Z 26 0) := by
        unfold z_bd
        rw [if_pos ⟨x, n26⟩]
      rw [eb] at k
      rw [e5]
      refine pk_le (Z 26 0 + 1) 0 (fun y => by omega) (fun _ => ⟨h.i0 10 5, ?_⟩)
      rw [show (nI (Z 26 0 + 1) - 1 : Int32) = nI (Z 26 0) from by rw [show (nI (Z 26 0 + 1) - 1 : Int32) = nI (Z 26 0 + 1 - 1) from pk_sub (b := 1) (by omega), Nat.add_sub_cancel], nI_1, nI_1]
      refine ⟨fun _ y hy => ?_, fun y => absurd (nI_n0 (by omega)) y⟩
      rw [ri_rem4 (by omega)] at hy
      rw [hy]
      exact k
  refine l_band_L28 h hz hM hT hP h1 h2 ?_ 5 0 (Nat.zero_le _) (by omega)
  have bm0 := (z_mx_b hM hT hP h2 (Z 21 d) (Nat.le_refl _)).1
  by_cases e0 : Z 21 d = 0
  · refine ⟨5, pk_le 4 0 (fun h => by omega) (fun _ => pk_le (z_mx Z d (Z 21 d)) 0 (fun _ => ?_) (fun x => ?_))⟩
    · refine fin none (fun b hb => by cases hb) ?_
      by_cases c : d = Z 20 0 ∧ ¬ nI (Z 26 0) = -1
      · exact Or.inl c
      · right
        unfold z_bd
        rw [if_neg c, if_pos e0]
    · rw [e0] at x
      exact absurd x (Nat.lt_irrefl 0)
  · have bm := z_mx_b hM hT hP h2 (Z 21 d) (Nat.le_refl _)
    have b4 := bm.2 (by omega)
    refine ⟨5, l_band_L88 h hz hR ha (by omega) bm.1 4 0 rfl ?_⟩
    rw [lbf_bf]
    refine fin _ (fun b hb => z_bf_lt hb) ?_
    by_cases c : d = Z 20 0 ∧ ¬ nI (Z 26 0) = -1
    · exact Or.inl c
    · right
      unfold z_bd
      rw [if_neg c, if_neg e0]
theorem l_band_L15 {K Q : Int32 → zS → Prop} {d : Nat} (h : RA aa L S) (hz : LZ L Z) (hM : z_M Z) (hT : z_TT Z) (hP : z_P Z) (hR : z_R4 Z) (h1 : Z 20 0 ≤ d) (h2 : d ≤ 60) (k : K (z_oi (z_ba Z d)) S) :
    ∀ (w j : Nat), Z 20 0 + j ≤ d + 1 → d + 1 < Z 20 0 + j + w → p_L_band_L15 E K Q X w (aa 0) (aa 1) (aa 2) (aa 5) (aa 10) (nI d) (nI (z_bo Z j).1) (z_oi (z_bo Z j).2) (nI (Z 20 0 + j)) S
  | 0, j, h3, h4 => by omega
  | w + 1, j, h3, h4 => by
    refine pk_lt d (Z 20 0 + j) (fun h5 => ?_) (fun h5 => ⟨5, l_band_1 h hz hM hT hP hR (by omega) (by omega) (z_bo_lt hR j) ?_⟩)
    · unfold z_ba at k
      rw [show d - Z 20 0 + 1 = j by omega] at k
      exact k
    · exact l_band_L15 h hz hM hT hP hR h1 h2 k w (j + 1) (by omega) (by omega)
theorem l_band {Q : Int32 → zS → Prop} {d : Nat} (h : RA aa L S) (hz : LZ L Z) (hM : z_M Z) (hT : z_TT Z) (hP : z_P Z) (hR : z_R4 Z) (h1 : Z 20 0 ≤ d) (h2 : d ≤ 60) (k : Q (z_oi (z_ba Z d)) S) : p_L_band E (aa 0) (aa 1) (aa 2) (aa 5) (aa 10) (nI d) S Q X := by
  have g2 : L 10 2 = Z 20 0 := hz.G.1
  have g4 : L 10 4 = Z 25 0 := hz.G.2.2.1
  refine ⟨h.o 10, h.i0 10 4, h.i0 10 2, 63, ?_⟩
  rw [h.a 10 4, h.a 10 2, g2, g4]
  exact l_band_L15 h hz hM hT hP hR h1 h2 k 63 0 (by omega) (by omega)
end LB
