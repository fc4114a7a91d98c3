/-! codes of touches, the rows that are laid -/
theorem li_shr {c s : Nat} {x : Int32} (hc : c < 2 ^ 31) (hs : s < 32) (hx : x = nI s) : nI c >>> (x &&& 31) = nI (c / 2 ^ s) := by
  subst hx
  exact pk_shrN hc _ s (ri_c s hs)
theorem li_34 (k : Nat) : (3 : Int32) + 4 * nI k = nI (3 + 4 * k) := by rw [show (4 : Int32) * nI k = nI (4 * k) from pk_mul 4 k]; exact nI_add 3 _
theorem li_54 (k : Nat) : (5 : Int32) + 4 * nI k = nI (5 + 4 * k) := by rw [show (4 : Int32) * nI k = nI (4 * k) from pk_mul 4 k]; exact nI_add 5 _
theorem li_32 (k : Nat) : (3 : Int32) + 2 * nI k = nI (3 + 2 * k) := by rw [show (2 : Int32) * nI k = nI (2 * k) from pk_mul 2 k]; exact nI_add 3 _
theorem li_and {n : Nat} (h : n < 2 ^ 31) : nI n &&& 7 = nI (n % 8) ∧ nI n &&& 3 = nI (n % 4) ∧ nI n &&& 1 = nI (n % 2) := ⟨pk_andN (by omega) 3 (by decide), pk_andN (by omega) 2 (by decide), pk_andN (by omega) 1 (by decide)⟩
def lz_cd (N : Nat) (mm cc : Nat → Nat) : Nat := N + 8 * pk_b 16 (lz_tk mm cc) N
theorem lz_cd_lt {N : Nat} {mm cc : Nat → Nat} (hN : N ≤ 4) (h : ∀ k, k < N → mm k < 4 ∧ cc k < 4) : lz_cd N mm cc < 2 ^ 20 := by
  have h1 : pk_b 16 (lz_tk mm cc) N < 16 ^ N := pk_b_lt (by decide) (fun p hp => by have := h p hp; unfold lz_tk; omega)
  have h2 : 16 ^ N ≤ 16 ^ 4 := Nat.pow_le_pow_right (by decide) hN
  unfold lz_cd
  omega
theorem lz_cd_at {N k : Nat} {mm cc : Nat → Nat} (hN : N ≤ 4) (h : ∀ k, k < N → mm k < 4 ∧ cc k < 4) (hk : k < N) : lz_cd N mm cc / 2 ^ (3 + 4 * k) % 4 = mm k ∧ lz_cd N mm cc / 2 ^ (5 + 4 * k) % 4 = cc k := by
  have h1 : pk_b 16 (lz_tk mm cc) N / 16 ^ k % 16 = mm k + 4 * cc k := pk_b_at (f := lz_tk mm cc) (by decide) (fun p hp => by have := h p hp; unfold lz_tk; omega) k hk
  have h2 := h k hk
  have e1 : lz_cd N mm cc / 2 ^ (3 + 4 * k) = pk_b 16 (lz_tk mm cc) N / 16 ^ k := by
    rw [Nat.pow_add, Nat.pow_mul, ← Nat.div_div_eq_div_mul]
    unfold lz_cd
    rw [show (N + 8 * pk_b 16 (lz_tk mm cc) N) / 2 ^ 3 = pk_b 16 (lz_tk mm cc) N by omega]
  have e2 : lz_cd N mm cc / 2 ^ (5 + 4 * k) = pk_b 16 (lz_tk mm cc) N / 16 ^ k / 4 := by
    rw [show 5 + 4 * k = 3 + 4 * k + 2 by omega, Nat.pow_add 2 (3 + 4 * k), ← Nat.div_div_eq_div_mul, e1]
  rw [e1, e2]
  omega
theorem lz_cd8 {N : Nat} {mm cc : Nat → Nat} (hN : N ≤ 4) : lz_cd N mm cc % 8 = N := by
  unfold lz_cd
  omega
def sr (L : zZ) (f : Nat → Nat) : zZ := fun k => if k = 9 then f else L k
theorem sr_up (L : zZ) (f : Nat → Nat) (i v : Nat) : up (sr L f) 9 i v = sr L (fun j => if j = i then v else f j) := by
  funext g j
  unfold up sr
  by_cases e : g = 9
  · rw [if_pos e, if_pos e]
    by_cases e2 : j = i
    · rw [if_pos ⟨e, e2⟩, if_pos e2]
    · rw [if_neg (fun x => e2 x.2), if_neg e2]
  · rw [if_neg (fun x => e x.1), if_neg e, if_neg e]
theorem sr_0 (L : zZ) : sr L (L 9) = L := by
  funext g j
  unfold sr
  split
  · rename_i h
    rw [h]
  · rfl
theorem sr_sr (L : zZ) (f f' : Nat → Nat) : sr (sr L f) f' = sr L f' := by
  funext g j
  unfold sr
  split <;> rfl
theorem LZ.sr {L Z : zZ} {f : Nat → Nat} (h : LZ L Z) : LZ (sr L f) Z := h
/-- rows by places that are laid -/
def lz_W (n : Nat) (f : Nat → Nat) (cs : List Nat) : Prop := ∀ i x, (ro_ws n (ro_rnd n) cs)[i]? = some x → f i = iv n x
theorem lz_W_up {n c : Nat} {f : Nat → Nat} {cs : List Nat} (h : lz_W n f cs) : lz_W n (fun j => if j = cs.length then iv n (ro_af n c (ro_la n (ro_rnd n) cs)) else f j) (cs ++ [c]) := by
  intro i x hx
  rw [ro_ws_1] at hx
  by_cases e : i < cs.length
  · rw [List.getElem?_append_left (by rw [ro_ws_len]; exact e)] at hx
    show (if i = cs.length then _ else f i) = _
    rw [if_neg (by omega)]
    exact h i x hx
  · rw [List.getElem?_append_right (by rw [ro_ws_len]; omega), ro_ws_len] at hx
    have e2 : i - cs.length = 0 := by
      by_cases e3 : i - cs.length = 0
      · exact e3
      · rw [List.getElem?_eq_none (by show 1 ≤ _; omega)] at hx
        exact absurd hx (by simp)
    rw [e2] at hx
    show (if i = cs.length then _ else f i) = _
    rw [if_pos (by omega)]
    have : ro_af n c (ro_la n (ro_rnd n) cs) = x := by simpa using hx
    rw [this]
theorem z_tcG_4 {Z : zZ} {mm cc : Nat → Nat} : ∀ k, (∀ j, j < k → Z 5 (mm j) ≤ 4) → (z_tcG Z mm cc k).length ≤ 4 * k
  | 0, _ => Nat.le_refl _
  | k + 1, h => by
    have h1 := z_tcG_4 (Z := Z) (mm := mm) (cc := cc) k (fun j hj => h j (by omega))
    have h2 := h k (by omega)
    rw [z_tcG_s]
    omega
section LY
variable {E : zE} {aa : Nat → Nat} {L Z : zZ} {S : zS} {X : String → zS → Prop}
theorem l_stageIn {Q : Int32 → zS → Prop} {t : Nat} (h : RA aa L S) (hz : LZ L Z) (hM : z_M Z) (hT : z_TT Z) (ht : t < Z 10 0) (k : Q (nI (z_st Z t)) S) : p_L_stageIn E (aa 0) (aa 1) (nI t) S Q X := by
  have zT := hz.T
  have b10 : Z 10 0 ≤ 4 := zT.2.1
  have zM := hz.M
  have b3 : Z 3 0 ≤ 3 := zM.2.1
  have hx := hT.2 t ht
  have h0 := hx.2.2.2 0 (by have := hx.2.1; omega)
  have e1 := zT.2.2 t ht
  have hm : z_mt Z t 0 < Z 3 0 := h0.1
  have hcd : ∀ k, k < Z 11 t → z_mt Z t k < 4 ∧ z_cl Z t k < 4 := fun k hk => by
    have a := (hx.2.2.2 k hk).1
    have b : z_cl Z t k < 3 := Nat.mod_lt _ (by decide)
    omega
  have ec : L 1 t = lz_cd (Z 11 t) (z_mt Z t) (z_cl Z t) := e1.2
  have hl := lz_cd_lt e1.1 hcd
  have ha := lz_cd_at e1.1 hcd (k := 0) (by have := hx.2.1; omega)
  have hd := Nat.div_le_self (lz_cd (Z 11 t) (z_mt Z t) (z_cl Z t)) (2 ^ 3)
  refine ⟨h.o 1, h.ix 1 t rfl (by show _ < 4; omega) ⟨h.o 0, h.ix 0 (z_mt Z t 0) ?_ (by show _ < 3; omega) ?_⟩⟩
  · rw [h.a 1, ec, li_shr (by omega) (by decide) (show (3 : Int32) = nI 3 from rfl), (li_and (by omega)).2.1]
    exact congrArg nI ha.1
  · have zi := zM.2.2 (z_mt Z t 0) hm
    rw [h.j 0, zi.2]
    exact l_stageOf hM hm zi.1 k
theorem l_lay_L46 {K : Nat → Int32 → Nat → Int32 → Int32 → Int32 → zS → Prop} {Q : Int32 → zS → Prop} {i c n q : Nat} {l1 : Int32} {p0 : List Nat} (hM : z_M Z) (hi : i < Z 3 0) (h5 : Z 5 i ≤ 4) (hc : c < 3) (hn : Z 4 i = n) (hp : ∀ x, x ∈ p0 → ro_isC n x = true) (hp2 : p0.length ≤ 12) (el : (l1 >>> (((5 : Int32) + 4 * nI q) &&& 31)) &&& 3 = nI c)
    (k : ∀ f S', RA aa (sr L f) S' → lz_W n f (p0 ++ z_lc Z i c) → K (aa 0) l1 (aa 9) (nI (p0 ++ z_lc Z i c).length) (nI (iv n (ro_la n (ro_rnd n) (p0 ++ z_lc Z i c)))) (nI q) S') :
    ∀ (w j : Nat) (f : Nat → Nat) (S : zS), RA aa (sr L f) S → j ≤ Z 5 i → Z 5 i < j + w → lz_W n f (p0 ++ (List.range j).map (z_ch Z i c)) → p_L_lay_L46 E K Q X w (aa 0) l1 (aa 9) (nI (p0.length + j)) (nI (iv n (ro_la n (ro_rnd n) (p0 ++ (List.range j).map (z_ch Z i c))))) (nI q) (lN (lz_m Z i)) (nI j) S
  | 0, j, f, S, h, h1, h2, h3 => by omega
  | w + 1, j, f, S, h, h1, h2, h3 => by
    subst hn
    have hN := (hM.2 i hi).1
    have hlen : (p0 ++ (List.range j).map (z_ch Z i c)).length = p0.length + j := by rw [List.length_append, List.length_map, List.length_range]
    refine l_size hM hi h5 (pk_le (Z 5 i) j (fun h4 => ?_) (fun h4 => ?_))
    · have : j = Z 5 i := by omega
      subst this
      rw [← hlen]
      exact k f S h h3
    · have hC := z_M_ch hM hi hc h4
      have hV := ro_la_V hN (p0 ++ (List.range j).map (z_ch Z i c)) _ (ro_V_rnd hN).1 (fun x hx => by
        rcases List.mem_append.mp hx with e | e
        · exact hp x e
        · obtain ⟨k2, hk2, e6⟩ := List.mem_map.mp e
          rw [← e6]
          exact z_M_ch hM hi hc (by have := List.mem_range.mp hk2; omega))
      refine l_stageOf hM hi h5 ?_
      rw [el]
      refine l_its hM hi h5 hc h4 (l_changed hN hV hC (isC_64 hN hC) ⟨h.o 9, h.ix 9 (p0.length + j) rfl (by show _ < 16; omega) ?_⟩)
      refine h.wA 9 (p0.length + j) _ rfl (fun S1 g1 => ?_)
      rw [sr_up] at g1
      have hu := lz_W_up (c := z_ch Z i c j) h3
      rw [hlen] at hu
      have e9 : p0 ++ (List.range (j + 1)).map (z_ch Z i c) = (p0 ++ (List.range j).map (z_ch Z i c)) ++ [z_ch Z i c j] := by
        rw [List.range_succ, List.map_append, ← List.append_assoc]
        rfl
      have ih := l_lay_L46 (Q := Q) hM hi h5 hc rfl hp hp2 el k w (j + 1) _ S1 g1 (by omega) (by omega) (by rw [e9]; exact hu)
      rw [e9, ro_la_1] at ih
      rw [nI_1, nI_1]
      exact ih
theorem l_lay_L20 {K Q : Int32 → zS → Prop} {n N co : Nat} {mm cc : Nat → Nat} (hz : LZ L Z) (hM : z_M Z) (hL : z_LD Z mm cc n N) (h4 : N ≤ 4) (ec : co = lz_cd N mm cc)
    (k : ∀ f S', RA aa (sr L f) S' → lz_W n f (z_tcG Z mm cc N) → K (nI (z_tcG Z mm cc N).length) S') :
    ∀ (w q : Nat) (f : Nat → Nat) (S : zS), RA aa (sr L f) S → q ≤ N → N < q + w → lz_W n f (z_tcG Z mm cc q) → p_L_lay_L20 E K Q X w (aa 0) (nI co) (aa 9) (nI (z_tcG Z mm cc q).length) (nI (iv n (ro_la n (ro_rnd n) (z_tcG Z mm cc q)))) (nI q) S
  | 0, q, f, S, h, h1, h2, h3 => by omega
  | w + 1, q, f, S, h, h1, h2, h3 => by
    have zM := hz.M
    have b3 : Z 3 0 ≤ 3 := zM.2.1
    have hcd : ∀ k, k < N → mm k < 4 ∧ cc k < 4 := fun k hk => by
      have a := hL.2.2 k hk
      omega
    have hl := lz_cd_lt h4 hcd
    have e8 := lz_cd8 (mm := mm) (cc := cc) h4
    have t := z_tcG_ok hM hL q h1
    unfold p_L_lay_L20
    rw [(li_and (n := co) (by omega)).1, ec, e8]
    refine pk_le N q (fun h5 => ?_) (fun h5 => ⟨h.o 0, ?_⟩)
    · have : q = N := by omega
      subst this
      exact k f S h h3
    · have hq := hL.2.2 q h5
      have ha := lz_cd_at h4 hcd h5
      have hd := Nat.div_le_self (lz_cd N mm cc) (2 ^ (3 + 4 * q))
      have hd2 := Nat.div_le_self (lz_cd N mm cc) (2 ^ (5 + 4 * q))
      have l4 := z_tcG_4 (Z := Z) (mm := mm) (cc := cc) q (fun j hj => (zM.2.2 _ (hL.2.2 j (by omega)).1).1)
      have zi := zM.2.2 (mm q) hq.1
      refine h.ix 0 (mm q) ?_ (by show _ < 3; omega) ⟨5, ?_⟩
      · rw [li_34, li_shr (by omega) (by omega) rfl, (li_and (by omega)).2.1, ha.1]
      · rw [h.j 0, show sr L f 0 (mm q) = lz_m Z (mm q) from zi.2]
        have h9 := l_lay_L46 (E := E) (X := X) (Q := Q) (K := fun (a0 : Nat) (l1 : Int32) (a2 : Nat) (l3 : Int32) (l4 : Int32) (l5 : Int32) (S : zS) => p_L_lay_L20 E K Q X w a0 l1 a2 l3 l4 (l5 + 1) S) (l1 := nI (lz_cd N mm cc)) (q := q) (p0 := z_tcG Z mm cc q) hM hq.1 zi.1 hq.2.1 hq.2.2 t.1 (by omega) (by
          rw [li_54, li_shr (by omega) (by omega) rfl, (li_and (by omega)).2.1, ha.2]) (fun f' S2 g2 hW2 => by
          show p_L_lay_L20 E K Q X w (aa 0) (nI (lz_cd N mm cc)) (aa 9) _ _ (nI q + 1) S2
          rw [nI_1]
          have := l_lay_L20 (Q := Q) hz hM hL h4 rfl k w (q + 1) f' S2 g2 (by omega) (by omega) hW2
          exact this) 5 0 f S h (Nat.zero_le _) (by omega) (by
            rw [show (List.range 0).map (z_ch Z (mm q) (cc q)) = [] from rfl, List.append_nil]
            exact h3)
        rw [show (List.range 0).map (z_ch Z (mm q) (cc q)) = [] from rfl, List.append_nil, Nat.add_zero] at h9
        exact h9
theorem l_lay {Q : Int32 → zS → Prop} {n N : Nat} {mm cc : Nat → Nat} (h : RA aa L S) (hz : LZ L Z) (hM : z_M Z) (hL : z_LD Z mm cc n N) (h1 : 1 ≤ N) (h4 : N ≤ 4)
    (k : ∀ f S', RA aa (sr L f) S' → lz_W n f (z_tcG Z mm cc N) → Q (nI (z_tcG Z mm cc N).length) S') : p_L_lay E (aa 0) (nI (lz_cd N mm cc)) (aa 9) S Q X := by
  have zM := hz.M
  have b3 : Z 3 0 ≤ 3 := zM.2.1
  have hcd : ∀ k, k < N → mm k < 4 ∧ cc k < 4 := fun k hk => by
    have a := hL.2.2 k hk
    omega
  have hl := lz_cd_lt h4 hcd
  have ha := lz_cd_at h4 hcd (k := 0) h1
  have h0 := hL.2.2 0 h1
  have zi := zM.2.2 (mm 0) h0.1
  have hn6 := ro_N6 hL.1
  have hd := Nat.div_le_self (lz_cd N mm cc) (2 ^ 3)
  refine ⟨h.o 0, h.ix 0 (mm 0) ?_ (by show _ < 3; omega) ?_⟩
  · rw [li_shr (by omega) (by decide) (show (3 : Int32) = nI 3 from rfl), (li_and (by omega)).2.1]
    exact congrArg nI ha.1
  · rw [h.j 0, zi.2]
    refine l_stageOf hM h0.1 zi.1 ?_
    rw [h0.2.2]
    refine l_rounds hn6.1 ⟨5, ?_⟩
    have := l_lay_L20 (E := E) (X := X) (Q := Q) (K := fun (l3 : Int32) (S : zS) => Q l3 S) hz hM hL h4 rfl k 5 0 (L 9) S (by rw [sr_0]; exact h) (Nat.zero_le _) (by omega) (fun i x hx => by simp [z_tcG, ro_ws] at hx)
    rw [show ro_la n (ro_rnd n) (z_tcG Z mm cc 0) = ro_rnd n from rfl, iv_rnd hL.1] at this
    exact this
/-- the rows that are laid, one by one -/
theorem lz_W_f {n : Nat} {f : Nat → Nat} {cs : List Nat} (h : lz_W n f cs) {i : Nat} (hi : i < cs.length) : f i = iv n ((ro_ws n (ro_rnd n) cs).getD i 0) := by
  refine h i _ ?_
  rw [List.getD_eq_getElem?_getD, List.getElem?_eq_getElem (by rw [ro_ws_len]; exact hi)]
  rfl
theorem l_repeat_L9 {K : Int32 → zS → Prop} {K1 : Nat → Int32 → Int32 → zS → Prop} {Q : Int32 → zS → Prop} {f : Nat → Nat} {l1 : Int32} {r : Nat} (h : RA aa (sr L f) S) (hr : r < 16) (hf : ∀ i, i ≤ r → f i < 2 ^ 31) (kY : (∃ i, i < r ∧ f i = f r) → K (nI r) S) (kN : (∀ i, i < r → f i ≠ f r) → K1 (aa 9) l1 (nI r) S) :
    ∀ (w j : Nat), j ≤ r → r < j + w → (∀ i, i < j → f i ≠ f r) → p_L_repeat_L9 E K K1 Q X w (aa 9) l1 (nI r) (nI j) S
  | 0, j, h1, h2, h3 => by omega
  | w + 1, j, h1, h2, h3 => by
    refine pk_le r j (fun h5 => ?_) (fun h5 => ⟨h.o 9, h.ix 9 j rfl (by show _ < 16; omega) (h.ix 9 r rfl (by show _ < 16; omega) ?_)⟩)
    · have : j = r := by omega
      subst this
      exact kN h3
    · have e1 := hf j (by omega)
      have e2 := hf r (Nat.le_refl _)
      rw [h.a 9 j, h.a 9 r, nI_1, show sr L f 9 j = f j from rfl, show sr L f 9 r = f r from rfl, nI_eq (by omega) (by omega)]
      refine ⟨fun h6 => l_repeat_L9 h hr hf kY kN w (j + 1) (by omega) (by omega) (fun i hi => ?_), fun h6 => kY ⟨j, h5, h6⟩⟩
      by_cases e : i = j
      · rw [e]
        exact h6
      · exact h3 i (by omega)
theorem l_repeat_L2 {K : Int32 → zS → Prop} {K0 : zS → Prop} {Q : Int32 → zS → Prop} {f : Nat → Nat} {n : Nat} (h : RA aa (sr L f) S) (hn : n ≤ 16) (hf : ∀ i, i < n → f i < 2 ^ 31) (kY : ∀ r, r < n → (∃ i, i < r ∧ f i = f r) → (∀ r', r' < r → ∀ k, k < r' → f k ≠ f r') → K (nI r) S) (kN : (∀ r, r < n → ∀ k, k < r → f k ≠ f r) → K0 S) :
    ∀ (w r : Nat), 1 ≤ r → r ≤ n → n < r + w → (∀ r', r' < r → ∀ k, k < r' → f k ≠ f r') → p_L_repeat_L2 E K K0 Q X w (aa 9) (nI n) (nI r) S
  | 0, r, h0, h1, h2, h3 => by omega
  | w + 1, r, h0, h1, h2, h3 => by
    refine pk_le n r (fun h5 => ?_) (fun h5 => ⟨17, ?_⟩)
    · have : r = n := by omega
      subst this
      exact kN h3
    · refine l_repeat_L9 h (by omega) (fun i hi => hf i (by omega)) (fun h6 => kY r h5 h6 h3) (fun h6 => ?_) 17 0 (Nat.zero_le _) (by omega) (fun i hi => by omega)
      show p_L_repeat_L2 E K K0 Q X w (aa 9) (nI n) (nI r + 1) S
      rw [nI_1]
      refine l_repeat_L2 h hn hf kY kN w (r + 1) (by omega) (by omega) (by omega) (fun r' hr' => ?_)
      by_cases e : r' = r
      · rw [e]
        exact h6
      · exact h3 r' (by omega)
theorem l_repeat {Q : Int32 → zS → Prop} {n N : Nat} {f g : Nat → Nat} (h : RA aa (sr L f) S) (hn : ro_N n) (h1 : 1 ≤ N) (hN : N ≤ 16) (hg : ∀ i, i < N → ro_V n (g i)) (e : ∀ i, i < N → f i = iv n (g i)) (k : ∀ v, z_R g N v → Q v S) : p_L_repeat E (aa 9) (nI N) S Q X := by
  have ne : ∀ r, r < N → ∀ i, i < r → (f i ≠ f r ↔ g i ≠ g r) := fun r hr i hi => by
    rw [e i (by omega), e r hr]
    exact ⟨fun h x => h (by rw [x]), fun h x => h (iv_inj hn (hg i (by omega)) (hg r hr) x)⟩
  refine ⟨17, l_repeat_L2 h hN (fun i hi => ?_) (fun r hr ⟨i, hi, h6⟩ h7 => k _ (Or.inr ⟨r, rfl, hr, ⟨i, hi, ?_⟩, fun r' hr' i hi => (ne r' (by omega) i hi).mp (h7 r' hr' i hi)⟩)) (fun h6 => k _ (Or.inl ⟨rfl, fun r hr i hi => (ne r hr i hi).mp (h6 r hr i hi)⟩)) 17 1 (Nat.le_refl _) h1 (by omega) (fun r' hr' k hk => by omega)⟩
  · rw [e i hi]
    have := iv_lt2 hn (hg i hi)
    omega
  · rw [e i (by omega), e r hr] at h6
    exact iv_inj hn (hg i (by omega)) (hg r hr) h6
def lz_ws (Z : zZ) (n : Nat) (mm cc : Nat → Nat) (N i : Nat) : Nat := (ro_ws n (ro_rnd n) (z_tcG Z mm cc N)).getD i 0
def lz_sn (Z : zZ) (n : Nat) (mm cc : Nat → Nat) (N : Nat) : Bool := ro_la n (ro_rnd n) (z_tcG Z mm cc N) == ro_rnd n && z_ndB (lz_ws Z n mm cc N) (z_tcG Z mm cc N).length
theorem lz_ws_V {n N : Nat} {mm cc : Nat → Nat} (hM : z_M Z) (hL : z_LD Z mm cc n N) {i : Nat} (hi : i < (z_tcG Z mm cc N).length) : ro_V n (lz_ws Z n mm cc N i) := by
  refine ro_ws_V hL.1 _ _ (ro_V_rnd hL.1).1 (z_tcG_ok hM hL N (Nat.le_refl _)).1 _ (List.mem_of_getElem? (i := i) ?_)
  unfold lz_ws
  rw [List.getD_eq_getElem?_getD, List.getElem?_eq_getElem (by rw [ro_ws_len]; exact hi)]
  rfl
theorem lz_ws_la {n N : Nat} {mm cc : Nat → Nat} (h : 1 ≤ (z_tcG Z mm cc N).length) : lz_ws Z n mm cc N ((z_tcG Z mm cc N).length - 1) = ro_la n (ro_rnd n) (z_tcG Z mm cc N) := by
  have h2 := ro_ws_last n (z_tcG Z mm cc N) (ro_rnd n) (fun e => by rw [e] at h; exact absurd h (by decide))
  unfold lz_ws
  rw [List.getD_eq_getElem?_getD, h2]
  rfl
theorem l_isSound {Q : Int32 → zS → Prop} {n N : Nat} {mm cc : Nat → Nat} (h : RA aa L S) (hz : LZ L Z) (hM : z_M Z) (hL : z_LD Z mm cc n N) (h1 : 1 ≤ N) (h4 : N ≤ 4)
    (k : ∀ f S', RA aa (sr L f) S' → Q (zb (lz_sn Z n mm cc N)) S') : p_L_isSound E (aa 0) (nI (lz_cd N mm cc)) (aa 9) S Q X := by
  have zM := hz.M
  have b3 : Z 3 0 ≤ 3 := zM.2.1
  have hcd : ∀ k, k < N → mm k < 4 ∧ cc k < 4 := fun k hk => by
    have a := hL.2.2 k hk
    omega
  have hl := lz_cd_lt h4 hcd
  have ha := lz_cd_at h4 hcd (k := 0) h1
  have h0 := hL.2.2 0 h1
  have zi := zM.2.2 (mm 0) h0.1
  have hn6 := ro_N6 hL.1
  have t := z_tcG_ok hM hL N (Nat.le_refl _)
  have l4 := z_tcG_4 (Z := Z) (mm := mm) (cc := cc) N (fun j hj => (zM.2.2 _ (hL.2.2 j (by omega)).1).1)
  have hd := Nat.div_le_self (lz_cd N mm cc) (2 ^ 3)
  refine l_lay h hz hM hL h1 h4 (fun f S' g hW => ?_)
  have k' := k f S' g
  refine l_repeat g hL.1 (by omega) (by omega) (fun i hi => lz_ws_V hM hL hi) (fun i hi => lz_W_f hW hi) (fun v hv => ⟨fun h5 => ?_, fun h5 => ⟨g.o 9, g.ix 9 ((z_tcG Z mm cc N).length - 1) (pk_sub (b := 1) (by omega)) (by show _ < 16; omega) ⟨g.o 0, g.ix 0 (mm 0) ?_ (by show _ < 3; omega) ?_⟩⟩⟩)
  · have e : lz_sn Z n mm cc N = false := by
      unfold lz_sn
      rw [Bool.and_eq_false_iff]
      refine Or.inr ?_
      cases e2 : z_ndB (lz_ws Z n mm cc N) (z_tcG Z mm cc N).length with
      | false => rfl
      | true =>
        have := z_R_one hv (Or.inl ⟨rfl, (z_ndB_iff _ _).mp e2⟩)
        rw [this] at h5
        exact absurd h5 (by decide)
    rw [e] at k'
    exact ⟨Or.inl rfl, k'⟩
  · rw [li_shr (by omega) (by decide) (show (3 : Int32) = nI 3 from rfl), (li_and (by omega)).2.1]
    exact congrArg nI ha.1
  · have e2 : z_ndB (lz_ws Z n mm cc N) (z_tcG Z mm cc N).length = true := by
      rcases hv with ⟨_, h3⟩ | ⟨r, e4, hr4, _⟩
      · exact (z_ndB_iff _ _).mpr h3
      · exact absurd (by rw [e4]; exact nI_n0 (by omega)) h5
    rw [g.j 0, show sr L f 0 (mm 0) = lz_m Z (mm 0) from zi.2]
    refine l_stageOf hM h0.1 zi.1 ?_
    rw [h0.2.2]
    refine l_rounds hn6.1 ?_
    have hV := lz_ws_V hM hL (i := (z_tcG Z mm cc N).length - 1) (by omega)
    have b1 := iv_lt2 hL.1 hV
    have b2 := ro_V_lt hL.1 (ro_V_rnd hL.1).1
    rw [g.a 9, show sr L f 9 ((z_tcG Z mm cc N).length - 1) = _ from lz_W_f hW (by omega), nI_eq (by unfold lz_ws at b1; omega) (by omega)]
    rw [show (ro_ws n (ro_rnd n) (z_tcG Z mm cc N)).getD ((z_tcG Z mm cc N).length - 1) 0 = lz_ws Z n mm cc N ((z_tcG Z mm cc N).length - 1) from rfl, iv_eq_rnd hL.1 hV, lz_ws_la (by omega)]
    have es : lz_sn Z n mm cc N = (ro_la n (ro_rnd n) (z_tcG Z mm cc N) == ro_rnd n) := by
      unfold lz_sn
      rw [e2, Bool.and_true]
    rw [es] at k'
    refine ⟨fun h6 => ⟨Or.inl rfl, ?_⟩, fun h6 => ⟨Or.inr rfl, ?_⟩⟩
    · rw [show (ro_la n (ro_rnd n) (z_tcG Z mm cc N) == ro_rnd n) = false by simpa using h6] at k'
      exact k'
    · rw [show (ro_la n (ro_rnd n) (z_tcG Z mm cc N) == ro_rnd n) = true by simpa using h6] at k'
      exact k'
end LY
