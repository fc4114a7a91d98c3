/-! a ringing ends -/
def z_lkF (Z : zZ) : zZ := fun f i => if f = 18 then z_nv Z i else Z f i
theorem z_lkF_f {Z : zZ} {f : Nat} (h : f ≠ 18) : z_lkF Z f = Z f := funext fun i => if_neg h
theorem z_lkF_18 (Z : zZ) (i : Nat) : z_lkF Z 18 i = z_nv Z i := if_pos rfl
theorem z_lkF_lk (Z : zZ) : z_lk Z (z_lkF Z) := ⟨fun f hf => z_lkF_f hf, fun i _ => z_lkF_18 Z i⟩
theorem z_lk_nw {Z Z1 : zZ} (h : z_lk Z Z1) {i : Nat} (hi : i < 12) : z_nw Z1 i = false := by
  have e := h.2 i hi
  have e17 : Z1 17 = Z 17 := h.1 17 (by decide)
  unfold z_nw
  rw [e, e17]
  cases x : z_nw Z i with
  | true =>
    rw [show z_nv Z i = 1 from by unfold z_nv; rw [x]; rfl]
    rfl
  | false =>
    rw [show z_nv Z i = Z 18 i from by unfold z_nv; rw [x]; rfl]
    exact x
theorem z_nv_no {Z : zZ} {i : Nat} (h : z_nw Z i = false) : z_nv Z i = Z 18 i := by
  unfold z_nv
  rw [h]
  rfl
theorem z_lk_again {Z Z1 Z2 : zZ} (h : z_lk Z Z1) (h2 : z_lk Z Z2) : z_lk Z1 Z2 :=
  ⟨fun f hf => (h2.1 f hf).trans (h.1 f hf).symm, fun i hi => by rw [z_nv_no (z_lk_nw h hi), h.2 i hi, h2.2 i hi]⟩
theorem z_in_c12 {Z Z' : zZ} (h1 : ∀ i, i < 12 → Z' 18 i = Z 18 i) (h2 : Z' 19 = Z 19) {b : Nat} (hb : b < 6) : z_in Z' b = z_in Z b := by
  unfold z_in
  rw [h1 b (by omega), h1 (6 + b) (by omega), h2]
theorem z_are_c12 {Z Z' : zZ} (h1 : ∀ i, i < 12 → Z' 18 i = Z 18 i) (h2 : Z' 19 = Z 19) : ∀ n, n ≤ 6 → z_are Z' n = z_are Z n
  | 0, _ => rfl
  | n + 1, hn => by rw [z_are_s, z_are_s, z_are_c12 h1 h2 n (by omega), z_in_c12 h1 h2 (by omega)]
theorem z_fit_c12 {Z Z' : zZ} (hM : z_M Z) (hT : z_TT Z) (c : z_C Z Z') (h1 : ∀ i, i < 12 → Z' 18 i = Z 18 i) (h2 : Z' 19 = Z 19) {t : Nat} (ht : t < Z 10 0) : z_fit Z' t = z_fit Z t := by
  have hn := ro_N6 (z_T_N hM (hT.2 t ht))
  unfold z_fit
  rw [z_C_st c, z_C_snd c, z_are_c12 h1 h2 _ hn.1]
theorem z_un_c {p q : Nat → Bool} {l : List Nat} (h : ∀ t, t ∈ l → p t = q t) : z_un p l = z_un q l ∧ l.filter p = l.filter q := by
  refine ⟨?_, List.filter_congr h⟩
  unfold z_un
  rw [List.filter_congr (q := fun t => !q t) (fun t ht => by rw [h t ht])]
theorem z_cnt_c {Z Z' : zZ} (hf : ∀ d, d ≤ 60 → ∀ t, t ∈ z_day Z d → z_fit Z' t = z_fit Z t) (hd : ∀ d, d ≤ 60 → z_day Z' d = z_day Z d) (d0 : Nat) : ∀ k, d0 + k ≤ 61 → z_cnt Z' d0 k = z_cnt Z d0 k
  | 0, _ => rfl
  | k + 1, hk => by
    show z_cnt Z' d0 k + z_un (z_fit Z') (z_day Z' (d0 + k)) = z_cnt Z d0 k + z_un (z_fit Z) (z_day Z (d0 + k))
    rw [z_cnt_c hf hd d0 k (by omega), hd _ (by omega), (z_un_c (hf _ (by omega))).1]
/-- the bells are looked at, the unfit are dropped, no ringing is on -/
def z_endR (Z Z' : zZ) : Prop := ∃ Z1 Z2, z_lk Z Z1 ∧ z_dr Z1 Z2 ∧ (∀ f, f ≠ 27 → f ∉ [13, 14] → Z' f = Z2 f) ∧ Z' 27 0 = 0
theorem V_T.sl {V : vV} {Z : zZ} {T : Nat} (h : V_T V Z) (e : Z 10 0 + 2 = T) : v_SL T V Z := fun t ht => by
  rw [← e]
  exact h.2 t ht
theorem V_G.off {V : vV} {Z : zZ} (h0 : V 1009 0 0 = 0) (h1 : Z 27 0 = 0) : V_G V Z := ⟨by rw [h0, h1], fun x => by rw [h1] at x; cases x⟩
section ENDS
variable {E : zE} {ad la : Nat → Nat → Nat} {M T R : Nat} {V : vV} {Z : zZ} {S : zS} {X : String → zS → Prop}
theorem RV.lk {V' : vV} (hV : RV V Z) (hl : v_lk V Z V' 6) {Z1 : zZ} (h1 : z_lk Z Z1) : RV V' Z1 := by
  obtain ⟨m1, m2, m3, m4, m5, m6, m7, m8, m9, m10, m11⟩ := hV
  have vf : ∀ (l : List Nat), 206 ∉ l → ∀ f, f ∈ l → V' f = V f := fun l hl2 f hf => hl.1 f (fun e => hl2 (e ▸ hf))
  have zf : ∀ (l : List Nat), 18 ∉ l → ∀ f, f ∈ l → Z1 f = Z f := fun l hl2 f hf => h1.1 f (fun e => hl2 (e ▸ hf))
  refine ⟨m1.cg (vf _ (by decide)) (zf _ (by decide)), m2.cg (vf _ (by decide)) (zf _ (by decide)), m3.cg (vf _ (by decide)) (fun t _ f hf => by rw [vf _ (by decide) f hf]) (zf _ (by decide)), m4.cg (vf _ (by decide)) (h1.1 10 (by decide)), m5.cg (hl.1 1006 (by decide)) (fun f hf => by rw [vf _ (by decide) f hf]) (zf _ (by decide)), m6.cg (hl.1 600 (by decide)), ?_, m8.cg (vf _ (by decide)) (zf _ (by decide)), m9.cg (vf _ (by decide)) (zf _ (by decide)), m10.cg (vf _ (by decide)) (zf _ (by decide)), m11.cg (vf _ (by decide)) (zf _ (by decide))⟩
  intro b hb
  have m := m7 b hb
  have n := hl.2.1 b hb
  have e : ∀ f, f ≠ 206 → V' f = V f := hl.1
  rw [e 200 (by decide), e 201 (by decide), e 202 (by decide), e 203 (by decide), e 204 (by decide), e 205 (by decide), e 207 (by decide), n.1, n.2, h1.1 17 (by decide), h1.1 19 (by decide), h1.1 34 (by decide), h1.1 35 (by decide), h1.1 36 (by decide), h1.1 37 (by decide), h1.1 38 (by decide), h1.2 b (by omega), h1.2 (6 + b) (by omega)]
  exact ⟨m.1, m.2.1, m.2.2.1, m.2.2.2.1, m.2.2.2.2.1, m.2.2.2.2.2.1, m.2.2.2.2.2.2.1, rfl, rfl, m.2.2.2.2.2.2.2.2.2⟩
theorem c_noteRV {Q : Int32 → zS → Prop} (h : RC E ad la (sd M T R) V S) (hV : RV V Z) (hB : z_B Z) (k : ∀ V' S', RC E ad la (sd M T R) V' S' → (∀ f, f ≠ 206 → V' f = V f) → (∀ Z1, z_lk Z Z1 → RV V' Z1) → Q (zb (z_any Z 6)) S') : p_X0_noteWornOut E (ad 1 0) S Q X :=
  c_note h hV.2.2.2.2.2.2.1 hB (fun V' S' g hl => k V' S' g hl.1 (fun _ h1 => hV.lk hl h1))
/-- the touches of all days that are unfit are dropped -/
theorem RV.dr {V1 V2 : vV} (hV : RV V Z) (hM : z_M Z) (hT : z_TT Z) (hP : z_P Z) (h20 : Z 20 0 ≤ 60) (hp : v_dp V V1 Z (Z 20 0) 61) (h2 : ∀ f, f ≠ 803 → V2 f = V1 f) (h3 : nI (V2 803 0 0) = nI (V 803 0 0) + nI (z_cnt Z (Z 20 0) (61 - Z 20 0)))
    {Z1 : zZ} (h1 : z_dr Z Z1) : RV V2 Z1 := by
  obtain ⟨m1, m2, m3, m4, m5, m6, m7, m8, m9, m10, m11⟩ := hV
  have vf : ∀ (l : List Nat), (400 ∉ l ∧ 2400 ∉ l ∧ 803 ∉ l) → ∀ f, f ∈ l → V2 f = V f := fun l hl f hf => (h2 f (fun e => hl.2.2 (e ▸ hf))).trans (hp.1 f (fun e => hl.1 (e ▸ hf)) (fun e => hl.2.1 (e ▸ hf)))
  have zf : ∀ (l : List Nat), (∀ f, f ∈ l → f ∉ [13, 14, 21, 22, 23]) → ∀ f, f ∈ l → Z1 f = Z f := fun l hl f hf => h1.1 f (hl f hf)
  refine ⟨m1.cg (vf _ (by decide)) (zf _ (by decide)), m2.cg (vf _ (by decide)) (zf _ (by decide)), m3.cg (vf _ (by decide)) (fun t _ f hf => by rw [vf _ (by decide) f hf]) (zf _ (by decide)), m4.cg (vf _ (by decide)) (h1.1 10 (by decide)), m5.cg (vf [1006] (by decide) 1006 (by decide)) (fun f hf => by rw [vf _ (by decide) f hf]) (zf _ (by decide)), m6.cg (vf [600] (by decide) 600 (by decide)), m7.cg (vf _ (by decide)) (zf _ (by decide)), fun d hd => ?_, ?_, m10.cg (vf _ (by decide)) (zf _ (by decide)), m11.cg (vf _ (by decide)) (zf _ (by decide))⟩
  · have e3 : V2 3003 = V 3003 := vf [3003] (by decide) 3003 (by decide)
    have ed : v_day V2 d = v_day V1 d := by
      unfold v_day
      rw [h2 400 (by decide), h2 2400 (by decide)]
    rw [e3, ed]
    by_cases e : d < Z 20 0
    · rw [hp.2.1 d (Or.inl e), h1.2.2.1 d e]
      exact m8 d hd
    · rw [hp.2.2 d (by omega) (by omega), h1.2.2.2 d (by omega) hd]
  · refine ⟨fun i hi => ?_, ?_, ?_, ?_, ?_⟩
    · rw [vf [800] (by decide) 800 (by decide), h1.1 24 (by decide)]
      exact m9.1 i hi
    · rw [vf [802] (by decide) 802 (by decide), h1.1 20 (by decide)]
      exact m9.2.1
    · rw [h3, h1.2.1, m9.2.2.1]
    · rw [vf [804] (by decide) 804 (by decide), h1.1 25 (by decide)]
      exact m9.2.2.2.1
    · rw [vf [805] (by decide) 805 (by decide), h1.1 26 (by decide)]
      exact m9.2.2.2.2
theorem z_dr_c12 {Z0 Z1 Z2 : zZ} (hM : z_M Z1) (hT : z_TT Z1) (hP : z_P Z1) (h20 : Z1 20 0 ≤ 60) (a : ∀ f, f ≠ 18 → Z0 f = Z1 f) (a18 : ∀ i, i < 12 → Z0 18 i = Z1 18 i) (h : z_dr Z1 Z2) : z_dr Z0 (fun f i => if f = 18 then Z0 18 i else Z2 f i) := by
  have c : z_C Z1 Z0 := fun f hf => a f (fun e => by subst e; exact absurd hf (by decide))
  have ef : ∀ t, t < Z1 10 0 → z_fit Z0 t = z_fit Z1 t := fun t ht => z_fit_c12 hM hT c a18 (a 19 (by decide)) ht
  have ed : ∀ d, z_day Z0 d = z_day Z1 d := z_day_congr (a 21 (by decide)) (a 22 (by decide))
  have ed2 : ∀ d, z_day (fun f i => if f = 18 then Z0 18 i else Z2 f i) d = z_day Z2 d := fun d => z_day_congr (funext fun i => if_neg (by decide)) (funext fun i => if_neg (by decide)) d
  have e20 : Z0 20 = Z1 20 := a 20 (by decide)
  refine ⟨fun f hf => ?_, ?_, fun d hd => ?_, fun d h1 h2 => ?_⟩
  · by_cases e : f = 18
    · subst e
      exact funext fun i => if_pos rfl
    · rw [a f e, ← h.1 f hf]
      exact funext fun i => if_neg e
  · rw [e20, a 23 (by decide), z_cnt_c (fun d hd t ht => ef t ((hP d hd).2 t ht)) (fun d _ => ed d) (Z1 20 0) (61 - Z1 20 0) (by omega)]
    exact h.2.1
  · rw [e20] at hd
    rw [ed2, ed]
    exact h.2.2.1 d hd
  · rw [e20] at h1
    rw [ed2, ed, h.2.2.2 d h1 h2]
    exact (z_un_c (fun t ht => (ef t ((hP d h2).2 t ht)).symm)).2
theorem c_endRinging {Q : zS → Prop} (h : RC E ad la (sd M T R) V S) (hV : RV V Z) (eT : Z 10 0 + 2 = T) (hM : z_M Z) (hT : z_TT Z) (hB : z_B Z) (hP : z_P Z) (h20 : Z 20 0 ≤ 60)
    (k : ∀ V' S', RC E ad la (sd M T R) V' S' → (∀ f, f ∉ [206, 400, 2400, 803, 1009] → V' f = V f) → (∀ Z', z_endR Z Z' → RV V' Z') → Q S') : p_X10_endRinging E (ad 10 0) S Q X := by
  refine ⟨h.o 10 0 Nat.zero_lt_one, h.u9 0 Nat.zero_lt_one (Or.inl rfl) rfl (fun S1 g1 => ?_)⟩
  have z27 : ∀ f, f ≠ 27 → up Z 27 0 0 f = Z f := fun f hf => up_f hf
  have hV1 : RV (u3 V 1009 0 0 0) (up Z 27 0 0) := by
    obtain ⟨m1, m2, m3, m4, m5, m6, m7, m8, m9, m10, m11⟩ := hV
    have vf : ∀ (l : List Nat), 1009 ∉ l → ∀ f, f ∈ l → u3 V 1009 0 0 0 f = V f := fun l hl2 f hf => u3_f (fun e => hl2 (e ▸ hf))
    have zf : ∀ (l : List Nat), 27 ∉ l → ∀ f, f ∈ l → up Z 27 0 0 f = Z f := fun l hl2 f hf => z27 f (fun e => hl2 (e ▸ hf))
    exact ⟨m1.cg (vf _ (by decide)) (zf _ (by decide)), m2.cg (vf _ (by decide)) (zf _ (by decide)), m3.cg (vf _ (by decide)) (fun t _ f hf => by rw [vf _ (by decide) f hf]) (zf _ (by decide)), m4.cg (vf _ (by decide)) (z27 10 (by decide)), m5.cg (u3_f (by decide)) (fun f hf => by rw [vf _ (by decide) f hf]) (zf _ (by decide)), m6.cg (u3_f (by decide)), m7.cg (vf _ (by decide)) (zf _ (by decide)), m8.cg (vf _ (by decide)) (zf _ (by decide)), m9.cg (vf _ (by decide)) (zf _ (by decide)), V_G.off (u3_s _ _ _ _ _) (up_s _ _ _ _), m11.cg (vf _ (by decide)) (zf _ (by decide))⟩
  have ca : z_C Z (up Z 27 0 0) := fun f hf => z27 f (fun e => by subst e; exact absurd hf (by decide))
  have hB1 : z_B (up Z 27 0 0) := z_B_congr (z27 18 (by decide)) (z27 19 (by decide)) hB
  refine g1.sg 1007 1 Nat.zero_lt_one (c_noteRV g1 hV1 hB1 (fun V2 S2 g2 a2 hV2 => ⟨g2.o 10 0 Nat.zero_lt_one, g2.sg 1007 1 Nat.zero_lt_one ?_⟩))
  have lk2 := z_lkF_lk (up Z 27 0 0)
  have hVb := hV2 _ lk2
  have cb : z_C Z (z_lkF (up Z 27 0 0)) := fun f hf => (lk2.1 f (fun e => by subst e; exact absurd hf (by decide))).trans (ca f hf)
  have hBb := z_lk_B lk2 hB1
  have fb : ∀ f, f ≠ 18 → f ≠ 27 → z_lkF (up Z 27 0 0) f = Z f := fun f h1 h2 => (lk2.1 f h1).trans (z27 f h2)
  have hMb := z_C_M cb hM
  have hTb := z_C_TT cb hT
  have hPb : z_P (z_lkF (up Z 27 0 0)) := z_P_congr (fb 21 (by decide) (by decide)) (fb 22 (by decide) (by decide)) (fb 10 (by decide) (by decide)) hP
  have e20 : z_lkF (up Z 27 0 0) 20 = Z 20 := fb 20 (by decide) (by decide)
  have e10 : z_lkF (up Z 27 0 0) 10 = Z 10 := fb 10 (by decide) (by decide)
  refine c_bellsOut g2 hVb.2.2.2.2.2.2.1 hBb ⟨_, g2.sgR 1008 8 Nat.zero_lt_one, g2.o 8 0 Nat.zero_lt_one, c_drop g2 hMb hPb hTb hVb.2.2.2.2.2.2.2.2.1 hVb.2.2.2.2.2.2.2.1 (hVb.2.2.1.sl (by rw [e10]; exact eT)) (by rw [e20]; exact h20) (fun V3 V4 S4 g4 dp d3 d4 => k V4 S4 g4 (fun f hf => ?_) (fun Z' hZ' => ?_))⟩
  · have : f ≠ 206 ∧ f ≠ 400 ∧ f ≠ 2400 ∧ f ≠ 803 ∧ f ≠ 1009 := by
      simp only [List.mem_cons, List.not_mem_nil, or_false] at hf
      omega
    rw [d3 f this.2.2.2.1, dp.1 f this.2.1 this.2.2.1, a2 f this.1, u3_f this.2.2.2.2]
  · obtain ⟨Z1, Z2, k1, k2, k3, k4⟩ := hZ'
    have ag : ∀ f, f ≠ 18 → Z1 f = Z f := k1.1
    have c1 : z_C Z Z1 := fun f hf => ag f (fun e => by subst e; exact absurd hf (by decide))
    have a18 : ∀ i, i < 12 → up Z1 27 0 0 18 i = Z1 18 i := fun i _ => by rw [up_f (by decide)]
    have k1' : z_lk (up Z 27 0 0) (up Z1 27 0 0) := by
      refine ⟨fun f hf => funext fun i => ?_, fun i hi => ?_⟩
      · by_cases e : f = 27
        · subst e
          by_cases e2 : i = 0
          · subst e2
            rw [up_s, up_s]
          · rw [up_i e2, up_i e2, ag 27 (by decide)]
        · rw [up_f e, up_f e, ag f hf]
      · rw [up_f (by decide), k1.2 i hi]
        unfold z_nv z_nw
        rw [up_f (show 17 ≠ 27 by decide), up_f (show 18 ≠ 27 by decide)]
    have hV3 := hV2 _ k1'
    have fb1 : ∀ f, f ≠ 18 → z_lkF (up Z 27 0 0) f = up Z1 27 0 0 f := fun f hf => (z_lkF_f hf).trans (k1'.1 f hf).symm
    have fb18 : ∀ i, i < 12 → z_lkF (up Z 27 0 0) 18 i = up Z1 27 0 0 18 i := fun i hi => by rw [z_lkF_18, k1'.2 i hi]
    have dr1 : z_dr (up Z1 27 0 0) (up Z2 27 0 0) := by
      have ed : ∀ W : zZ, ∀ d, z_day (up W 27 0 0) d = z_day W d := fun W d => z_up_day (by decide) (by decide) d
      have ef : z_fit (up Z1 27 0 0) = z_fit Z1 := z_fit_congr (fun f hf => up_f (fun e => by subst e; exact absurd hf (by decide))) (up_f (by decide)) (up_f (by decide))
      have e2 : up Z1 27 0 0 20 = Z1 20 := up_f (by decide)
      refine ⟨fun f hf => funext fun i => ?_, ?_, fun d hd => ?_, fun d h1 h2 => ?_⟩
      · by_cases e : f = 27
        · subst e
          by_cases e2 : i = 0
          · subst e2
            rw [up_s, up_s]
          · rw [up_i e2, up_i e2, k2.1 27 (by decide)]
        · rw [up_f e, up_f e, k2.1 f hf]
      · rw [e2, up_f (show 23 ≠ 27 by decide), up_f (show 23 ≠ 27 by decide), z_cnt_c (Z := Z1) (fun d _ t _ => by rw [ef]) (fun d _ => ed Z1 d) (Z1 20 0) (61 - Z1 20 0) (by rw [ag 20 (by decide)]; omega)]
        exact k2.2.1
      · rw [e2] at hd
        rw [ed, ed]
        exact k2.2.2.1 d hd
      · rw [e2] at h1
        rw [ed, ed, ef]
        exact k2.2.2.2 d h1 h2
    have hM1 : z_M (up Z1 27 0 0) := z_C_M (fun f hf => (k1'.1 f (fun e => by subst e; exact absurd hf (by decide))).trans (ca f hf)) hM
    have hT1 : z_TT (up Z1 27 0 0) := z_C_TT (fun f hf => (k1'.1 f (fun e => by subst e; exact absurd hf (by decide))).trans (ca f hf)) hT
    have hP1 : z_P (up Z1 27 0 0) := z_lk_P k1' (z_P_congr (z27 21 (by decide)) (z27 22 (by decide)) (z27 10 (by decide)) hP)
    have dr2 := z_dr_c12 hM1 hT1 hP1 (by rw [k1'.1 20 (by decide), z27 20 (by decide)]; exact h20) fb1 fb18 dr1
    have r := hVb.dr hMb hTb hPb (by rw [e20]; exact h20) dp d3 d4 dr2
    -- from there to Z'
    obtain ⟨m1, m2, m3, m4, m5, m6, m7, m8, m9, m10, m11⟩ := r
    have zz : ∀ f, f ∉ [13, 14, 18, 27] → Z' f = (fun f i => if f = 18 then z_lkF (up Z 27 0 0) 18 i else up Z2 27 0 0 f i) f := fun f hf => by
      have : f ≠ 13 ∧ f ≠ 14 ∧ f ≠ 18 ∧ f ≠ 27 := by
        simp only [List.mem_cons, List.not_mem_nil, or_false] at hf
        omega
      rw [k3 f this.2.2.2 (by simp only [List.mem_cons, List.not_mem_nil, or_false]; omega)]
      funext i
      show Z2 f i = if f = 18 then z_lkF (up Z 27 0 0) 18 i else up Z2 27 0 0 f i
      rw [if_neg this.2.2.1, up_f this.2.2.2]
    have zf : ∀ (l : List Nat), (∀ f, f ∈ l → f ∉ [13, 14, 18, 27]) → ∀ f, f ∈ l → Z' f = (fun f i => if f = 18 then z_lkF (up Z 27 0 0) 18 i else up Z2 27 0 0 f i) f := fun l hl f hf => zz f (hl f hf)
    refine ⟨m1.cg (fun _ _ => rfl) (zf _ (by decide)), m2.cg (fun _ _ => rfl) (zf _ (by decide)), m3.cg (fun _ _ => rfl) (fun _ _ _ _ => rfl) (zf _ (by decide)), m4.cg (fun _ _ => rfl) (zz 10 (by decide)), m5.cg rfl (fun _ _ => rfl) (zf _ (by decide)), m6, ?_, m8.cg (fun _ _ => rfl) (zf _ (by decide)), m9.cg (fun _ _ => rfl) (zf _ (by decide)), V_G.off ?_ k4, m11.cg (fun _ _ => rfl) (zf _ (by decide))⟩
    · have e18 : ∀ i, i < 12 → Z' 18 i = z_lkF (up Z 27 0 0) 18 i := fun i hi => by
        rw [k3 18 (by decide) (by decide), k2.1 18 (by decide), fb18 i hi, up_f (by decide)]
      intro b hb
      have m := m7 b hb
      rw [zz 17 (by decide), zz 19 (by decide), zz 34 (by decide), zz 35 (by decide), zz 36 (by decide), zz 37 (by decide), zz 38 (by decide), e18 b (by omega), e18 (6 + b) (by omega)]
      exact m
    · rw [d3 1009 (by decide), dp.1 1009 (by decide) (by decide), a2 1009 (by decide), u3_s]
end ENDS
