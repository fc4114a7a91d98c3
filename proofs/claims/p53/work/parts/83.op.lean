/-! ring -/
theorem RR.mk7 {E : zE} {x m : Nat} {ad la : Nat → Nat → Nat} {V' : vV} {Z' : zZ} {Sc Sm : zS} {ma : Nat → Nat} {M T : Nat} (hM : RM ma Z' m Sm) (hC : RC E ad la (sd M T 1) V' Sc) (hx : ad 10 0 = x) (hV : RV V' Z') (hI : IZ Z') (e3 : Z' 3 0 = M) (e10 : Z' 10 0 + 2 = T) : RR E x m Sc Sm := by
  rcases z_27 hI.g.1 with e | e
  · exact RR.mk3 hM (hC.drop7 (hV.G.1.trans e)) hx hV hI e3 e10 e
  · exact RR.mk3 hM hC hx hV hI e3 e10 e
def zRing (Z : zZ) (t p g : Nat) : zZ := fun f i => if f = 34 ∧ i < 6 then 0 else up (up (up (up (up (up (up Z 26 0 (z_on (z_ba Z (Z 20 0)))) 27 0 1) 28 0 t) 29 0 p) 30 0 g) 31 0 0) 32 0 0 f i
section RNG
variable {E : zE} {ma : Nat → Nat} {Z : zZ} {m : Nat} {S : zS} {X : String → zS → Prop}
theorem zRing_f {t p g f : Nat} (h : f ≠ 34) : zRing Z t p g f = up (up (up (up (up (up (up Z 26 0 (z_on (z_ba Z (Z 20 0)))) 27 0 1) 28 0 t) 29 0 p) 30 0 g) 31 0 0) 32 0 0 f := funext fun i => if_neg (fun e => h e.1)
theorem zRing_34 {t p g b : Nat} : zRing Z t p g 34 b = if b < 6 then 0 else Z 34 b := by
  unfold zRing
  by_cases e : b < 6
  · rw [if_pos ⟨rfl, e⟩, if_pos e]
  · rw [if_neg (fun x => e x.2), if_neg e]
    rfl
theorem zRing_ag {t p g : Nat} : agZ [26, 27, 28, 29, 30, 31, 32, 34] Z (zRing Z t p g) := fun f hf => by
  have mm : f ≠ 26 ∧ f ≠ 27 ∧ f ≠ 28 ∧ f ≠ 29 ∧ f ≠ 30 ∧ f ≠ 31 ∧ f ≠ 32 ∧ f ≠ 34 := by
    simp only [List.mem_cons, List.not_mem_nil, or_false] at hf
    omega
  rw [zRing_f mm.2.2.2.2.2.2.2, up_f mm.2.2.2.2.2.2.1, up_f mm.2.2.2.2.2.1, up_f mm.2.2.2.2.1, up_f mm.2.2.2.1, up_f mm.2.2.1, up_f mm.2.1, up_f mm.1]
theorem m_goesOn {Q : Int32 → zS → Prop} {V' : vV} {Z0 : zZ} (h : RM ma Z m S) (hz : zF E m V' Z0) (he : z_eq Z0 Z) (hI : IZ Z) (on : Z 27 0 = 1)
    (k : ∀ Z' S', RM ma Z' m S' → RV V' Z' → IZ Z' → V' 701 0 0 = Z' 31 0 → Z' 31 0 ≤ 240 → (∀ f, f ∈ [0, 3, 10] → Z' f = Z f) → Q (nI (Z' 31 0)) S') : p_X11_goesOn E m S Q X := by
  have e28 : gI S 1128 m = nI (Z 28 0) := h.i 28
  have g := hI.g.2 on
  refine ⟨h.1, ?_⟩
  rw [e28]
  refine m_writes h hI.M (hI.T.2 _ g.1) (fun Z2 S2 g2 hE hW => ⟨242, ?_⟩)
  have sc := (z_scr.refl Z).E hE
  refine hz Q X (fun a0 S => (a0 ∈ gL S ∧ gK S a0 = 11) ∧ Q (gI S 1131 a0) S) ma Z2 S2 (he.trans sc.eq) g2 (fun _ => ?_) (fun Z' S' g' hV' hI' e7 l0 e0 => ⟨g'.1, ?_⟩) 242 (by omega)
  · rw [z_C_st sc.C, sc 28 (by decide), z_C_cs sc.C]
    exact hW
  · have e31 : gI S' 1131 m = nI (Z' 31 0) := g'.i 31
    rw [e31]
    refine k Z' S' g' hV' hI' e7 l0 (fun f hf => ?_)
    rw [e0 f hf]
    refine hE f ?_ ?_ <;> · simp only [List.mem_cons, List.not_mem_nil, or_false] at hf; omega
theorem m_ringX {Q : Int32 → zS → Prop} {l1 l2 l3 : Int32} {j : Nat} (h : RM ma Z m S) (hj : 1 ≤ j ∧ j ≤ 3) (k : ∀ S', RM ma (up Z 0 0 j) m S' → Q 0 S') : p_X11_ring_J47 E Q X m l1 l2 l3 (nI j) m S := by
  refine ⟨h.1, h.wI 0 j rfl (fun S1 g1 => ⟨g1.1, ?_⟩)⟩
  unfold p_X11_ring_J137
  rw [m_st0 g1]
  exact ⟨fun _ => ⟨g1.1, fun x => absurd x (nI_nle (by omega) (by omega)), fun _ => k S1 g1⟩, fun x => absurd x (nI_ne0 (by omega) (by omega))⟩
theorem m_ring_L {K : Nat → zS → Prop} {Q : Int32 → zS → Prop} (k : ∀ Z' S', RM ma Z' m S' → (∀ f, f ≠ 34 → Z' f = Z f) → (∀ b, Z' 34 b = if b < 6 then 0 else Z 34 b) → K m S') :
    ∀ (w j : Nat) (Z' : zZ) (S : zS), RM ma Z' m S → (∀ f, f ≠ 34 → Z' f = Z f) → (∀ b, Z' 34 b = if b < j then 0 else Z 34 b) → j ≤ 6 → 6 < j + w → p_X11_ring_L191 E K Q X w m (nI j) S
  | 0, j, Z', S, h, a, b, h1, h2 => by omega
  | w + 1, j, Z', S, h, a, b, h1, h2 => by
    refine pk_le 6 j (fun h3 => ?_) (fun h3 => ⟨h.1, h.ij 34 j rfl (by show j < 6; exact h3) (h.wA 34 j 0 rfl (fun S1 g1 => ?_))⟩)
    · have : j = 6 := by omega
      subst this
      exact k Z' S h a b
    · rw [nI_1]
      refine m_ring_L k w (j + 1) _ S1 g1 (fun f hf => by rw [up_f hf]; exact a f hf) (fun c => ?_) (by omega) (by omega)
      by_cases e : c = j
      · rw [e, up_s, if_pos (by omega)]
      · rw [up_i e, b c]
        by_cases e2 : c < j
        · rw [if_pos e2, if_pos (by omega)]
        · rw [if_neg e2, if_neg (by omega)]
theorem m_ring {Q : Int32 → zS → Prop} {t p g : Nat} (h : RM ma Z m S) (hI : IZ Z) (ht : t < Z 10 0) (hp : p < 2 ^ z_st Z t) (hg : 100 ≤ g ∧ g ≤ 1000)
    (k3 : ¬ (Z 27 0 = 0 ∧ nI t ≠ nI (Z 41 0) ∧ ∃ b, z_ba Z (Z 20 0) = some b ∧ z_st Z t ≤ Z 24 b ∧ t ∈ z_day Z (Z 20 0)) → ∀ Z' S', RM ma Z' m S' → z_scr Z Z' → Z' 0 0 = 3 → Q 0 S')
    (k0 : Z 27 0 = 0 → nI t ≠ nI (Z 41 0) → (∃ b, z_ba Z (Z 20 0) = some b ∧ z_st Z t ≤ Z 24 b ∧ t ∈ z_day Z (Z 20 0)) → ∀ Z' S', RM ma Z' m S' → z_eq (zRing Z t p g) Z' → Z' 0 0 = 0 → Z' 3 = Z 3 → Z' 10 = Z 10 → p_X11_goesOn E m S' Q (fun _ _ => False)) : p_X11_ring E m (nI t) (nI p) (nI g) S Q X := by
  have h12 := hI.T.1
  have zt := hI.T.2 t ht
  have hN := z_T_N hI.M zt
  have hn6 := ro_N6 hN
  have p6 := z_pow6 hN
  have hd := hI.d
  refine ⟨h.1, m_isT1 h ht hI.T ⟨fun _ => ⟨h.1, m_stageOf h hI.M (by omega) (z_T_x zt) ?_⟩, fun x => absurd x (by decide)⟩⟩
  rw [ri_2n hn6.1]
  refine w1_inP1 hp (by omega) ⟨fun x => absurd x (by decide), fun _ => w1_inR1 (lo := 100) (hi := 1000) hg.1 hg.2 (by decide) ⟨fun _ => ?_, fun x => absurd x (by decide)⟩⟩
  refine ⟨h.1, h.wI 0 0 rfl (fun S1 g1 => ⟨g1.1, ?_⟩)⟩
  have hI1 := hI.scr (s0 (v := 0))
  have e20 : gI S1 1120 m = nI (Z 20 0) := g1.i 20
  have e27 : gI S1 1127 m = nI (Z 27 0) := g1.i 27
  have e41 : gI S1 1141 m = nI (Z 41 0) := g1.i 41
  have bad : ∀ l, ¬ (Z 27 0 = 0 ∧ nI t ≠ nI (Z 41 0) ∧ ∃ b, z_ba Z (Z 20 0) = some b ∧ z_st Z t ≤ Z 24 b ∧ t ∈ z_day Z (Z 20 0)) → p_X11_ring_J105 E Q X m (nI t) (nI p) (nI g) l S1 := fun l no =>
    ⟨fun _ => m_tk g1 3 (by omega) rfl (fun S2 g2 => k3 no _ S2 g2 (s0.up (by decide)) (up_s _ _ _ _)), fun x => absurd rfl x⟩
  rw [m_st0 g1]
  refine ⟨fun x => absurd rfl x, fun _ => ?_⟩
  rw [e20]
  refine m_bandOf g1 hI1.M hI1.P hI1.T hI1.R4 hd (Nat.le_refl _) ⟨g1.1, ?_⟩
  rw [z_ba_scr s0, e27, ri_0 hI.g.1]
  refine ⟨fun c => bad _ (fun x => c x.1), fun z27 => ?_⟩
  rw [e20]
  refine m_placeOf g1 hI1.P hI1.T hd (by omega) (fun v hv => ?_)
  rcases hv with ⟨rfl, hn⟩ | ⟨k, hk, rfl, ek⟩
  · have tn : t ∉ z_day Z (Z 20 0) := by
      intro y
      obtain ⟨k, hk, e⟩ := List.mem_map.mp y
      exact hn k (List.mem_range.mp hk) e
    exact ⟨fun _ => bad _ (fun x => by obtain ⟨_, _, b, _, _, y⟩ := x; exact tn y), fun x => absurd rfl x⟩
  · have ty : t ∈ z_day Z (Z 20 0) := List.mem_map.mpr ⟨k, List.mem_range.mpr hk, ek⟩
    have k4 := (hI.P _ hd).1
    have k31 : k < 2 ^ 31 := by
      have : k < Z 21 (Z 20 0) := hk
      omega
    refine ⟨fun x => absurd x (z_oi_n k31), fun _ => ⟨g1.1, ?_⟩⟩
    rw [e41]
    refine ⟨fun c => bad _ (fun x => x.2.1 c), fun c41 => ?_⟩
    cases eb : z_ba Z (Z 20 0) with
    | none => exact ⟨fun _ => bad _ (fun x => by obtain ⟨_, _, b, y, _⟩ := x; rw [eb] at y; cases y), fun x => absurd rfl x⟩
    | some b =>
      have hb := z_ba_lt hI.R4 eb
      have r4 := hI.R4.1 b hb
      refine ⟨fun x => absurd x (z_oi_n (by omega)), fun _ => ⟨fun x => absurd x (by decide), fun _ => ⟨g1.1, g1.ij 24 b rfl (by show b < 4; exact hb) (m_stageOf g1 hI1.M (by omega) (z_T_x (z_C_T s0.C zt)) ?_)⟩⟩⟩
      rw [g1.a 24, z_C_st s0.C]
      refine ⟨fun c => (bad 0 (fun x => ?_)).1 rfl, fun c => m_t0 g1 (fun S2 g2 => ?_)⟩
      · obtain ⟨_, _, b', y, st, _⟩ := x
        rw [eb] at y
        cases y
        have := (nI_ltI (by show Z 24 b < _; omega) (by omega)).mp c
        have e : up Z 0 0 0 24 b = Z 24 b := rfl
        omega
      · have st : z_st Z t ≤ Z 24 b := Nat.le_of_not_lt (fun x => c ((nI_ltI (by show Z 24 b < _; omega) (by omega)).mpr x))
        have f20 : gI S2 1120 m = nI (Z 20 0) := g2.i 20
        have sc2 : z_scr Z (up (up Z 0 0 0) 0 0 0) := s0.up (by decide)
        have hI2 := hI.scr sc2
        rw [f20]
        refine m_bandOf g2 hI2.M hI2.P hI2.T hI2.R4 hd (Nat.le_refl _) ⟨g2.1, g2.wI 26 (z_on (z_ba Z (Z 20 0))) (by rw [z_ba_scr sc2, z_on_oi]) (fun S3 g3 => ⟨Or.inr rfl, g3.wI 27 1 rfl (fun S4 g4 => g4.wI 28 t rfl (fun S5 g5 => g5.wI 29 p rfl (fun S6 g6 => g6.wI 30 g rfl (fun S7 g7 => g7.wI 31 0 rfl (fun S8 g8 => g8.wI 32 0 rfl (fun S9 g9 => ⟨7, ?_⟩))))))⟩)⟩
        refine m_ring_L (fun Z' S' g' a b' => ⟨g'.1, k0 z27 c41 ⟨b, eb, st, ty⟩ Z' S' g' ?_ ?_ ?_ ?_⟩) 7 0 _ S9 g9 (fun _ _ => rfl) (fun b => by rw [if_neg (Nat.not_lt_zero b)]) (by omega) (by omega)
        · have ea : ∀ f, f ≠ 0 → Z' f = zRing Z t p g f := by
            intro f hf
            by_cases e : f = 34
            · subst e
              funext i
              rw [b' i, zRing_34]
              rfl
            · rw [a f e, zRing_f e]
              funext i
              have : ∀ (Y W : zZ) (f' i' v : Nat), Y f i = W f i → up Y f' i' v f i = up W f' i' v f i := fun Y W f' i' v e => by
                unfold up
                split
                · rfl
                · exact e
              refine this _ _ _ _ _ (this _ _ _ _ _ (this _ _ _ _ _ (this _ _ _ _ _ (this _ _ _ _ _ (this _ _ _ _ _ (this _ _ _ _ _ ?_))))))
              rw [up_f hf, up_f hf]
          have eday : ∀ d, z_day Z' d = z_day (zRing Z t p g) d := z_day_congr (ea 21 (by decide)) (ea 22 (by decide))
          exact ⟨fun f hf => ea f (fun e => hf (by rw [e]; decide)), fun i _ => by rw [ea 18 (by decide)], by rw [ea 23 (by decide)], ⟨by rw [ea 27 (by decide)], by rw [ea 40 (by decide)], by rw [ea 41 (by decide)]⟩, fun d _ => eday d⟩
        · rw [a 0 (by decide)]
          rfl
        · rw [a 3 (by decide)]
          rfl
        · rw [a 10 (by decide)]
          rfl
end RNG
