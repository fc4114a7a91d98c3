/-! pull, the reference -/
def zPull (Z : zZ) (b t ne dl lt er : Nat) : zZ := up (up (up (up (up (up (up (up Z 38 b (Z 38 b + ne)) 36 b (Z 36 b + lt)) 37 b (Z 37 b + er)) 32 0 dl) 35 (240 * b + Z 34 b) t) 17 b (Z 17 b + (1 + Z 34 b % 2))) 17 (6 + b) (Z 17 (6 + b) + 1)) 34 b (Z 34 b + 1)
theorem up_cg {Y W : zZ} {f i f' i' v : Nat} (e : Y f i = W f i) : up Y f' i' v f i = up W f' i' v f i := by
  unfold up
  split
  · rfl
  · exact e
theorem zPull_eq {Z Z' : zZ} {b t ne dl lt er : Nat} (s : z_scr Z Z') : ∀ f, f ∉ [0, 13, 14, 15, 16] → zPull Z' b t ne dl lt er f = zPull Z b t ne dl lt er f := by
  intro f hf
  funext i
  unfold zPull
  rw [s 38 (by decide), s 36 (by decide), s 37 (by decide), s 17 (by decide), s 34 (by decide)]
  exact up_cg (up_cg (up_cg (up_cg (up_cg (up_cg (up_cg (up_cg (congrFun (s f hf) i))))))))
theorem zPull_ag {Z : zZ} {b t ne dl lt er : Nat} : agZ [38, 36, 37, 32, 35, 17, 34] Z (zPull Z b t ne dl lt er) := ((((((((agZ.refl _ _).u).u).u).u).u).u).u).u
section PLM
variable {E : zE} {ma : Nat → Nat} {Z : zZ} {m : Nat} {S : zS} {X : String → zS → Prop}
theorem RM.o (h : RM ma Z m S) (f : Nat) (hf : 0 < rm_n f := by decide) : ma f ∈ gL S ∧ gK S (ma f) = rm_k f := (h.2.1 f hf).2.1
theorem m_pull40 {Q : Int32 → zS → Prop} {l1 l2 : Int32} {j : Nat} (h : RM ma Z m S) (hj : 1 ≤ j ∧ j ≤ 3) (k : ∀ S', RM ma (up Z 0 0 j) m S' → Q 0 S') : p_X11_pull_J40 E Q X m l1 l2 (nI j) m S := m_tk h j hj rfl k
theorem m_pull205 {Q : Int32 → zS → Prop} {b t r er : Nat} {e : Int32} {g6 : Int64} {dl : Nat} (h : RM ma Z m S) (hb : b < 6) (hr : r < 240) (er34 : Z 34 b = r) (e6 : g6.toInt32 = nI dl)
    (k : ∀ S', RM ma (up (z_bw (up (up (up Z 37 b (Z 37 b + er)) 32 0 dl) 35 (240 * b + r) t) b r) 34 b (r + 1)) m S' → p_X11_goesOn E m S' (fun (r84 : Int32) (S83 : zS) => ((0 ≤ r84) → Q e S83) ∧ ((¬ 0 ≤ r84) → Q 0 S83)) (fun _ _ => False)) : p_X11_pull_J205 E Q X m (nI b) (nI t) e g6 (nI er) (nI (Z 37 b)) (nI b) (ma 37) S := by
  refine ⟨h.o 37, h.ix 37 b rfl hb (h.wA 37 b (Z 37 b + er) (nI_add _ _) (fun S1 g1 => ⟨g1.1, g1.wI 32 dl e6 (fun S2 g2 => g2.ij 34 b rfl hb (g2.ij 35 (240 * b + r) ?_ (by show _ < 1440; omega) (g2.wA 35 (240 * b + r) t rfl (fun S3 g3 => g3.ij 34 b rfl hb ?_))))⟩))⟩
  · rw [g2.a 34, show (240 : Int32) * nI b = nI (240 * b) from pk_mul 240 b, nI_add]
    show nI (240 * b + Z 34 b) = _
    rw [er34]
  · have e3 : gA S3 (ma 34) b = nI r := by
      rw [g3.a 34, ← er34]
      rfl
    rw [e3]
    refine m_blows g3 hb (by omega) (fun S4 g4 => ⟨g4.1, g4.ij 34 b rfl hb (g4.ix 34 b rfl hb (g4.wA 34 b (r + 1) ?_ (fun S5 g5 => k S5 g5)))⟩)
    rw [g4.a 34, ← er34]
    exact nI_1 _
theorem m_pullN {Q : Int32 → zS → Prop} {b t : Nat} (h : RM ma Z m S) (hI : IZ Z) (hb : b < 6) (ht : t ≤ 2000000000) (no : ¬ (Z 27 0 = 1 ∧ z_pp Z b = true ∧ Z 34 b < z_L Z (Z 28 0)))
    (k3 : ∀ Z' S', RM ma Z' m S' → z_scr Z Z' → Z' 0 0 = 3 → Q 0 S') : p_X11_pull E m (nI b) (nI t) S Q X := by
  have hon : Z 27 0 = 1 → Z 28 0 = Z 28 0 ∧ z_T Z (Z 28 0) ∧ Z 29 0 < 64 ∧ ∀ b, b < 6 → Z 34 b < 2 ^ 31 := fun e => by
    have g := hI.g.2 e
    have ht := hI.T.2 _ g.1
    have := z_pow6 (z_T_N hI.M ht)
    exact ⟨rfl, ht, by omega, fun b hb => by have := hI.n.2.2.1 b hb; omega⟩
  refine w1_isBell1 hb ⟨fun _ => w1_inR1 (lo := 0) (hi := 2000000000) (Nat.zero_le _) ht (by decide) ⟨fun _ => ⟨h.1, m_hasPull (t := Z 28 0) h hI.M hI.g.1 hon hb (fun _ Z1 S1 g1 hE => ⟨fun _ => m_pull40 (j := 3) g1 (by omega) (fun S2 g2 => k3 _ S2 g2 (((z_scr.refl Z).E hE).up (by decide)) (up_s _ _ _ _)), fun x => absurd rfl x⟩) (fun a1 a2 a3 => absurd ⟨a1, a2, a3⟩ no)⟩, fun x => absurd x (by decide)⟩, fun x => absurd x (by decide)⟩
theorem m_pullY {Q : Int32 → zS → Prop} {b t p0 ne d : Nat} (h : RM ma Z m S) (hI : IZ Z) (hb : b < 6) (ht : t ≤ 2000000000) (on : Z 27 0 = 1) (pp : z_pp Z b = true) (rl : Z 34 b < z_L Z (Z 28 0))
    (hp0 : p0 < 6) (h4 : ro_bl (z_f Z (Z 28 0) (Z 34 b)) p0 = b) (h5 : ∀ q, q < p0 → ro_bl (z_f Z (Z 28 0) (Z 34 b)) q ≠ b) (hd : z_du Z (Z 34 b) p0 = d) (hd2 : d < 2 ^ 31) (en : nI t - nI d = nI ne)
    (k3 : ¬ (lg_cmp ((nI (Z 38 b)).toInt64 + (nI ne).toInt64) ((nI (Z 38 b)).toInt64 + (nI ne).toInt64).toInt32.toInt64 = 0 ∧ (t ≤ d + Z 33 0 ∨ Z 32 0 + t ≤ 2000000000 + d + Z 33 0)) → ∀ Z' S', RM ma Z' m S' → z_scr Z Z' → Z' 0 0 = 3 → Q 0 S')
    (k0 : lg_cmp ((nI (Z 38 b)).toInt64 + (nI ne).toInt64) ((nI (Z 38 b)).toInt64 + (nI ne).toInt64).toInt32.toInt64 = 0 → (t ≤ d + Z 33 0 ∨ Z 32 0 + t ≤ 2000000000 + d + Z 33 0) → ∀ Z' S', RM ma (zPull Z' b t ne (if t ≤ d + Z 33 0 then Z 32 0 else Z 32 0 + (t - d - Z 33 0)) (if nI ne ≤ nI (Z 30 0) / 4 then 0 else 1) (if -(nI (Z 30 0) / 4) ≤ nI ne then 0 else 1)) m S' → z_scr Z Z' → Z' 0 0 = 0 →
      p_X11_goesOn E m S' (fun (r84 : Int32) (S83 : zS) => ((0 ≤ r84) → Q (nI ne) S83) ∧ ((¬ 0 ≤ r84) → Q 0 S83)) (fun _ _ => False)) : p_X11_pull E m (nI b) (nI t) S Q X := by
  have g := hI.g.2 on
  have zt := hI.T.2 _ g.1
  have hL := z_L_bd hI.M zt
  have p6 := z_pow6 (z_T_N hI.M zt)
  have n33 := hI.n.2.1
  have n32 := g.2.2.2.2.2.1
  have r240 : Z 34 b < 240 := by omega
  have hon : Z 27 0 = 1 → Z 28 0 = Z 28 0 ∧ z_T Z (Z 28 0) ∧ Z 29 0 < 64 ∧ ∀ b, b < 6 → Z 34 b < 2 ^ 31 := fun e => ⟨rfl, zt, by omega, fun b hb => by have := hI.n.2.2.1 b hb; omega⟩
  refine w1_isBell1 hb ⟨fun _ => w1_inR1 (lo := 0) (hi := 2000000000) (Nat.zero_le _) ht (by decide) ⟨fun _ => ⟨h.1, m_hasPull (t := Z 28 0) h hI.M hI.g.1 hon hb (fun no _ _ _ _ => absurd ⟨on, pp, rl⟩ no) (fun _ _ _ Z1 S1 g1 hE hW => ⟨fun x => absurd x (by decide), fun _ => m_t0 g1 (fun S2 g2 => ?_)⟩)⟩, fun x => absurd x (by decide)⟩, fun x => absurd x (by decide)⟩
  have sc : z_scr Z (up Z1 0 0 0) := ((z_scr.refl Z).E hE).up (by decide)
  have hI2 := hI.scr sc
  have e34 : up Z1 0 0 0 34 = Z 34 := sc 34 (by decide)
  have eL := z_C_L sc.C
  have ef := z_C_f sc.C
  have edu : z_du (up Z1 0 0 0) = z_du Z := by
    unfold z_du
    rw [sc 30 (by decide), sc 32 (by decide), sc 28 (by decide), z_C_st sc.C]
  refine m_dueOf (n := 0) (t := Z 28 0) (p0 := p0) g2 hI2.M (congrFun (sc 28 (by decide)) 0) (hI2.T.2 _ (by rw [sc 10 (by decide)]; exact g.1)) (by rw [z_C_st sc.C, z_C_cs sc.C]; exact hW) hb (by rw [e34, eL]; exact rl) hp0 (by rw [e34, ef]; exact h4) (by rw [e34, ef]; exact h5) ⟨g2.1, g2.ij 38 b rfl hb ?_⟩
  have e38 : gA S2 (ma 38) b = nI (Z 38 b) := by rw [g2.a 38, sc 38 (by decide)]
  have e33 : gI S2 1133 m = nI (Z 33 0) := (g2.i 33).trans (by rw [sc 33 (by decide)])
  have e32 : gI S2 1132 m = nI (Z 32 0) := (g2.i 32).trans (by rw [sc 32 (by decide)])
  have i30 : Z 30 0 < 2 ^ 31 := by omega
  rw [e34, edu, hd, en, e38, e33, e32]
  have bad : ∀ (g4 g6 : Int64), ¬ (lg_cmp ((nI (Z 38 b)).toInt64 + (nI ne).toInt64) ((nI (Z 38 b)).toInt64 + (nI ne).toInt64).toInt32.toInt64 = 0 ∧ (t ≤ d + Z 33 0 ∨ Z 32 0 + t ≤ 2000000000 + d + Z 33 0)) → p_X11_pull_J132 E Q X m (nI b) (nI t) (nI ne) g4 g6 m S2 := fun g4 g6 no =>
    m_tk g2 3 (by omega) rfl (fun S3 g3 => k3 no _ S3 g3 (sc.up (by decide)) (up_s _ _ _ _))
  have good : ∀ (g6 : Int64), lg_cmp ((nI (Z 38 b)).toInt64 + (nI ne).toInt64) ((nI (Z 38 b)).toInt64 + (nI ne).toInt64).toInt32.toInt64 = 0 → (t ≤ d + Z 33 0 ∨ Z 32 0 + t ≤ 2000000000 + d + Z 33 0) → g6.toInt32 = nI (if t ≤ d + Z 33 0 then Z 32 0 else Z 32 0 + (t - d - Z 33 0)) → p_X11_pull_J137 E Q X m (nI b) (nI t) (nI ne) ((nI (Z 38 b)).toInt64 + (nI ne).toInt64) g6 0 m S2 := by
    intro g6 y1 y2 y6
    refine m_t0 g2 (fun S3 g3 => g3.ij 38 b rfl hb (g3.wA 38 b (Z 38 b + ne) (by rw [pu_add, nI_add]) (fun S4 g4 => g4.ij 36 b rfl hb ?_)))
    have sc3 : z_scr Z (up (up Z1 0 0 0) 0 0 0) := sc.up (by decide)
    have e30 : gI S4 1130 m = nI (Z 30 0) := (g4.i 30).trans (by rw [up_f (by decide), sc3 30 (by decide)])
    rw [e30]
    -- the counts of late and early pulls
    have c3 : ∀ (lt : Nat) (S5 : zS), RM ma (up (up (up (up Z1 0 0 0) 0 0 0) 38 b (Z 38 b + ne)) 36 b (Z 36 b + lt)) m S5 → lt = (if nI ne ≤ nI (Z 30 0) / 4 then 0 else 1) → (m ∈ gL S5 ∧ gK S5 m = 11) ∧ ∃ b41, (gR S5 1137 m) = some b41 ∧ (b41 ∈ gL S5 ∧ gK S5 b41 = 12) ∧ ∃ j44, (nI b = nI j44 ∧ j44 < gN S5 b41 ∧ gN S5 b41 < 2 ^ 31) ∧ (((-((gI S5 1130 m) / 4)) ≤ nI ne) → p_X11_pull_J205 E Q X m (nI b) (nI t) (nI ne) g6 0 (gA S5 b41 j44) (nI b) b41 S5) ∧ ((¬ (-((gI S5 1130 m) / 4)) ≤ nI ne) → p_X11_pull_J205 E Q X m (nI b) (nI t) (nI ne) g6 1 (gA S5 b41 j44) (nI b) b41 S5) := by
      intro lt S5 g5 elt
      have f30 : gI S5 1130 m = nI (Z 30 0) := (g5.i 30).trans (by rw [up_f (by decide), up_f (by decide), sc3 30 (by decide)])
      have e37 : (up (up (up (up Z1 0 0 0) 0 0 0) 38 b (Z 38 b + ne)) 36 b (Z 36 b + lt)) 37 b = Z 37 b := by
        rw [up_f (by decide), up_f (by decide), sc3 37 (by decide)]
      have d34 : (up (up (up (up Z1 0 0 0) 0 0 0) 38 b (Z 38 b + ne)) 36 b (Z 36 b + lt)) 34 b = Z 34 b := by
        rw [up_f (by decide), up_f (by decide), sc3 34 (by decide)]
      have fin : ∀ (er : Nat) (S6 : zS), er = (if -(nI (Z 30 0) / 4) ≤ nI ne then 0 else 1) → RM ma (up (z_bw (up (up (up (up (up (up (up Z1 0 0 0) 0 0 0) 38 b (Z 38 b + ne)) 36 b (Z 36 b + lt)) 37 b ((up (up (up (up Z1 0 0 0) 0 0 0) 38 b (Z 38 b + ne)) 36 b (Z 36 b + lt)) 37 b + er)) 32 0 (if t ≤ d + Z 33 0 then Z 32 0 else Z 32 0 + (t - d - Z 33 0))) 35 (240 * b + Z 34 b) t) b (Z 34 b)) 34 b (Z 34 b + 1)) m S6 → p_X11_goesOn E m S6 (fun (r84 : Int32) (S83 : zS) => ((0 ≤ r84) → Q (nI ne) S83) ∧ ((¬ 0 ≤ r84) → Q 0 S83)) (fun _ _ => False) := by
        intro er S6 eer g6'
        refine k0 y1 y2 (up (up Z1 0 0 0) 0 0 0) S6 ?_ sc3 (up_s _ _ _ _)
        rw [← elt, ← eer]
        unfold zPull
        rw [sc3 34 (by decide), sc3 38 (by decide), sc3 36 (by decide)]
        exact g6'
      refine ⟨g5.1, g5.ij 37 b rfl hb ?_⟩
      rw [f30, g5.a 37]
      refine ⟨fun c => m_pull205 (er := 0) g5 hb r240 d34 y6 (fun S6 g6' => fin 0 S6 (by rw [if_pos c]) g6'), fun c => m_pull205 (er := 1) g5 hb r240 d34 y6 (fun S6 g6' => fin 1 S6 (by rw [if_neg c]) g6')⟩
    have e36 : gA S4 (ma 36) b = nI (Z 36 b) := by rw [g4.a 36, up_f (by decide), sc3 36 (by decide)]
    rw [e36]
    refine ⟨fun c => ⟨g4.o 36, g4.ix 36 b rfl hb (g4.wA 36 b (Z 36 b + 0) (nI_add _ 0) (fun S5 g5 => c3 0 S5 g5 (by rw [if_pos c])))⟩, fun c => ⟨g4.o 36, g4.ix 36 b rfl hb (g4.wA 36 b (Z 36 b + 1) (nI_add _ 1) (fun S5 g5 => c3 1 S5 g5 (by rw [if_neg c])))⟩⟩
  have J : ∀ (g6 : Int64), (lg_cmp g6 2000000000 ≤ 0 ↔ (t ≤ d + Z 33 0 ∨ Z 32 0 + t ≤ 2000000000 + d + Z 33 0)) → ((t ≤ d + Z 33 0 ∨ Z 32 0 + t ≤ 2000000000 + d + Z 33 0) → g6.toInt32 = nI (if t ≤ d + Z 33 0 then Z 32 0 else Z 32 0 + (t - d - Z 33 0))) → p_X11_pull_J102 E Q X m (nI b) (nI t) (nI ne) ((nI (Z 38 b)).toInt64 + (nI ne).toInt64) g6 S2 := by
    intro g6 y y6
    refine ⟨fun c => bad _ _ (fun x => (lg_room.mp x.1).1 c), fun c1 => ⟨fun c => bad _ _ (fun x => (lg_room.mp x.1).2 c), fun c2 => ⟨fun c => good g6 (lg_room.mpr ⟨c1, c2⟩) (y.mp c) (y6 (y.mp c)), fun c => bad _ _ (fun x => c (y.mpr x.2))⟩⟩⟩
  have le : nI ne ≤ nI (Z 33 0) ↔ t ≤ d + Z 33 0 := by
    rw [← en]
    exact pu_le (by omega) hd2 (by omega)
  refine ⟨fun c => J _ ⟨fun _ => Or.inl (le.mp c), fun _ => ?_⟩ (fun _ => ?_), fun c => ?_⟩
  · rw [lg_le0, Int32.toInt_toInt64, nI_toInt (by omega), show (2000000000 : Int64).toInt = 2000000000 from by decide]
    omega
  · rw [if_pos (le.mp c)]
    exact pu_32 (by rw [Int32.toInt_toInt64, nI_toInt (by omega)]) (by omega)
  · have nl : ¬ t ≤ d + Z 33 0 := fun x => c (le.mpr x)
    have dl := pu_dl (t := t) (d := d) (p := Z 33 0) (l := Z 32 0) (by omega) n32 ht hd2 (by omega)
    rw [en] at dl
    refine J _ ?_ (fun y => ?_)
    · rw [lg_le0, dl, show (2000000000 : Int64).toInt = 2000000000 from by decide]
      omega
    · rw [if_neg nl]
      exact pu_32 (by rw [dl]; omega) (by omega)
end PLM
