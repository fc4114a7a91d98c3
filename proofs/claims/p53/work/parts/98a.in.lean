def zS0 : zS := ([], fun _ => 0, fun _ _ => 0, fun _ _ => none, fun _ => 0, fun _ _ => 0, fun _ _ => none)
/-! the class's new object: what it is made of -/
theorem sR_id {S : zS} {f a : Nat} {o : Option Nat} (h : gR S f a = o) : sR S f a o = S := by
  have e : (fun g b => if g = f ∧ b = a then o else gR S g b) = gR S := by
    funext g b
    split
    · rename_i c
      rw [c.1, c.2, h]
    · rfl
  show (S.1, S.2.1, S.2.2.1, (fun g b => if g = f ∧ b = a then o else gR S g b), S.2.2.2.2) = S
  rw [e]
  rfl
section INI
variable {E : zE} {ad la : Nat → Nat → Nat} {n : Nat → Nat} {V : vV} {S : zS} {X : String → zS → Prop}
theorem RC.zero : RC E ad la (fun _ => 0) V S :=
  ⟨⟨fun _ _ _ h => absurd h (Nat.not_lt_zero _), fun _ _ _ _ _ _ h => absurd h (Nat.not_lt_zero _), fun _ _ _ h => absurd h (Nat.not_lt_zero _), fun _ _ h => absurd h (Nat.lt_irrefl 0), fun _ _ h => absurd h (Nat.lt_irrefl 0), fun h => absurd h (Nat.lt_irrefl 0), fun h => absurd h (Nat.lt_irrefl 0), fun h => absurd h (Nat.lt_irrefl 0), fun h => absurd h (Nat.lt_irrefl 0), fun _ _ _ h => absurd h (Nat.not_lt_zero _), fun _ _ _ _ _ _ h => absurd h (Nat.not_lt_zero _)⟩, fun _ _ _ h => absurd h (Nat.not_lt_zero _), fun _ _ _ h => absurd h (Nat.not_lt_zero _)⟩
theorem RC.nw (h : RC E ad la n V S) (c i : Nat) {P : Nat → zS → Prop} (hc : 1 ≤ c ∧ c ≤ 10) (ei : n c = i) (h9 : c = 10 → n 1009 = 0) (k : ∀ ad' q, RC E ad' la (va_up n c (i + 1)) (vz V c i) (nO S q c) → ad' c i = q → (∀ s j, j < n s → ad' s j = ad s j) → P q (nO S q c)) : ∀ q, q ∉ gL S → ∀ S', S' = nO S q c → P q S' := by
  rintro q hq _ rfl
  subst ei
  refine k _ q (h.newO hc hq h9) (a2_s _ _ _ _) (fun s j hj => ?_)
  by_cases e : s = c
  · subst e
    exact a2_i (by omega)
  · rw [a2_t e]
/-- a bell or a day goes into its array -/
theorem RC.lkQ (h : RC E ad la n V S) {f c s12 j : Nat} (hf : (f = 100 ∧ c = 2 ∧ s12 = 12002) ∨ (f = 801 ∧ c = 4 ∧ s12 = 12004)) (h0 : 0 < n f) (hj : n s12 = j) (hc : j < n c) : RC E ad la (va_up n s12 (j + 1)) V (sQ S (ad f 0) j (some (ad c j))) := by
  have o := h.1.1
  have inj := h.1.2.1
  have of : so f = true ∧ f < 2000 ∧ (kd f = 14 ∨ kd f = 15) := by
    rcases hf with ⟨rfl, _, _⟩ | ⟨rfl, _, _⟩ <;> decide
  have s12b : 12000 < s12 := by
    rcases hf with ⟨_, _, rfl⟩ | ⟨_, _, rfl⟩ <;> decide
  have nn : ∀ s, s < 12000 → va_up n s12 (j + 1) s = n s := fun s hs => va_up_ne _ _ (by omega)
  have qe : ∀ a, a ≠ ad f 0 → gQ (sQ S (ad f 0) j (some (ad c j))) a = gQ S a := fun a ha => funext fun b => by rw [gQ_sQ, if_neg (fun e => ha e.1)]
  have sol : ∀ s, so s = true → s < 12000 := fun s hs => by
    have : ∀ s, s ∈ [1, 2, 3, 4, 5, 6, 7, 8, 9, 10, 1000, 1003, 906, 400, 1001, 504, 505, 506, 600, 907, 908, 205, 206, 207, 800, 100, 801] → s < 12000 := by decide
    exact this s (by simpa [so] using hs)
  obtain ⟨⟨a1, a2', a3, a4, a5, a6, a7, a8, a9, a10, a11⟩, d1, d2⟩ := h
  have ofo := o f 0 of.1 h0
  refine ⟨⟨fun s i hs hi => ?_, fun s i t j' hs ht hi hj' => ?_, fun g i hg hi => ?_, fun p hp hp2 => ?_, fun g hg hi => ?_, fun hn => ?_, fun hn => ?_, fun hn => ?_, fun hn => ?_, fun g i hg hi => ?_, fun g i g' j' hg hg' hi hj' => ?_⟩, fun g i hg hi => ?_, fun g i hg hi => ?_⟩
  · rw [nn s (sol s hs)] at hi
    exact a1 s i hs hi
  · rw [nn s (sol s hs)] at hi
    rw [nn t (sol t ht)] at hj'
    exact a2' s i t j' hs ht hi hj'
  · have := sol g (cR_ok g hg).1
    rw [nn g this] at hi
    rw [nn _ (by have := cR_own g hg; omega)]
    exact a3 g i hg hi
  · have : ∀ p, p ∈ cS → p.1 < 12000 ∧ p.2 < 12000 := by decide
    have w := this p hp
    rw [nn _ w.1] at hp2
    rw [nn _ w.2, nn _ (by have := cS_own p hp; omega)]
    exact a4 p hp hp2
  · have : ∀ g, g ∈ cV → g < 12000 := by decide
    rw [nn _ (this g hg)] at hi
    rw [nn 9 (by decide), nn _ (by have := cV_own g hg; omega)]
    exact a5 g hg hi
  · rw [nn 1009 (by decide)] at hn
    rw [nn 10 (by decide), nn 7 (by decide)]
    exact a6 hn
  · rw [nn 703 (by decide)] at hn
    rw [nn 7 (by decide), nn 100 (by decide)]
    exact a7 hn
  · rw [nn 100 (by decide)] at hn
    have w := a8 hn
    rw [nn 2 (by decide)]
    refine ⟨w.1, fun b hb => ?_⟩
    rcases hf with ⟨rfl, rfl, rfl⟩ | ⟨rfl, rfl, rfl⟩
    · rw [va_up_self] at hb
      rw [gQ_sQ]
      by_cases e : b = j
      · rw [if_pos ⟨rfl, e⟩, e]
        exact ⟨hc, rfl⟩
      · rw [if_neg (fun x => e x.2)]
        exact w.2 b (by omega)
    · rw [va_up_ne _ _ (by decide)] at hb
      rw [qe _ (fun e => absurd (a2' 100 0 801 0 rfl rfl hn h0 e).1 (by decide))]
      exact w.2 b hb
  · rw [nn 801 (by decide)] at hn
    have w := a9 hn
    rw [nn 4 (by decide)]
    refine ⟨w.1, fun b hb => ?_⟩
    rcases hf with ⟨rfl, rfl, rfl⟩ | ⟨rfl, rfl, rfl⟩
    · rw [va_up_ne _ _ (by decide)] at hb
      rw [qe _ (fun e => absurd (a2' 801 0 100 0 rfl rfl hn h0 e).1 (by decide))]
      exact w.2 b hb
    · rw [va_up_self] at hb
      rw [gQ_sQ]
      by_cases e : b = j
      · rw [if_pos ⟨rfl, e⟩, e]
        exact ⟨hc, rfl⟩
      · rw [if_neg (fun x => e x.2)]
        exact w.2 b (by omega)
  · rw [nn g (sol g (cL_so g hg))] at hi
    have w := a10 g i hg hi
    unfold LI
    rw [nn (el g) (by have := el_lt g; omega)]
    refine ⟨w.1, ?_⟩
    rcases w.2 with y | ⟨p1, p2, p3, p4, p5, p6⟩
    · exact Or.inl y
    · refine Or.inr ⟨p1, p2, p3, p4, p5, ?_⟩
      rw [qe _ (fun e => by
        have := p4.2
        rw [e] at this
        have o2 : gK S (ad f 0) = kd f := ofo.2
        rw [o2] at this
        rcases of.2.2 with x | x <;> omega)]
      exact p6
  · rw [nn g (sol g (cL_so g hg))] at hi
    rw [nn g' (sol g' (cL_so g' hg'))] at hj'
    exact a11 g i g' j' hg hg' hi hj'
  · have := cI_own g hg
    rw [nn _ (by omega)] at hi
    exact d1 g i hg hi
  · rw [nn g (sol g (cA_ok g hg).1)] at hi
    exact d2 g i hg hi
theorem c_newTouchG {P : Nat → zS → Prop} {T : Nat} (h : RC E ad la n V S) (h9 : n 9 = T) (h906 : n 906 = T) (h907 : n 907 = T) (h908 : n 908 = T) (k : ∀ ad' q V' S', RC E ad' la (va_up (va_up (va_up (va_up n 9 (T + 1)) 906 (T + 1)) 907 (T + 1)) 908 (T + 1)) V' S' → ad' 9 T = q → (∀ s i, i < n s → ad' s i = ad s i) → (∀ f, f ∉ [900, 901, 902, 903, 904, 905, 906, 907, 908, 4906, 4907, 4908] → V' f = V f) → (∀ f a, a ≠ T → V' f a = V f a) → V' 906 T 0 = 0 → P q S') :
    ∀ q, q ∉ gL S → ∀ S3, S3 = nO S q 9 → p_X9_init E q S3 (P q) X := by
  refine h.nw 9 T (P := fun q S3 => p_X9_init E q S3 (P q) X) (by decide) h9 (fun e => absurd e (by decide)) (fun adx q g eq ea => ?_)
  have vc : ∀ f, f ∉ [900, 901, 902, 903, 904, 905, 906, 907, 908, 4906, 4907, 4908] → vz V 9 T f = V f := fun f hf => by
    by_cases e : f ∈ cI
    · have : ∀ f, f ∈ cI → f ∉ [900, 901, 902, 903, 904, 905, 906, 907, 908, 4906, 4907, 4908] → f / 100 ≠ 9 := by decide +kernel
      exact vz_c (this f e hf)
    · exact vz_no e
  generalize nO S q 9 = S0 at *
  subst eq
  have n9 : T < va_up n 9 (T + 1) 9 := by
    rw [va_up_self]
    exact Nat.lt_succ_self T
  have e6 : va_up n 9 (T + 1) 906 = T := (va_up_ne _ _ (by decide)).trans h906
  have e7 : va_up (va_up n 9 (T + 1)) 906 (T + 1) 907 = T := (va_up_ne _ _ (by decide)).trans ((va_up_ne _ _ (by decide)).trans h907)
  have e8 : va_up (va_up (va_up n 9 (T + 1)) 906 (T + 1)) 907 (T + 1) 908 = T := (va_up_ne _ _ (by decide)).trans ((va_up_ne _ _ (by decide)).trans ((va_up_ne _ _ (by decide)).trans h908))
  refine ⟨g.o 9 T n9, g.uI 900 9 T 4294967295 n9 cm1 (fun S2 g2 => g2.uI 903 9 T 4294967295 n9 cm1 (fun S4 g4 => g4.uI 904 9 T 4294967295 n9 cm1 (fun S6 g6 => g6.nwL 906 T rfl e6 (by rw [e6]; exact n9) (fun ad1 S15 e1 g15 => g15.nwA 907 T (e1 9 T n9) e7 (by rw [e7]; exact n9) (fun ad2 S24 e2 g24 => g24.nwA 908 T ((e2 9 T n9).trans (e1 9 T n9)) e8 (by rw [e8]; exact n9) (fun ad3 S33 e3 g33 => ?_))))))⟩
  refine k ad3 _ _ S33 g33 ((e3 9 T n9).trans ((e2 9 T n9).trans (e1 9 T n9))) (fun s i hi => ?_) (fun f hf => ?_) (fun f a ha => ?_) ?_
  · have l1 : n s ≤ va_up n 9 (T + 1) s := by
      by_cases e : s = 9
      · rw [e, va_up_self, h9]
        exact Nat.le_succ T
      · rw [va_up_ne _ _ e]
        exact Nat.le_refl _
    have l2 : n s ≤ va_up (va_up n 9 (T + 1)) 906 (T + 1) s := by
      by_cases e : s = 906
      · rw [e, va_up_self, h906]
        exact Nat.le_succ T
      · rw [va_up_ne _ _ e]
        exact l1
    have l3 : n s ≤ va_up (va_up (va_up n 9 (T + 1)) 906 (T + 1)) 907 (T + 1) s := by
      by_cases e : s = 907
      · rw [e, va_up_self, h907]
        exact Nat.le_succ T
      · rw [va_up_ne _ _ e]
        exact l2
    rw [e3 s i (Nat.lt_of_lt_of_le hi l3), e2 s i (Nat.lt_of_lt_of_le hi l2), e1 s i (Nat.lt_of_lt_of_le hi l1), ea s i hi]
  · have m : f ≠ 900 ∧ f ≠ 903 ∧ f ≠ 904 ∧ f ≠ 906 ∧ f ≠ 907 ∧ f ≠ 908 ∧ f ≠ 4906 ∧ f ≠ 4907 ∧ f ≠ 4908 := by
      simp only [List.mem_cons, List.not_mem_nil, or_false] at hf
      omega
    rw [vF_f m.2.2.2.2.2.1 m.2.2.2.2.2.2.2.2, vF_f m.2.2.2.2.1 m.2.2.2.2.2.2.2.1, vF_f m.2.2.2.1 m.2.2.2.2.2.2.1, u3_f m.2.2.1, u3_f m.2.1, u3_f m.1]
    exact vc f hf
  · rw [vF_i ha, vF_i ha, vF_i ha, u3_i ha, u3_i ha, u3_i ha]
    exact vz_i ha
  · rw [vF_f (by decide) (by decide), vF_f (by decide) (by decide), vF_s]
/-! bells -/
def nB (n : Nat → Nat) (j : Nat) : Nat → Nat := fun s => if s = 2 ∨ s = 205 ∨ s = 206 ∨ s = 207 ∨ s = 12002 then j else n s
theorem nB_0 {s j : Nat} (h : s ≠ 2 ∧ s ≠ 205 ∧ s ≠ 206 ∧ s ≠ 207 ∧ s ≠ 12002) : nB n j s = n s := if_neg (by omega)
theorem c_bells_L {K Q : zS → Prop} (h1 : n 1 = 1) (h100 : n 100 = 1) (k : ∀ ad' V' S', RC E ad' la (nB n 6) V' S' → (∀ s i, i < n s → s ≠ 2 → s ≠ 205 → s ≠ 206 → s ≠ 207 → s < 12000 → ad' s i = ad s i) → (∀ f, f ∉ [200, 201, 202, 203, 204, 205, 206, 207, 4205, 4206, 4207] → V' f = V f) → (∀ f, f ∈ [200, 201, 202, 203, 204, 205, 206, 207] → ∀ i j, V' f i j = 0) → K S') :
    ∀ (w j : Nat) (ad' : Nat → Nat → Nat) (V' : vV) (S : zS), RC E ad' la (nB n j) V' S → (∀ s i, i < n s → s ≠ 2 → s ≠ 205 → s ≠ 206 → s ≠ 207 → s < 12000 → ad' s i = ad s i) → (∀ f, f ∉ [200, 201, 202, 203, 204, 205, 206, 207, 4205, 4206, 4207] → V' f = V f) → (∀ f, f ∈ [200, 201, 202, 203, 204, 205, 206, 207] → ∀ i j, V' f i j = 0) → j ≤ 6 → 6 < j + w → p_X0_init_L15 E K Q X w (ad 1 0) (nI j) S
  | 0, j, ad', V', S, h, a, b, c, d, e => by omega
  | w + 1, j, ad', V', S, h, a, b, c, d, e => by
    have i1 : 0 < nB n j 1 := by rw [nB_0 (by decide), h1]; decide
    have i100 : 0 < nB n j 100 := by rw [nB_0 (by decide), h100]; decide
    have e1 : ad' 1 0 = ad 1 0 := a 1 0 (by rw [h1]; decide) (by decide) (by decide) (by decide) (by decide) (by decide)
    have o1 := h.o 1 0 i1
    have r100 := (h.1.2.2.1 100 0 (by decide) i100).2
    rw [show (100 : Nat) / 100 = 1 from rfl] at r100
    rw [e1] at o1 r100
    refine pk_le 6 j (fun h3 => ?_) (fun h3 => ⟨o1, ?_⟩)
    · have : j = 6 := by omega
      subst this
      exact k ad' V' S h a b c
    · refine h.nw 2 j (P := fun q11 S13 => _) (by decide) (if_pos (Or.inl rfl)) (fun x => absurd x (by decide)) (fun ad2 q g2 eq2 ea2 => ?_)
      have n2 : j < va_up (nB n j) 2 (j + 1) 2 := by
        rw [va_up_self]
        exact Nat.lt_succ_self j
      have m5 : va_up (nB n j) 2 (j + 1) 205 = j := (va_up_ne _ _ (by decide)).trans (if_pos (Or.inr (Or.inl rfl)))
      have m6 : va_up (va_up (nB n j) 2 (j + 1)) 205 (j + 1) 206 = j := (va_up_ne _ _ (by decide)).trans ((va_up_ne _ _ (by decide)).trans (if_pos (Or.inr (Or.inr (Or.inl rfl)))))
      have m7 : va_up (va_up (va_up (nB n j) 2 (j + 1)) 205 (j + 1)) 206 (j + 1) 207 = j := (va_up_ne _ _ (by decide)).trans ((va_up_ne _ _ (by decide)).trans ((va_up_ne _ _ (by decide)).trans (if_pos (Or.inr (Or.inr (Or.inr (Or.inl rfl)))))))
      refine g2.nwA 205 j eq2 m5 (by rw [m5]; exact n2) (fun ad3 S3 e3 g3 => g3.nwA 206 j ((e3 2 j n2).trans eq2) m6 (by rw [m6]; exact n2) (fun ad4 S4 e4 g4 => g4.nwA 207 j ((e4 2 j n2).trans ((e3 2 j n2).trans eq2)) m7 (by rw [m7]; exact n2) (fun ad5 S5 e5 g5 => ?_)))
      have l1 : ∀ s, nB n j s ≤ va_up (nB n j) 2 (j + 1) s := fun s => by
        by_cases e : s = 2
        · rw [e, va_up_self]
          exact Nat.le_trans (Nat.le_of_eq (if_pos (Or.inl rfl))) (Nat.le_succ j)
        · rw [va_up_ne _ _ e]
          exact Nat.le_refl _
      have l2 : ∀ s, nB n j s ≤ va_up (va_up (nB n j) 2 (j + 1)) 205 (j + 1) s := fun s => by
        by_cases e : s = 205
        · rw [e, va_up_self]
          exact Nat.le_trans (Nat.le_of_eq (if_pos (Or.inr (Or.inl rfl)))) (Nat.le_succ j)
        · rw [va_up_ne _ _ e]
          exact l1 s
      have l3 : ∀ s, nB n j s ≤ va_up (va_up (va_up (nB n j) 2 (j + 1)) 205 (j + 1)) 206 (j + 1) s := fun s => by
        by_cases e : s = 206
        · rw [e, va_up_self]
          exact Nat.le_trans (Nat.le_of_eq (if_pos (Or.inr (Or.inr (Or.inl rfl))))) (Nat.le_succ j)
        · rw [va_up_ne _ _ e]
          exact l2 s
      have ex : ∀ s i, i < nB n j s → ad5 s i = ad' s i := fun s i hi => by
        rw [e5 s i (Nat.lt_of_lt_of_le hi (l3 s)), e4 s i (Nat.lt_of_lt_of_le hi (l2 s)), e3 s i (Nat.lt_of_lt_of_le hi (l1 s)), ea2 s i hi]
      have q5 : ad5 2 j = q := (e5 2 j n2).trans ((e4 2 j n2).trans ((e3 2 j n2).trans eq2))
      have x100 := ex 100 0 i100
      have m12 : va_up (va_up (va_up (va_up (nB n j) 2 (j + 1)) 205 (j + 1)) 206 (j + 1)) 207 (j + 1) 12002 = j := (va_up_ne _ _ (by decide)).trans ((va_up_ne _ _ (by decide)).trans ((va_up_ne _ _ (by decide)).trans ((va_up_ne _ _ (by decide)).trans (if_pos (Or.inr (Or.inr (Or.inr (Or.inr rfl))))))))
      have k100 : 0 < va_up (va_up (va_up (va_up (nB n j) 2 (j + 1)) 205 (j + 1)) 206 (j + 1)) 207 (j + 1) 100 := by
        rw [va_up_ne _ _ (by decide), va_up_ne _ _ (by decide), va_up_ne _ _ (by decide), va_up_ne _ _ (by decide)]
        exact i100
      have k2 : j < va_up (va_up (va_up (va_up (nB n j) 2 (j + 1)) 205 (j + 1)) 206 (j + 1)) 207 (j + 1) 2 := by
        rw [va_up_ne _ _ (by decide), va_up_ne _ _ (by decide), va_up_ne _ _ (by decide)]
        exact n2
      have o100 := g5.o 100 0 k100
      have gn := (g5.1.2.2.2.2.2.2.2.1 k100).1
      have o2 := g5.o 2 j k2
      rw [x100] at o100 gn
      rw [q5] at o2
      refine ⟨_, r100, o100, j, ⟨rfl, by rw [gn]; exact h3, by rw [gn]; decide⟩, o2, ?_⟩
      rintro _ rfl
      have g6 := (g5.lkQ (f := 100) (c := 2) (s12 := 12002) (j := j) (Or.inl ⟨rfl, rfl, rfl⟩) k100 m12 k2).cn (n' := nB n (j + 1)) (fun s _ => by
        unfold nB
        by_cases c1 : s = 12002
        · subst c1
          rw [va_up_self, if_pos (by omega)]
        · rw [va_up_ne _ _ c1]
          by_cases c2 : s = 207
          · subst c2
            rw [va_up_self, if_pos (by omega)]
          · rw [va_up_ne _ _ c2]
            by_cases c3 : s = 206
            · subst c3
              rw [va_up_self, if_pos (by omega)]
            · rw [va_up_ne _ _ c3]
              by_cases c4 : s = 205
              · subst c4
                rw [va_up_self, if_pos (by omega)]
              · rw [va_up_ne _ _ c4]
                by_cases c5 : s = 2
                · subst c5
                  rw [va_up_self, if_pos (by omega)]
                · rw [va_up_ne _ _ c5, if_neg (by omega), if_neg (by omega)])
      rw [x100, q5] at g6
      rw [nI_1]
      refine c_bells_L h1 h100 k w (j + 1) ad5 _ _ g6 (fun s i hi n2 n5 n6 n7 n12 => ?_) (fun f hf => ?_) (fun f hf i' j' => ?_) (by omega) (by omega)
      · have : i < nB n j s := by
          rw [nB_0 ⟨n2, n5, n6, n7, by omega⟩]
          exact hi
        rw [ex s i this]
        exact a s i hi n2 n5 n6 n7 n12
      · have m : f ≠ 205 ∧ f ≠ 206 ∧ f ≠ 207 ∧ f ≠ 4205 ∧ f ≠ 4206 ∧ f ≠ 4207 := by
          simp only [List.mem_cons, List.not_mem_nil, or_false] at hf
          omega
        rw [vF_f m.2.2.1 m.2.2.2.2.2, vF_f m.2.1 m.2.2.2.2.1, vF_f m.1 m.2.2.2.1]
        by_cases e : f ∈ cI
        · have : ∀ f, f ∈ cI → f ∉ [200, 201, 202, 203, 204, 205, 206, 207, 4205, 4206, 4207] → f / 100 ≠ 2 := by decide +kernel
          rw [vz_c (this f e hf)]
          exact b f hf
        · rw [vz_no e]
          exact b f hf
      · have z : ∀ (W : vV) (f0 : Nat), W f i' j' = 0 → vF W f0 j (fun _ => 0) f i' j' = 0 := fun W f0 h0 => by
          unfold vF
          split
          · rfl
          · exact h0
        refine z _ _ (z _ _ (z _ _ ?_))
        unfold vz
        split
        · rfl
        · exact c f hf i' j'
/-! days -/
def nD (n : Nat → Nat) (j : Nat) : Nat → Nat := fun s => if s = 4 ∨ s = 400 ∨ s = 12004 then j else n s
theorem nD_0 {s j : Nat} (h : s ≠ 4 ∧ s ≠ 400 ∧ s ≠ 12004) : nD n j s = n s := if_neg (by omega)
theorem c_days_L {K : Nat → zS → Prop} {Q : zS → Prop} (h8 : n 8 = 1) (h801 : n 801 = 1) (k : ∀ ad' V' S', RC E ad' la (nD n 61) V' S' → (∀ s i, i < n s → s ≠ 4 → s ≠ 400 → s < 12000 → ad' s i = ad s i) → (∀ f, f ∉ [400, 4400] → V' f = V f) → (∀ i j, V' 400 i j = 0) → K (ad 8 0) S') :
    ∀ (w j : Nat) (ad' : Nat → Nat → Nat) (V' : vV) (S : zS), RC E ad' la (nD n j) V' S → (∀ s i, i < n s → s ≠ 4 → s ≠ 400 → s < 12000 → ad' s i = ad s i) → (∀ f, f ∉ [400, 4400] → V' f = V f) → (∀ i j, V' 400 i j = 0) → j ≤ 61 → 61 < j + w → p_X7_init_L43 E K Q X w (ad 8 0) (nI j) S
  | 0, j, ad', V', S, h, a, b, c, d, e => by omega
  | w + 1, j, ad', V', S, h, a, b, c, d, e => by
    have i1 : 0 < nD n j 8 := by rw [nD_0 (by decide), h8]; decide
    have i801 : 0 < nD n j 801 := by rw [nD_0 (by decide), h801]; decide
    have e1 : ad' 8 0 = ad 8 0 := a 8 0 (by rw [h8]; decide) (by decide) (by decide) (by decide)
    have o1 := h.o 8 0 i1
    have r801 := (h.1.2.2.1 801 0 (by decide) i801).2
    rw [show (801 : Nat) / 100 = 8 from rfl] at r801
    rw [e1] at o1 r801
    refine pk_lt 60 j (fun h3 => ?_) (fun h3 => ⟨o1, ?_⟩)
    · have : j = 61 := by omega
      subst this
      exact k ad' V' S h a b c
    · refine h.nw 4 j (P := fun q30 S32 => _) (by decide) (if_pos (Or.inl rfl)) (fun x => absurd x (by decide)) (fun ad2 q g2 eq2 ea2 => ?_)
      have n2 : j < va_up (nD n j) 4 (j + 1) 4 := by
        rw [va_up_self]
        exact Nat.lt_succ_self j
      have m5 : va_up (nD n j) 4 (j + 1) 400 = j := (va_up_ne _ _ (by decide)).trans (if_pos (Or.inr (Or.inl rfl)))
      refine g2.nwL 400 j eq2 m5 (by rw [m5]; exact n2) (fun ad3 S3 e3 g3 => ?_)
      have l1 : ∀ s, nD n j s ≤ va_up (nD n j) 4 (j + 1) s := fun s => by
        by_cases e : s = 4
        · rw [e, va_up_self]
          exact Nat.le_trans (Nat.le_of_eq (if_pos (Or.inl rfl))) (Nat.le_succ j)
        · rw [va_up_ne _ _ e]
          exact Nat.le_refl _
      have ex : ∀ s i, i < nD n j s → ad3 s i = ad' s i := fun s i hi => by
        rw [e3 s i (Nat.lt_of_lt_of_le hi (l1 s)), ea2 s i hi]
      have q5 : ad3 4 j = q := (e3 4 j n2).trans eq2
      have x801 := ex 801 0 i801
      have x8 := ex 8 0 i1
      have m12 : va_up (va_up (nD n j) 4 (j + 1)) 400 (j + 1) 12004 = j := (va_up_ne _ _ (by decide)).trans ((va_up_ne _ _ (by decide)).trans (if_pos (Or.inr (Or.inr rfl))))
      have k801 : 0 < va_up (va_up (nD n j) 4 (j + 1)) 400 (j + 1) 801 := by
        rw [va_up_ne _ _ (by decide), va_up_ne _ _ (by decide)]
        exact i801
      have k2 : j < va_up (va_up (nD n j) 4 (j + 1)) 400 (j + 1) 4 := by
        rw [va_up_ne _ _ (by decide)]
        exact n2
      have o801 := g3.o 801 0 k801
      have gn := (g3.1.2.2.2.2.2.2.2.2.1 k801).1
      have o2 := g3.o 4 j k2
      rw [x801] at o801 gn
      rw [q5] at o2
      refine ⟨_, r801, o801, j, ⟨rfl, by rw [gn]; omega, by rw [gn]; decide⟩, o2, ?_⟩
      rintro _ rfl
      have g6 := (g3.lkQ (f := 801) (c := 4) (s12 := 12004) (j := j) (Or.inr ⟨rfl, rfl, rfl⟩) k801 m12 k2).cn (n' := nD n (j + 1)) (fun s _ => by
        unfold nD
        by_cases c1 : s = 12004
        · subst c1
          rw [va_up_self, if_pos (by omega)]
        · rw [va_up_ne _ _ c1]
          by_cases c2 : s = 400
          · subst c2
            rw [va_up_self, if_pos (by omega)]
          · rw [va_up_ne _ _ c2]
            by_cases c5 : s = 4
            · subst c5
              rw [va_up_self, if_pos (by omega)]
            · rw [va_up_ne _ _ c5, if_neg (by omega), if_neg (by omega)])
      rw [x801, q5] at g6
      rw [nI_1]
      refine c_days_L h8 h801 k w (j + 1) ad3 _ _ g6 (fun s i hi n2 n5 n12 => ?_) (fun f hf => ?_) (fun i' j' => ?_) (by omega) (by omega)
      · have : i < nD n j s := by
          rw [nD_0 ⟨n2, n5, by omega⟩]
          exact hi
        rw [ex s i this]
        exact a s i hi n2 n5 n12
      · have m : f ≠ 400 ∧ f ≠ 4400 := by
          simp only [List.mem_cons, List.not_mem_nil, or_false] at hf
          omega
        rw [vF_f m.1 m.2]
        by_cases e : f ∈ cI
        · have : ∀ f, f ∈ cI → f / 100 ≠ 4 := by decide +kernel
          rw [vz_c (this f e)]
          exact b f hf
        · rw [vz_no e]
          exact b f hf
      · have : vz V' 4 j 400 = V' 400 := vz_no (by decide)
        unfold vF
        split
        · rfl
        · rw [this]
          exact c i' j'
end INI
