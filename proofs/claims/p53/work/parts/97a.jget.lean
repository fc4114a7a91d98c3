/-! the class's half of each call: what it answers, told by Z; calls that only ask -/
def RZ (E : zE) (x : Nat) (Z : zZ) (S : zS) : Prop := ∃ ad la V, (RC E ad la (sd (Z 3 0) (Z 10 0 + 2) (Z 27 0)) V S ∧ ad 10 0 = x) ∧ RV V Z ∧ IZ Z
theorem RZ.o {E : zE} {x : Nat} {Z : zZ} {S : zS} (h : RZ E x Z S) : x ∈ gL S ∧ gK S x = 10 := by
  obtain ⟨ad, la, V, ⟨hC, rfl⟩, hV, hI⟩ := h
  exact hC.o 10 0 z1
theorem RZ.I {E : zE} {x : Nat} {Z : zZ} {S : zS} (h : RZ E x Z S) : IZ Z := by
  obtain ⟨ad, la, V, ⟨hC, rfl⟩, hV, hI⟩ := h
  exact hI
theorem RZ.mk {E : zE} {x : Nat} {ad la : Nat → Nat → Nat} {V : vV} {Z : zZ} {S : zS} {M T R : Nat} (hC : RC E ad la (sd M T R) V S) (hx : ad 10 0 = x) (hV : RV V Z) (hI : IZ Z) (e3 : Z 3 0 = M := by rfl) (e10 : Z 10 0 + 2 = T := by rfl) (e27 : Z 27 0 = R := by rfl) : RZ E x Z S := by
  refine ⟨ad, la, V, ⟨?_, hx⟩, hV, hI⟩
  rw [e3, e10, e27]
  exact hC
theorem nI_one {a b n : Nat} (ha : a < n) (hb : b < n) (hn : n < 2 ^ 31) (e : nI a = nI b) : b = a := (nI_eq (by omega) (by omega)).mp e.symm
section CH
variable {E : zE} {ad la : Nat → Nat → Nat} {M T R : Nat} {V : vV} {Z : zZ} {S : zS} {X : String → zS → Prop}
theorem c_rqI1 {Q : zS → Prop} {j n : Nat} (hn : n < 2 ^ 31) (hj : j < n) (k : Q S) : p_X10_requireIndex E (nI j) (nI n) S Q X := c_rqI hn (fun _ _ _ => k) (fun h => absurd rfl (h j hj))
theorem c_rqI0 {Q : zS → Prop} {l : Int32} {n : Nat} (hn : n < 2 ^ 31) (h : ∀ j, j < n → l ≠ nI j) (k : X "java/lang/IndexOutOfBoundsException" S) : p_X10_requireIndex E l (nI n) S Q X := c_rqI hn (fun j hj e => absurd e (h j hj)) (fun _ => k)
theorem c_rqR1 {Q : zS → Prop} {j lo hi : Nat} (hh : hi < 2 ^ 31) (h1 : lo ≤ j) (h2 : j ≤ hi) (k : Q S) : p_X10_requireRange E (nI j) (nI lo) (nI hi) S Q X := c_rqR hh (by omega) (fun _ _ _ _ => k) (fun h => absurd rfl (h j h1 h2))
theorem c_rqR0 {Q : zS → Prop} {l : Int32} {lo hi : Nat} (hh : hi < 2 ^ 31) (hl : lo < 2 ^ 31) (h : ∀ j, lo ≤ j → j ≤ hi → l ≠ nI j) (k : X "java/lang/IllegalArgumentException" S) : p_X10_requireRange E l (nI lo) (nI hi) S Q X := c_rqR hh hl (fun j a b e => absurd e (h j a b)) (fun _ => k)
theorem c_meth1 {Q : Option Nat → zS → Prop} {i : Nat} (h : RC E ad la (sd (Z 3 0) T R) V S) (hV : RV V Z) (hI : IZ Z) (hi : i < Z 3 0) (k : i < Z 3 0 → Q (some (ad 5 i)) S) : p_X10_methodAt E (ad 10 0) (nI i) S Q X :=
  c_methodAt h hV.1.1 (fun i hi => (hV.1.2 i hi).1) (fun j hj _ e => by
    have := hI.1.1.1
    have := nI_one hi hj (by omega) e
    subst this
    exact k hj) (fun hn => absurd rfl (hn i hi))
theorem c_meth0 {Q : Option Nat → zS → Prop} {l : Int32} (h : RC E ad la (sd (Z 3 0) T R) V S) (hV : RV V Z) (hn : ∀ i, i < Z 3 0 → l ≠ nI i) (k : X "java/lang/IndexOutOfBoundsException" S) : p_X10_methodAt E (ad 10 0) l S Q X :=
  c_methodAt h hV.1.1 (fun i hi => (hV.1.2 i hi).1) (fun j hj _ e => absurd e (hn j hj)) (fun _ => k)
theorem c_tou1 {Q : Option Nat → zS → Prop} {t : Nat} (h : RC E ad la (sd M T R) V S) (hV : RV V Z) (hI : IZ Z) (ht : t < Z 10 0) (k : Q (some (ad 9 (V 3003 0 t))) S) : p_X10_touchAt E (ad 10 0) (nI t) S Q X :=
  c_touchAt h hV.T.1 (fun j hj e => by
    have := hI.T.1
    have := nI_one ht hj (by omega) e
    subst this
    exact k) (fun hn => absurd rfl (hn t ht))
theorem c_tou0 {Q : Option Nat → zS → Prop} {l : Int32} (h : RC E ad la (sd M T R) V S) (hV : RV V Z) (hn : ∀ t, t < Z 10 0 → l ≠ nI t) (k : X "java/lang/IndexOutOfBoundsException" S) : p_X10_touchAt E (ad 10 0) l S Q X :=
  c_touchAt h hV.T.1 (fun j hj e => absurd e (hn j hj)) (fun _ => k)
theorem c_bel1 {Q : Option Nat → zS → Prop} {b : Nat} (h : RC E ad la (sd M T R) V S) (hb : b < 6) (k : Q (some (ad 2 b)) S) : p_X10_bellNumbered E (ad 10 0) (nI b) S Q X :=
  c_bell h (fun j hj e => by
    have := nI_one hb hj (by omega) e
    subst this
    exact k) (fun hn => absurd rfl (hn b hb))
theorem c_bel0 {Q : Option Nat → zS → Prop} {l : Int32} (h : RC E ad la (sd M T R) V S) (hn : ∀ b, b < 6 → l ≠ nI b) (k : X "java/lang/IndexOutOfBoundsException" S) : p_X10_bellNumbered E (ad 10 0) l S Q X :=
  c_bell h (fun j hj e => absurd e (hn j hj)) (fun _ => k)
theorem c_day1 {Q : Option Nat → zS → Prop} {d : Nat} (h : RC E ad la (sd M T R) V S) (hV : RV V Z) (hI : IZ Z) (h1 : Z 20 0 ≤ d) (h2 : d ≤ 60) (k : Q (some (ad 4 d)) S) : p_X10_dayAt E (ad 10 0) (nI d) S Q X :=
  c_day h hV.R.2.1 hI.d (fun j _ hj e => by
    have := nI_one (n := 61) (by omega) (by omega) (by omega) e
    subst this
    exact k) (fun hn => absurd rfl (hn d h1 h2))
theorem c_day0 {Q : Option Nat → zS → Prop} {l : Int32} (h : RC E ad la (sd M T R) V S) (hV : RV V Z) (hI : IZ Z) (hn : ∀ d, Z 20 0 ≤ d → d ≤ 60 → l ≠ nI d) (k : X "java/lang/IllegalArgumentException" S) : p_X10_dayAt E (ad 10 0) l S Q X :=
  c_day h hV.R.2.1 hI.d (fun j a b e => absurd e (hn j a b)) (fun _ => k)
end CH
section JG
variable {E : zE} {x : Nat} {Z : zZ} {S : zS} {Q : Int32 → zS → Prop}
theorem j_stage {i : Nat} (h : RZ E x Z S) (hi : i < Z 3 0) (k : Q (nI (Z 4 i)) S) : p_L_stage E x (nI i) S Q := by
  obtain ⟨ad, la, V, ⟨hC, rfl⟩, hV, hI⟩ := h
  refine ⟨hC.o 10 0 z1, hC.o 10 0 z1, c_meth1 hC hV hI hi (fun hm => ⟨_, rfl, hC.o 5 i hm, ?_⟩)⟩
  rw [hC.gi 501 5 i hm, (hV.1.2 i hi).2.2.1]
  exact k
theorem j_stage0 {l : Int32} (h : RZ E x Z S) (hn : ∀ i, i < Z 3 0 → l ≠ nI i) (k : Q (-7100) S) : p_L_stage E x l S Q := by
  obtain ⟨ad, la, V, ⟨hC, rfl⟩, hV, hI⟩ := h
  exact ⟨hC.o 10 0 z1, hC.o 10 0 z1, c_meth0 hC hV hn ⟨rfl, k⟩⟩
theorem j_chAt_i {l1 l2 l3 : Int32} (h : RZ E x Z S) (hn : ∀ i, i < Z 3 0 → l1 ≠ nI i) (k : Q (-7100) S) : p_L_changeAt E x l1 l2 l3 S Q := by
  obtain ⟨ad, la, V, ⟨hC, rfl⟩, hV, hI⟩ := h
  exact ⟨hC.o 10 0 z1, hC.o 10 0 z1, c_meth0 hC hV hn (Or.inl ⟨rfl, k⟩)⟩
theorem j_chAt_p {i : Nat} {l2 l3 : Int32} (h : RZ E x Z S) (hi : i < Z 3 0) (h3 : l3 < 0) (k : Q (-7100) S) : p_L_changeAt E x (nI i) l2 l3 S Q := by
  obtain ⟨ad, la, V, ⟨hC, rfl⟩, hV, hI⟩ := h
  exact ⟨hC.o 10 0 z1, hC.o 10 0 z1, c_meth1 hC hV hI hi (fun hm => ⟨fun x => absurd h3 (Int32.not_lt.mpr x), fun _ => Or.inl ⟨rfl, k⟩⟩)⟩
theorem j_chAt_r {i : Nat} {l2 l3 : Int32} (h : RZ E x Z S) (hi : i < Z 3 0) (h3 : 0 ≤ l3) (hn : ∀ j, 0 ≤ j → j ≤ 2 → l2 ≠ nI j) (k : Q (-7200) S) : p_L_changeAt E x (nI i) l2 l3 S Q := by
  obtain ⟨ad, la, V, ⟨hC, rfl⟩, hV, hI⟩ := h
  exact ⟨hC.o 10 0 z1, hC.o 10 0 z1, c_meth1 hC hV hI hi (fun hm => ⟨fun _ => c_rqR0 (lo := 0) (hi := 2) (by decide) (by decide) hn (Or.inr ⟨rfl, k⟩), fun x => absurd h3 x⟩)⟩
theorem j_chAt {i c p : Nat} (h : RZ E x Z S) (hi : i < Z 3 0) (hc : c < 3) (hp : p < Z 5 i) (k : Q (nI (z_ch Z i c p)) S) : p_L_changeAt E x (nI i) (nI c) (nI p) S Q := by
  obtain ⟨ad, la, V, ⟨hC, rfl⟩, hV, hI⟩ := h
  have b := (hI.M.2 i hi).2.2.1
  exact ⟨hC.o 10 0 z1, hC.o 10 0 z1, c_meth1 hC hV hI hi (fun hm => ⟨fun _ => c_rqR1 (lo := 0) (hi := 2) (by decide) (Nat.zero_le _) (by omega) ⟨_, rfl, hC.o 5 i hm, c_changeOf hC hV.1 hI.M hm hi hc hp k⟩, fun x => absurd (Int32.not_lt.mp (nI_pos (by omega))) x⟩)⟩
theorem j_chAt_n {i c p : Nat} (h : RZ E x Z S) (hi : i < Z 3 0) (hc : c < 3) (hp : Z 5 i ≤ p) (hp2 : p < 2 ^ 31) (k : Q (-1) S) : p_L_changeAt E x (nI i) (nI c) (nI p) S Q := by
  obtain ⟨ad, la, V, ⟨hC, rfl⟩, hV, hI⟩ := h
  exact ⟨hC.o 10 0 z1, hC.o 10 0 z1, c_meth1 hC hV hI hi (fun hm => ⟨fun _ => c_rqR1 (lo := 0) (hi := 2) (by decide) (Nat.zero_le _) (by omega) ⟨_, rfl, hC.o 5 i hm, c_changeOfN hC hV.1 hI.M hm hi hp hp2 k⟩, fun x => absurd (Int32.not_lt.mp (nI_pos (by omega))) x⟩)⟩
theorem j_head {i c : Nat} (h : RZ E x Z S) (hi : i < Z 3 0) (hc : c < 3) (k : Q (nI (ro_num (Z 4 i) (ro_la (Z 4 i) (ro_rnd (Z 4 i)) (z_lc Z i c)) 7 0 0)) S) : p_L_head E x (nI i) (nI c) S Q := by
  obtain ⟨ad, la, V, ⟨hC, rfl⟩, hV, hI⟩ := h
  have hN := (hI.M.2 i hi).1
  have hVr := ro_la_V hN (z_lc Z i c) _ (ro_V_rnd hN).1 (z_M_lc hI.M hi (by omega))
  have hn6 := ro_N6 hN
  refine ⟨hC.o 10 0 z1, hC.o 10 0 z1, c_meth1 hC hV hI hi (fun hm => c_rqR1 (lo := 0) (hi := 2) (by decide) (Nat.zero_le _) (by omega) ⟨_, rfl, hC.o 5 i hm, ?_⟩)⟩
  rw [hC.gi 501 5 i hm, (hV.1.2 i hi).2.2.1]
  refine w8_rounds (by omega) ⟨hC.o 5 i hm, c_lastRow4 hC hV.1 hI.M hm hi (by omega) (ro_V_rnd hN).1 ⟨hC.o 5 i hm, ?_⟩⟩
  rw [hC.gi 501 5 i hm, (hV.1.2 i hi).2.2.1]
  exact c_num hN hVr k
theorem j_head_r {i : Nat} {l : Int32} (h : RZ E x Z S) (hi : i < Z 3 0) (hn : ∀ j, 0 ≤ j → j ≤ 2 → l ≠ nI j) (k : Q (-7200) S) : p_L_head E x (nI i) l S Q := by
  obtain ⟨ad, la, V, ⟨hC, rfl⟩, hV, hI⟩ := h
  exact ⟨hC.o 10 0 z1, hC.o 10 0 z1, c_meth1 hC hV hI hi (fun hm => c_rqR0 (lo := 0) (hi := 2) (by decide) (by decide) hn (Or.inr ⟨rfl, k⟩))⟩
theorem j_course {i k0 : Nat} (h : RZ E x Z S) (hi : i < Z 3 0) (h1 : 1 ≤ k0) (h6 : k0 ≤ 6) (h3 : ro_it (Z 4 i) (z_lc Z i 0) k0 = ro_rnd (Z 4 i)) (h4 : ∀ q, 1 ≤ q → q < k0 → ro_it (Z 4 i) (z_lc Z i 0) q ≠ ro_rnd (Z 4 i)) (k : Q (nI k0) S) : p_L_course E x (nI i) S Q := by
  obtain ⟨ad, la, V, ⟨hC, rfl⟩, hV, hI⟩ := h
  exact ⟨hC.o 10 0 z1, hC.o 10 0 z1, c_meth1 hC hV hI hi (fun hm => ⟨_, rfl, hC.o 5 i hm, c_course hC hV.1 hI.M hm hi h1 h6 h3 h4 k⟩)⟩
theorem j_course0 {l : Int32} (h : RZ E x Z S) (hn : ∀ i, i < Z 3 0 → l ≠ nI i) (k : Q (-7100) S) : p_L_course E x l S Q := by
  obtain ⟨ad, la, V, ⟨hC, rfl⟩, hV, hI⟩ := h
  exact ⟨hC.o 10 0 z1, hC.o 10 0 z1, c_meth0 hC hV hn ⟨rfl, k⟩⟩
theorem j_isFalse {i p : Nat} (h : RZ E x Z S) (hi : i < Z 3 0) (hp : p < ro_fac (Z 4 i)) (k : Q (zb (z_fl Z i p)) S) : p_L_isFalse E x (nI i) (nI p) S Q := by
  obtain ⟨ad, la, V, ⟨hC, rfl⟩, hV, hI⟩ := h
  have hN := (hI.M.2 i hi).1
  have fac := ro_fac_lt (n := Z 4 i)
  obtain ⟨vf1, vf2, vf3, vf4⟩ := (hV.1.2 i hi).2.2.2.2.2.2
  refine ⟨hC.o 10 0 z1, hC.o 10 0 z1, c_meth1 hC hV hI hi (fun hm => ⟨_, rfl, hC.o 5 i hm, ?_⟩)⟩
  rw [hC.gi 501 5 i hm, (hV.1.2 i hi).2.2.1]
  refine w8_count hN (c_rqI1 (by omega) hp ⟨hC.o 5 i hm, c_hasFalse hC hm rfl vf1 (by omega) (fun j hj => by have := vf2 j hj; omega) ⟨zb_01 _, ?_⟩⟩)
  rw [vf3 p hp]
  refine zb_c (fun e => ?_) (fun e => ?_)
  · rw [e] at k
    exact k
  · rw [e] at k
    exact k
theorem j_isFalse_p {i : Nat} {l : Int32} (h : RZ E x Z S) (hi : i < Z 3 0) (hn : ∀ p, p < ro_fac (Z 4 i) → l ≠ nI p) (k : Q (-7100) S) : p_L_isFalse E x (nI i) l S Q := by
  obtain ⟨ad, la, V, ⟨hC, rfl⟩, hV, hI⟩ := h
  have hN := (hI.M.2 i hi).1
  have fac := ro_fac_lt (n := Z 4 i)
  refine ⟨hC.o 10 0 z1, hC.o 10 0 z1, c_meth1 hC hV hI hi (fun hm => ⟨_, rfl, hC.o 5 i hm, ?_⟩)⟩
  rw [hC.gi 501 5 i hm, (hV.1.2 i hi).2.2.1]
  exact w8_count hN (c_rqI0 (by omega) hn ⟨rfl, k⟩)
theorem j_falseRows {i : Nat} (h : RZ E x Z S) (hi : i < Z 3 0) (k : Q (nI (ro_cb (z_fl Z i) (ro_fac (Z 4 i)))) S) : p_L_falseRows E x (nI i) S Q := by
  obtain ⟨ad, la, V, ⟨hC, rfl⟩, hV, hI⟩ := h
  obtain ⟨vf1, vf2, vf3, vf4⟩ := (hV.1.2 i hi).2.2.2.2.2.2
  refine ⟨hC.o 10 0 z1, hC.o 10 0 z1, c_meth1 hC hV hI hi (fun hm => ⟨_, rfl, hC.o 5 i hm, ?_⟩)⟩
  rw [hC.gi 503 5 i hm, vf4]
  exact k
theorem j_touches (h : RZ E x Z S) (k : Q (nI (Z 10 0)) S) {X : String → zS → Prop} : p_X10_touches E x S Q X := by
  obtain ⟨ad, la, V, ⟨hC, rfl⟩, hV, hI⟩ := h
  refine ⟨hC.o 10 0 z1, hC.ex 1003 0 z1 (c_size hC 1003 0 z1 ?_)⟩
  rw [hV.T.1]
  exact k
theorem j_leads {t : Nat} (h : RZ E x Z S) (ht : t < Z 10 0) (k : Q (nI (Z 11 t)) S) : p_L_leads E x (nI t) S Q := by
  obtain ⟨ad, la, V, ⟨hC, rfl⟩, hV, hI⟩ := h
  have w := hV.T.2 t ht
  refine ⟨hC.o 10 0 z1, hC.o 10 0 z1, c_tou1 hC hV hI ht ⟨_, rfl, hC.o 9 _ w.1, hC.o 9 _ w.1, hC.ex 906 _ w.1 (c_size hC 906 _ w.1 ?_)⟩⟩
  rw [w.2.2.2.2.1]
  exact k
theorem j_leadAt {t q : Nat} (h : RZ E x Z S) (ht : t < Z 10 0) (hq : q < Z 11 t) (k : Q (nI (10 * z_mt Z t q + z_cl Z t q)) S) : p_L_leadAt E x (nI t) (nI q) S Q := by
  obtain ⟨ad, la, V, ⟨hC, rfl⟩, hV, hI⟩ := h
  have w := hV.T.2 t ht
  have zt := hI.T.2 t ht
  have wk := w.2.2.2.2.2.1 q hq
  have zk := zt.2.2.2 q hq
  have l20 := zt.2.2.1
  refine ⟨hC.o 10 0 z1, hC.o 10 0 z1, c_tou1 hC hV hI ht ⟨_, rfl, hC.o 9 _ w.1, hC.o 9 _ w.1, hC.ex 906 _ w.1 (c_size hC 906 _ w.1 ?_)⟩⟩
  rw [w.2.2.2.2.1]
  refine c_rqI1 (by omega) hq ⟨hC.o 9 _ w.1, hC.ex 906 _ w.1 (c_get (g := 2906) (t := 5) hC 906 _ q w.1 (by rw [w.2.2.2.2.1]; exact hq) (fun hm => ⟨_, rfl, hC.o 5 _ hm, hC.o 9 _ w.1, hC.ij 907 _ q w.1 rfl (by show q < 20; omega) ?_⟩))⟩
  rw [hC.gi 500 5 _ hm, hC.ga 907 _ q w.1, wk.1, wk.2, (hV.1.2 _ zk.1).2.1, show (10 : Int32) * nI (z_mt Z t q) = nI (10 * z_mt Z t q) from pk_mul 10 _, nI_add]
  exact k
theorem j_leadAt_n {t : Nat} {l : Int32} (h : RZ E x Z S) (ht : t < Z 10 0) (hn : ∀ q, q < Z 11 t → l ≠ nI q) (k : Q (-7100) S) : p_L_leadAt E x (nI t) l S Q := by
  obtain ⟨ad, la, V, ⟨hC, rfl⟩, hV, hI⟩ := h
  have w := hV.T.2 t ht
  have l20 := (hI.T.2 t ht).2.2.1
  refine ⟨hC.o 10 0 z1, hC.o 10 0 z1, c_tou1 hC hV hI ht ⟨_, rfl, hC.o 9 _ w.1, hC.o 9 _ w.1, hC.ex 906 _ w.1 (c_size hC 906 _ w.1 ?_)⟩⟩
  rw [w.2.2.2.2.1]
  exact c_rqI0 (by omega) hn ⟨rfl, k⟩
theorem j_rows {t : Nat} (h : RZ E x Z S) (ht : t < Z 10 0) (k : Q (nI (z_L Z t)) S) : p_L_rows E x (nI t) S Q := by
  obtain ⟨ad, la, V, ⟨hC, rfl⟩, hV, hI⟩ := h
  have w := hV.T.2 t ht
  refine ⟨hC.o 10 0 z1, hC.o 10 0 z1, c_tou1 hC hV hI ht ⟨_, rfl, hC.o 9 _ w.1, ?_⟩⟩
  rw [hC.gi 902 9 _ w.1, w.2.2.2.1]
  exact k
theorem j_rows0 {l : Int32} (h : RZ E x Z S) (hn : ∀ t, t < Z 10 0 → l ≠ nI t) (k : Q (-7100) S) : p_L_rows E x l S Q := by
  obtain ⟨ad, la, V, ⟨hC, rfl⟩, hV, hI⟩ := h
  exact ⟨hC.o 10 0 z1, hC.o 10 0 z1, c_tou0 hC hV hn ⟨rfl, k⟩⟩
theorem j_rowAt {t r : Nat} (h : RZ E x Z S) (ht : t < Z 10 0) (hr : r < z_L Z t) (k : Q (nI (ro_num (z_st Z t) (z_f Z t r) 7 0 0)) S) : p_L_rowAt E x (nI t) (nI r) S Q := by
  obtain ⟨ad, la, V, ⟨hC, rfl⟩, hV, hI⟩ := h
  have w := hV.T.2 t ht
  have zt := hI.T.2 t ht
  have hN := z_T_N hI.M zt
  have hL := z_L_bd hI.M zt
  refine ⟨hC.o 10 0 z1, hC.o 10 0 z1, c_tou1 hC hV hI ht ⟨_, rfl, hC.o 9 _ w.1, ?_⟩⟩
  rw [hC.gi 902 9 _ w.1, w.2.2.2.1]
  refine c_rqI1 (by omega) hr ⟨hC.o 9 _ w.1, hC.ij 908 _ r w.1 rfl (by show r < 240; omega) ?_⟩
  rw [hC.ga 908 _ r w.1, hC.gi 901 9 _ w.1, w.2.2.1, w.2.2.2.2.2.2.1 r hr]
  exact c_num hN (z_f_V hI.M zt hr) k
theorem j_rowAt_n {t : Nat} {l : Int32} (h : RZ E x Z S) (ht : t < Z 10 0) (hn : ∀ r, r < z_L Z t → l ≠ nI r) (k : Q (-7100) S) : p_L_rowAt E x (nI t) l S Q := by
  obtain ⟨ad, la, V, ⟨hC, rfl⟩, hV, hI⟩ := h
  have w := hV.T.2 t ht
  have hL := z_L_bd hI.M (hI.T.2 t ht)
  refine ⟨hC.o 10 0 z1, hC.o 10 0 z1, c_tou1 hC hV hI ht ⟨_, rfl, hC.o 9 _ w.1, ?_⟩⟩
  rw [hC.gi 902 9 _ w.1, w.2.2.2.1]
  exact c_rqI0 (by omega) hn ⟨rfl, k⟩
theorem j_bellAt {t r p : Nat} (h : RZ E x Z S) (ht : t < Z 10 0) (hr : r < z_L Z t) (hp : p < z_st Z t) (k : Q (nI (ro_bl (z_f Z t r) p)) S) : p_L_bellAt E x (nI t) (nI r) (nI p) S Q := by
  obtain ⟨ad, la, V, ⟨hC, rfl⟩, hV, hI⟩ := h
  have w := hV.T.2 t ht
  have zt := hI.T.2 t ht
  have hN := z_T_N hI.M zt
  have hn6 := ro_N6 hN
  have hL := z_L_bd hI.M zt
  have hlt := ro_V_lt hN (z_f_V hI.M zt hr)
  refine ⟨hC.o 10 0 z1, hC.o 10 0 z1, c_tou1 hC hV hI ht ⟨_, rfl, hC.o 9 _ w.1, ?_⟩⟩
  rw [hC.gi 902 9 _ w.1, w.2.2.2.1]
  refine c_rqI1 (by omega) hr ⟨hC.o 9 _ w.1, ?_⟩
  rw [hC.gi 901 9 _ w.1, w.2.2.1]
  exact c_rqI1 (by omega) hp ⟨hC.o 9 _ w.1, c_rowAnew hC hV.1 hI.M zt (fun k hk => (zt.2.2.2 k hk).1) w.1 w.2 hr (w8_bellIn (by omega) (by omega) k)⟩
theorem j_bellAt_r {t : Nat} {l l3 : Int32} (h : RZ E x Z S) (ht : t < Z 10 0) (hn : ∀ r, r < z_L Z t → l ≠ nI r) (k : Q (-7100) S) : p_L_bellAt E x (nI t) l l3 S Q := by
  obtain ⟨ad, la, V, ⟨hC, rfl⟩, hV, hI⟩ := h
  have w := hV.T.2 t ht
  have hL := z_L_bd hI.M (hI.T.2 t ht)
  refine ⟨hC.o 10 0 z1, hC.o 10 0 z1, c_tou1 hC hV hI ht ⟨_, rfl, hC.o 9 _ w.1, ?_⟩⟩
  rw [hC.gi 902 9 _ w.1, w.2.2.2.1]
  exact c_rqI0 (by omega) hn ⟨rfl, k⟩
theorem j_bellAt_p {t r : Nat} {l : Int32} (h : RZ E x Z S) (ht : t < Z 10 0) (hr : r < z_L Z t) (hn : ∀ p, p < z_st Z t → l ≠ nI p) (k : Q (-7100) S) : p_L_bellAt E x (nI t) (nI r) l S Q := by
  obtain ⟨ad, la, V, ⟨hC, rfl⟩, hV, hI⟩ := h
  have w := hV.T.2 t ht
  have zt := hI.T.2 t ht
  have hn6 := ro_N6 (z_T_N hI.M zt)
  have hL := z_L_bd hI.M zt
  refine ⟨hC.o 10 0 z1, hC.o 10 0 z1, c_tou1 hC hV hI ht ⟨_, rfl, hC.o 9 _ w.1, ?_⟩⟩
  rw [hC.gi 902 9 _ w.1, w.2.2.2.1]
  refine c_rqI1 (by omega) hr ⟨hC.o 9 _ w.1, ?_⟩
  rw [hC.gi 901 9 _ w.1, w.2.2.1]
  exact c_rqI0 (by omega) hn ⟨rfl, k⟩
theorem j_firstRepeat {t : Nat} (h : RZ E x Z S) (ht : t < Z 10 0) (k : ∀ v, z_R (z_f Z t) (z_L Z t) v → Q v S) : p_L_firstRepeat E x (nI t) S Q := by
  obtain ⟨ad, la, V, ⟨hC, rfl⟩, hV, hI⟩ := h
  have w := hV.T.2 t ht
  refine ⟨hC.o 10 0 z1, hC.o 10 0 z1, c_tou1 hC hV hI ht ⟨_, rfl, hC.o 9 _ w.1, ?_⟩⟩
  rw [hC.gi 903 9 _ w.1]
  exact k _ w.2.2.2.2.2.2.2.1
theorem j_isTrue {t : Nat} (h : RZ E x Z S) (ht : t < Z 10 0) (k : ∀ v, z_R (z_f Z t) (z_L Z t) v → Q (if v = -1 then 1 else 0) S) : p_L_isTrue E x (nI t) S Q := by
  obtain ⟨ad, la, V, ⟨hC, rfl⟩, hV, hI⟩ := h
  have w := hV.T.2 t ht
  have kk := k _ w.2.2.2.2.2.2.2.1
  refine ⟨hC.o 10 0 z1, hC.o 10 0 z1, c_tou1 hC hV hI ht ⟨_, rfl, hC.o 9 _ w.1, ?_⟩⟩
  rw [hC.gi 903 9 _ w.1]
  refine ⟨fun h1 => ⟨Or.inl rfl, fun _ => ?_, fun x => absurd rfl x⟩, fun h1 => ⟨Or.inr rfl, fun x => absurd x (by decide), fun _ => ?_⟩⟩
  · rw [if_neg h1] at kk
    exact kk
  · rw [if_pos h1] at kk
    exact kk
theorem j_isTrue0 {l : Int32} (h : RZ E x Z S) (hn : ∀ t, t < Z 10 0 → l ≠ nI t) (k : Q (-7100) S) : p_L_isTrue E x l S Q := by
  obtain ⟨ad, la, V, ⟨hC, rfl⟩, hV, hI⟩ := h
  exact ⟨hC.o 10 0 z1, hC.o 10 0 z1, c_tou0 hC hV hn ⟨rfl, k⟩⟩
theorem j_comesRound {t : Nat} (h : RZ E x Z S) (ht : t < Z 10 0) (k : Q (if z_la Z t = ro_rnd (z_st Z t) then 1 else 0) S) : p_L_comesRound E x (nI t) S Q := by
  obtain ⟨ad, la, V, ⟨hC, rfl⟩, hV, hI⟩ := h
  have w := hV.T.2 t ht
  refine ⟨hC.o 10 0 z1, hC.o 10 0 z1, c_tou1 hC hV hI ht ⟨_, rfl, hC.o 9 _ w.1, ?_⟩⟩
  rw [hC.gi 905 9 _ w.1, w.2.2.2.2.2.2.2.2]
  by_cases e : z_la Z t = ro_rnd (z_st Z t)
  · rw [if_pos e] at k ⊢
    exact ⟨Or.inr rfl, fun x => absurd x (by decide), fun _ => k⟩
  · rw [if_neg e] at k ⊢
    exact ⟨Or.inl rfl, fun _ => k, fun x => absurd rfl x⟩
end JG
