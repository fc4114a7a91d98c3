/-! the class's bells -/
def z_mk (Z : zZ) : Nat → Nat
  | 0 => 0
  | k + 1 => z_mk Z k ||| (if z_in Z k = true then 0 else 2 ^ k)
theorem zor1 : ∀ v, v < 2 → ∀ r : Bool, nI v ||| zb r = nI (if r = true then 1 else v) := by decide +kernel
theorem zor2 (a b : Bool) : zb a ||| zb b = zb (a || b) := by cases a <;> cases b <;> decide
theorem zor_01 {v : Nat} (h : v < 2) (r : Bool) : nI (if r = true then 1 else v) = 0 ∨ nI (if r = true then 1 else v) = 1 := by
  have : v = 0 ∨ v = 1 := by omega
  rcases this with rfl | rfl <;> cases r <;> decide
section CA
variable {E : zE} {ad la : Nat → Nat → Nat} {M T R : Nat} {V : vV} {Z : zZ} {S : zS} {X : String → zS → Prop}
theorem RC.rR {n : Nat → Nat} (h : RC E ad la n V S) (f c i : Nat) (hi : i < n f) (hc : f / 100 = c := by rfl) (hf : f ∈ cR := by decide) : gR S f (ad c i) = some (ad f i) := by
  subst hc
  exact (h.1.2.2.1 f i hf hi).2
theorem RC.eb (h : RC E ad la (sd M T R) V S) (b : Nat) {l : Int32} {P : Nat → Prop} (hb : b < 6) (e : l = nI b) (hP : P (ad 2 b)) : ∃ a, gR S 100 (ad 1 0) = some a ∧ (a ∈ gL S ∧ 14 ≤ gK S a ∧ gK S a < 17) ∧ ∃ j, (l = nI j ∧ j < gN S a ∧ gN S a < 2 ^ 31) ∧ ∃ q, gQ S a j = some q ∧ (q ∈ gL S ∧ gK S q = 2) ∧ P q :=
  ⟨ad 100 0, h.rR 100 1 0 Nat.zero_lt_one, h.bel b Nat.zero_lt_one hb hb rfl e hP⟩
theorem RC.ed (h : RC E ad la (sd M T R) V S) (d : Nat) {l : Int32} {P : Nat → Prop} (hb : d < 61) (e : l = nI d) (hP : P (ad 4 d)) : ∃ a, gR S 801 (ad 8 0) = some a ∧ (a ∈ gL S ∧ 14 ≤ gK S a ∧ gK S a < 17) ∧ ∃ j, (l = nI j ∧ j < gN S a ∧ gN S a < 2 ^ 31) ∧ ∃ q, gQ S a j = some q ∧ (q ∈ gL S ∧ gK S q = 4) ∧ P q :=
  ⟨ad 801 0, h.rR 801 8 0 Nat.zero_lt_one, h.dy d Nat.zero_lt_one hb hb rfl e hP⟩
theorem c_isUsable {Q : Int32 → zS → Prop} {b : Nat} (h : RC E ad la (sd M T R) V S) (hV : V_B V Z) (hB : z_B Z) (hb : b < 6) (k : Q (zb (z_in Z b)) S) : p_X1_isUsable E (ad 2 b) S Q X := by
  have b1 := hB.1 b hb
  have b2 := hB.2 b (by omega)
  have b3 := hB.2 (6 + b) (by omega)
  obtain ⟨v0, _, _, _, _, _, _, v7, v8, _⟩ := hV b hb
  unfold z_in at k
  refine ⟨h.o 2 b hb, ?_⟩
  rw [h.gi 200 2 b hb, v0, ri_0 b1]
  refine ⟨fun h1 => ⟨Or.inl rfl, ?_⟩, fun h1 => h.ex 206 b hb (h.iz 206 b 0 hb (by decide) ?_)⟩
  · rw [show (Z 19 b == 0) = false by simpa using h1] at k
    exact k
  · rw [show (Z 19 b == 0) = true by simpa using h1] at k
    rw [h.ga 206 b 0 hb, v7, ri_0 b2]
    refine ⟨fun h2 => ⟨Or.inl rfl, ?_⟩, fun h2 => h.ex 206 b hb (h.iz 206 b 1 hb (by decide) ?_)⟩
    · rw [show (Z 18 b == 0) = false by simpa using h2] at k
      exact k
    · rw [show (Z 18 b == 0) = true by simpa using h2] at k
      rw [h.ga 206 b 1 hb, v8, ri_0 b3]
      refine ⟨fun h3 => ⟨Or.inl rfl, ?_⟩, fun h3 => ⟨Or.inr rfl, ?_⟩⟩
      · rw [show (Z 18 (6 + b) == 0) = false by simpa using h3] at k
        exact k
      · rw [show (Z 18 (6 + b) == 0) = true by simpa using h3] at k
        exact k
theorem c_bellsOut_L {K : Int32 → zS → Prop} {Q : Int32 → zS → Prop} (h : RC E ad la (sd M T R) V S) (hV : V_B V Z) (hB : z_B Z) (k : K (nI (z_mk Z 6)) S) :
    ∀ (w p : Nat), p ≤ 6 → 6 < p + w → p_X0_bellsOut_L4 E K Q X w (ad 1 0) (nI (z_mk Z p)) (nI p) S
  | 0, p, h1, h2 => by omega
  | w + 1, p, h1, h2 => by
    refine pk_le 6 p (fun h3 => ?_) (fun h3 => ⟨h.o 1 0 Nat.zero_lt_one, h.eb p h3 rfl ?_⟩)
    · have : p = 6 := by omega
      subst this
      exact k
    · have ih := c_bellsOut_L (Q := Q) h hV hB k w (p + 1) (by omega) (by omega)
      have e1 : z_mk Z (p + 1) = z_mk Z p ||| (if z_in Z p = true then 0 else 2 ^ p) := rfl
      refine c_isUsable h hV hB h3 ?_
      rw [nI_1]
      refine zb_d (fun h4 => ?_) (fun h4 => ?_)
      · rw [e1, if_pos h4, Nat.or_zero] at ih
        exact ih
      · rw [e1, if_neg (by rw [h4]; decide)] at ih
        rw [ri_2n (by omega), ri_or]
        exact ih
theorem c_bellsOut {Q : Int32 → zS → Prop} (h : RC E ad la (sd M T R) V S) (hV : V_B V Z) (hB : z_B Z) (k : Q (nI (z_mk Z 6)) S) : p_X0_bellsOut E (ad 1 0) S Q X := ⟨7, c_bellsOut_L h hV hB k 7 0 (by omega) (by omega)⟩
theorem c_J53 {Q : Int32 → zS → Prop} {b : Nat} {r c : Bool} (h : RC E ad la (sd M T R) V S) (hb : b < 6) (v0 : V 206 b 0 < 2) (v1 : V 206 b 1 < 2)
    (k : ∀ S', RC E ad la (sd M T R) (u3 (u3 V 206 b 0 (if r = true then 1 else V 206 b 0)) 206 b 1 (if c = true then 1 else V 206 b 1)) S' → Q (zb (r || c)) S') : p_X1_noteWornOut_J53 E Q X (ad 2 b) (zb r) (zb c) S := by
  refine ⟨h.o 2 b hb, h.ex 206 b hb (h.iz 206 b 0 hb (by decide) (h.iz 206 b 0 hb (by decide) ?_))⟩
  rw [h.ga 206 b 0 hb, zor1 _ v0 r]
  refine ⟨zor_01 v0 r, h.uA 206 b 0 _ hb rfl (fun S1 g1 => g1.ex 206 b hb (g1.iz 206 b 1 hb (by decide) (g1.iz 206 b 1 hb (by decide) ?_)))⟩
  rw [g1.ga 206 b 1 hb, u3_j (show 1 ≠ 0 by decide), zor1 _ v1 c]
  refine ⟨zor_01 v1 c, g1.uA 206 b 1 _ hb rfl (fun S2 g2 => ?_)⟩
  have := k S2 g2
  cases r with
  | true => exact ⟨fun _ => ⟨Or.inr rfl, this⟩, fun x => absurd x (by decide)⟩
  | false =>
    refine ⟨fun x => absurd rfl x, fun _ => ?_⟩
    cases c with
    | true => exact ⟨fun x => absurd x (by decide), fun _ => ⟨Or.inr rfl, this⟩⟩
    | false => exact ⟨fun _ => ⟨Or.inl rfl, this⟩, fun x => absurd rfl x⟩
theorem z_nw_c {Z : zZ} {i : Nat} (h : Z 18 i = 0) (h2 : ¬ nI (Z 17 i) < z_lim i) : z_nw Z i = true := by
  unfold z_nw
  rw [h, decide_eq_false h2]
  rfl
theorem z_nw_w {Z : zZ} {i : Nat} (h : ¬ Z 18 i = 0) : z_nw Z i = false := by
  unfold z_nw
  rw [show (Z 18 i == 0) = false by simpa using h]
  rfl
theorem z_nw_l {Z : zZ} {i : Nat} (h2 : nI (Z 17 i) < z_lim i) : z_nw Z i = false := by
  unfold z_nw
  rw [decide_eq_true h2, Bool.and_comm]
  rfl
theorem c_J26 {Q : Int32 → zS → Prop} {b : Nat} {r : Bool} (h : RC E ad la (sd M T R) V S) (hb : b < 6) (w1 : Z 18 (6 + b) < 2) (v0 : V 206 b 0 < 2) (v1 : V 206 b 1 = Z 18 (6 + b)) (v2 : V 205 b 1 = Z 17 (6 + b))
    (k : ∀ S', RC E ad la (sd M T R) (u3 (u3 V 206 b 0 (if r = true then 1 else V 206 b 0)) 206 b 1 (z_nv Z (6 + b))) S' → Q (zb (r || z_nw Z (6 + b))) S') : p_X1_noteWornOut_J26 E Q X (ad 2 b) (zb r) S := by
  have k0 : z_nw Z (6 + b) = false → p_X1_noteWornOut_J53 E Q X (ad 2 b) (zb r) (zb false) S := fun e => by
    refine c_J53 h hb v0 (by omega) (fun S' g => ?_)
    have := k S'
    unfold z_nv at this
    rw [e, if_neg (show ¬ (false = true) by decide)] at this
    rw [if_neg (show ¬ (false = true) by decide), v1] at g
    exact this g
  have k1 : z_nw Z (6 + b) = true → p_X1_noteWornOut_J53 E Q X (ad 2 b) (zb r) (zb true) S := fun e => by
    refine c_J53 h hb v0 (by omega) (fun S' g => ?_)
    have := k S'
    unfold z_nv at this
    rw [e, if_pos (show true = true from rfl)] at this
    rw [if_pos (show true = true from rfl)] at g
    exact this g
  refine ⟨h.o 2 b hb, h.ex 206 b hb (h.iz 206 b 1 hb (by decide) ?_)⟩
  rw [h.ga 206 b 1 hb, v1, ri_0 w1]
  refine ⟨fun h1 => k0 (z_nw_w h1), fun h1 => h.ex 205 b hb (h.iz 205 b 1 hb (by decide) ?_)⟩
  rw [h.ga 205 b 1 hb, v2]
  have el : z_lim (6 + b) = 200 := if_neg (by omega)
  refine ⟨fun h2 => k0 (z_nw_l (by rw [el]; exact h2)), fun h2 => k1 (z_nw_c h1 (by rw [el]; exact h2))⟩
theorem c_noteB {Q : Int32 → zS → Prop} {b : Nat} (h : RC E ad la (sd M T R) V S) (hb : b < 6) (w0 : Z 18 b < 2) (w1 : Z 18 (6 + b) < 2) (u0 : V 206 b 0 = Z 18 b) (u2 : V 205 b 0 = Z 17 b) (v1 : V 206 b 1 = Z 18 (6 + b)) (v2 : V 205 b 1 = Z 17 (6 + b))
    (k : ∀ S', RC E ad la (sd M T R) (u3 (u3 V 206 b 0 (z_nv Z b)) 206 b 1 (z_nv Z (6 + b))) S' → Q (zb (z_nw Z b || z_nw Z (6 + b))) S') : p_X1_noteWornOut E (ad 2 b) S Q X := by
  have k0 : z_nw Z b = false → p_X1_noteWornOut_J26 E Q X (ad 2 b) (zb false) S := fun e => by
    refine c_J26 h hb w1 (by omega) v1 v2 (fun S' g => ?_)
    have := k S'
    rw [show z_nv Z b = Z 18 b from by unfold z_nv; rw [e, if_neg (by decide)], e] at this
    rw [if_neg (show ¬ (false = true) by decide), u0] at g
    exact this g
  have k1 : z_nw Z b = true → p_X1_noteWornOut_J26 E Q X (ad 2 b) (zb true) S := fun e => by
    refine c_J26 h hb w1 (by omega) v1 v2 (fun S' g => ?_)
    have := k S'
    rw [show z_nv Z b = 1 from by unfold z_nv; rw [e, if_pos rfl], e] at this
    rw [if_pos (show true = true from rfl)] at g
    exact this g
  refine ⟨h.o 2 b hb, h.ex 206 b hb (h.iz 206 b 0 hb (by decide) ?_)⟩
  rw [h.ga 206 b 0 hb, u0, ri_0 w0]
  refine ⟨fun h1 => k0 (z_nw_w h1), fun h1 => h.ex 205 b hb (h.iz 205 b 0 hb (by decide) ?_)⟩
  rw [h.ga 205 b 0 hb, u2]
  have el : z_lim b = 300 := if_pos hb
  refine ⟨fun h2 => k0 (z_nw_l (by rw [el]; exact h2)), fun h2 => k1 (z_nw_c h1 (by rw [el]; exact h2))⟩
/-- the wear is looked at, up to the bell p -/
def v_lk (V : vV) (Z : zZ) (V' : vV) (p : Nat) : Prop := (∀ f, f ≠ 206 → V' f = V f) ∧ (∀ b, b < p → V' 206 b 0 = z_nv Z b ∧ V' 206 b 1 = z_nv Z (6 + b)) ∧ ∀ b, p ≤ b → V' 206 b = V 206 b
theorem c_note_L {K : Int32 → zS → Prop} {Q : Int32 → zS → Prop} (hV : V_B V Z) (hB : z_B Z) (k : ∀ V' S', RC E ad la (sd M T R) V' S' → v_lk V Z V' 6 → K (zb (z_any Z 6)) S') :
    ∀ (w p : Nat) (V' : vV) (S : zS), RC E ad la (sd M T R) V' S → v_lk V Z V' p → p ≤ 6 → 6 < p + w → p_X0_noteWornOut_L4 E K Q X w (ad 1 0) (zb (z_any Z p)) (nI p) S
  | 0, p, V', S, h, hl, h1, h2 => by omega
  | w + 1, p, V', S, h, hl, h1, h2 => by
    refine pk_le 6 p (fun h3 => ?_) (fun h3 => ⟨h.o 1 0 Nat.zero_lt_one, h.eb p h3 rfl ?_⟩)
    · have : p = 6 := by omega
      subst this
      exact k V' S h hl
    · obtain ⟨_, _, _, _, _, v5, v6, v7, v8, _⟩ := hV p h3
      have e6 := hl.2.2 p (Nat.le_refl _)
      have e5 := hl.1 205 (by decide)
      refine c_noteB (Z := Z) h h3 (hB.2 p (by omega)) (hB.2 (6 + p) (by omega)) (by rw [e6]; exact v7) (by rw [e5]; exact v5) (by rw [e6]; exact v8) (by rw [e5]; exact v6) (fun S' g => ?_)
      rw [nI_1, zor2, ← Bool.or_assoc]
      refine c_note_L hV hB k w (p + 1) _ S' g ⟨fun f hf => ?_, fun b hb => ?_, fun b hb => ?_⟩ (by omega) (by omega)
      · rw [u3_f hf, u3_f hf]
        exact hl.1 f hf
      · by_cases e : b = p
        · subst e
          rw [u3_s, u3_j (show 0 ≠ 1 by decide), u3_s]
          exact ⟨rfl, rfl⟩
        · rw [u3_i e, u3_i e]
          exact hl.2.1 b (by omega)
      · rw [u3_i (show b ≠ p by omega), u3_i (show b ≠ p by omega)]
        exact hl.2.2 b (by omega)
theorem c_note {Q : Int32 → zS → Prop} (h : RC E ad la (sd M T R) V S) (hV : V_B V Z) (hB : z_B Z) (k : ∀ V' S', RC E ad la (sd M T R) V' S' → v_lk V Z V' 6 → Q (zb (z_any Z 6)) S') : p_X0_noteWornOut E (ad 1 0) S Q X :=
  ⟨7, c_note_L hV hB (K := fun (l1 : Int32) (S : zS) => (l1 = 0 ∨ l1 = 1) ∧ Q l1 S) (fun V' S' g hl => ⟨zb_01 _, k V' S' g hl⟩) 7 0 V S h ⟨fun _ _ => rfl, fun b hb => by omega, fun _ _ => rfl⟩ (by omega) (by omega)⟩
theorem c_forget_L {K Q : zS → Prop} (k : ∀ V' S', RC E ad la (sd M T R) V' S' → (∀ f, f ≠ 204 → V' f = V f) → (∀ b, b < 6 → V' 204 b 0 = 0) → K S') :
    ∀ (w p : Nat) (V' : vV) (S : zS), RC E ad la (sd M T R) V' S → (∀ f, f ≠ 204 → V' f = V f) → (∀ b, b < p → V' 204 b 0 = 0) → p ≤ 6 → 6 < p + w → p_X0_forgetPulls_L2 E K Q X w (ad 1 0) (nI p) S
  | 0, p, V', S, h, e1, e2, h1, h2 => by omega
  | w + 1, p, V', S, h, e1, e2, h1, h2 => by
    refine pk_le 6 p (fun h3 => ?_) (fun h3 => ⟨h.o 1 0 Nat.zero_lt_one, h.eb p h3 rfl (h.uI 204 2 p 0 h3 rfl (fun S' g => ?_))⟩)
    · have : p = 6 := by omega
      subst this
      exact k V' S h e1 e2
    · rw [nI_1]
      refine c_forget_L k w (p + 1) _ S' g (fun f hf => ?_) (fun b hb => ?_) (by omega) (by omega)
      · rw [u3_f hf]
        exact e1 f hf
      · by_cases e : b = p
        · subst e
          rw [u3_s]
        · rw [u3_i e]
          exact e2 b (by omega)
theorem c_forget {Q : zS → Prop} (h : RC E ad la (sd M T R) V S) (k : ∀ V' S', RC E ad la (sd M T R) V' S' → (∀ f, f ≠ 204 → V' f = V f) → (∀ b, b < 6 → V' 204 b 0 = 0) → Q S') : p_X0_forgetPulls E (ad 1 0) S Q X :=
  ⟨7, c_forget_L k 7 0 V S h (fun _ _ => rfl) (fun b hb => by omega) (by omega) (by omega)⟩
theorem c_strike {Q : zS → Prop} {b r : Nat} (h : RC E ad la (sd M T R) V S) (hb : b < 6) (hr : r < 2 ^ 31) (k : ∀ S', RC E ad la (sd M T R) (u3 (u3 V 205 b 0 (V 205 b 0 + (1 + r % 2))) 205 b 1 (V 205 b 1 + 1)) S' → Q S') : p_X1_strike E (ad 2 b) (nI r) S Q X := by
  have e2 : (nI r - nI r / 2 * 2) = nI (r % 2) := ri_rem2 hr
  have r2 : r % 2 < 2 := Nat.mod_lt _ (by decide)
  refine ⟨h.o 2 b hb, h.ex 205 b hb (h.iz 205 b 0 hb (by decide) ?_)⟩
  rw [e2, ri_0 r2, h.ga 205 b 0 hb]
  have fin : ∀ S1, RC E ad la (sd M T R) (u3 V 205 b 0 (V 205 b 0 + (1 + r % 2))) S1 → ∃ b11, gR S1 205 (ad 2 b) = some b11 ∧ (b11 ∈ gL S1 ∧ gK S1 b11 = 12) ∧ (1 < gN S1 b11 ∧ gN S1 b11 < 2 ^ 31) ∧ (1 < gN S1 b11 ∧ gN S1 b11 < 2 ^ 31) ∧ ∀ S18, S18 = sA S1 b11 1 (gA S1 b11 1 + 1) → Q S18 := by
    intro S1 g1
    refine g1.ex 205 b hb (g1.iz 205 b 1 hb (by decide) (g1.iz 205 b 1 hb (by decide) (g1.uA 205 b 1 (V 205 b 1 + 1) hb ?_ k)))
    rw [g1.ga 205 b 1 hb, u3_j (show 1 ≠ 0 by decide), nI_1]
  refine ⟨fun h1 => h.iz 205 b 0 hb (by decide) (h.uA 205 b 0 (V 205 b 0 + (1 + r % 2)) hb ?_ fin), fun h1 => h.iz 205 b 0 hb (by decide) (h.uA 205 b 0 (V 205 b 0 + (1 + r % 2)) hb ?_ fin)⟩
  · rw [show r % 2 = 1 by omega]
    exact nI_add _ 2
  · rw [h1]
    exact nI_1 _
theorem c_renew {Q : Int32 → zS → Prop} {b p : Nat} (h : RC E ad la (sd M T R) V S) (hb : b < 6) (hp : p < 2) (k : ∀ S', RC E ad la (sd M T R) (u3 (u3 V 205 b p 0) 206 b p 0) S' → Q (nI (V 205 b p)) S') : p_X1_renew E (ad 2 b) (nI p) S Q X := by
  refine ⟨h.o 2 b hb, h.ij 205 b p hb rfl hp (h.ij 205 b p hb rfl hp (h.uA 205 b p 0 hb rfl (fun S1 g1 => g1.ij 206 b p hb rfl hp ⟨Or.inl rfl, g1.uA 206 b p 0 hb rfl (fun S2 g2 => ?_)⟩)))⟩
  rw [h.ga 205 b p hb]
  exact k S2 g2
theorem c_hearPull {Q : zS → Prop} {b t : Nat} (h : RC E ad la (sd M T R) V S) (hb : b < 6) (hr : V 204 b 0 < 240)
    (k : ∀ S', RC E ad la (sd M T R) (u3 (u3 (u3 (u3 V 207 b (V 204 b 0) t) 205 b 0 (V 205 b 0 + (1 + V 204 b 0 % 2))) 205 b 1 (V 205 b 1 + 1)) 204 b 0 (V 204 b 0 + 1)) S' → Q S') : p_X1_hearPull E (ad 2 b) (nI t) S Q X := by
  refine ⟨h.o 2 b hb, ?_⟩
  rw [h.gi 204 2 b hb]
  refine pk_le 240 (V 204 b 0) (fun h1 => by omega) (fun h1 => h.ij 207 b (V 204 b 0) hb rfl hr (h.uA 207 b (V 204 b 0) t hb rfl (fun S1 g1 => ?_)))
  have e4 : gI S1 204 (ad 2 b) = nI (V 204 b 0) := by
    rw [g1.gi 204 2 b hb, u3_f (by decide)]
  rw [e4]
  refine c_strike g1 hb (by omega) (fun S2 g2 => ⟨g2.o 2 b hb, g2.uI 204 2 b (V 204 b 0 + 1) hb ?_ (fun S3 g3 => ?_)⟩)
  · rw [g2.gi 204 2 b hb, u3_f (by decide), u3_f (by decide), u3_f (by decide), nI_1]
  · rw [u3_f (show 205 ≠ 207 by decide)] at g3
    exact k S3 g3
theorem c_pullTime {Q : Int32 → zS → Prop} {b r : Nat} (h : RC E ad la (sd M T R) V S) (hb : b < 6) (hr : r < 240) (k : Q (nI (V 207 b r)) S) : p_X1_pullTime E (ad 2 b) (nI r) S Q X := by
  refine ⟨h.o 2 b hb, h.ij 207 b r hb rfl hr ?_⟩
  rw [h.ga 207 b r hb]
  exact k
theorem mk_fit0 : ∀ b0 b1 b2 b3 b4 b5 : Bool, ∀ n, n < 7 → ((nI ((((((0 ||| (if b0 = true then 0 else 2 ^ 0)) ||| (if b1 = true then 0 else 2 ^ 1)) ||| (if b2 = true then 0 else 2 ^ 2)) ||| (if b3 = true then 0 else 2 ^ 3)) ||| (if b4 = true then 0 else 2 ^ 4)) ||| (if b5 = true then 0 else 2 ^ 5)) &&& ((1 <<< (nI n &&& 31)) - 1)) = 0 ↔ (List.range n).all (fun i => [b0, b1, b2, b3, b4, b5].getD i true) = true) := by decide +kernel
theorem mk_fit (Z : zZ) {n : Nat} (hn : n < 7) : (nI (z_mk Z 6) &&& ((1 <<< (nI n &&& 31)) - 1)) = 0 ↔ z_are Z n = true := by
  have := mk_fit0 (z_in Z 0) (z_in Z 1) (z_in Z 2) (z_in Z 3) (z_in Z 4) (z_in Z 5) n hn
  have e : (List.range n).all (fun i => [z_in Z 0, z_in Z 1, z_in Z 2, z_in Z 3, z_in Z 4, z_in Z 5].getD i true) = z_are Z n := by
    unfold z_are
    rw [Bool.eq_iff_iff, List.all_eq_true, List.all_eq_true]
    refine forall_congr' (fun i => ?_)
    refine ⟨fun x y => ?_, fun x y => ?_⟩
    · have z := x y
      have w := List.mem_range.mp y
      have : i = 0 ∨ i = 1 ∨ i = 2 ∨ i = 3 ∨ i = 4 ∨ i = 5 := by omega
      rcases this with rfl | rfl | rfl | rfl | rfl | rfl <;> exact z
    · have z := x y
      have w := List.mem_range.mp y
      have : i = 0 ∨ i = 1 ∨ i = 2 ∨ i = 3 ∨ i = 4 ∨ i = 5 := by omega
      rcases this with rfl | rfl | rfl | rfl | rfl | rfl <;> exact z
  rw [← e]
  exact this
end CA
