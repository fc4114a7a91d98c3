/-! pull, the class -/
theorem u3_id (V : vV) (f i j : Nat) : u3 V f i j (V f i j) = V := by
  funext g a b
  unfold u3
  split
  · rename_i h
    rw [h.1, h.2.1, h.2.2]
  · rfl
theorem u3_id' {V : vV} {f i j v : Nat} (e : V f i j = v) : u3 V f i j v = V := by
  rw [← e]
  exact u3_id V f i j
section OPS
variable {E : zE} {x m : Nat}
/-- what the class holds after a pull -/
def vPull (V : vV) (b r t ne dl lt er : Nat) : vV := u3 (u3 (u3 (u3 (u3 (u3 (u3 (u3 V 207 b r t) 205 b 0 (V 205 b 0 + (1 + r % 2))) 205 b 1 (V 205 b 1 + 1)) 204 b 0 (r + 1)) 203 b 0 (V 203 b 0 + ne)) 201 b 0 (V 201 b 0 + lt)) 202 b 0 (V 202 b 0 + er)) 702 0 0 dl
theorem RV.pull {V : vV} {Z : zZ} {b r t ne dl lt er : Nat} (hV : RV V Z) (hI : IZ Z) (hb : b < 6) (hr : Z 34 b = r) (r240 : r < 240) (on : Z 27 0 = 1) : RV (vPull V b r t ne dl lt er) (zPull Z b t ne dl lt er) := by
  subst hr
  have va : agV [207, 205, 204, 203, 201, 202, 702] V (vPull V b (Z 34 b) t ne dl lt er) := ((((((((agV.refl _ _).u).u).u).u).u).u).u).u
  have za := zPull_ag (Z := Z) (b := b) (t := t) (ne := ne) (dl := dl) (lt := lt) (er := er)
  have G := hV.G.2 on
  refine hV.ch (lv := [207, 205, 204, 203, 201, 202, 702]) (lz := [38, 36, 37, 32, 35, 17, 34]) va za (kB := Or.inr (fun c hc => ?_)) (kG := Or.inr ⟨by rw [va 1009 (by decide), za 27 (by decide)]; exact hV.G.1, fun _ => ⟨by rw [va 700 (by decide), va 3003 (by decide), za 28 (by decide)]; exact G.1, by rw [va 701 (by decide), za 31 (by decide)]; exact G.2.1, ?_, by rw [va 704 (by decide), za 29 (by decide)]; exact G.2.2.2.1, by rw [va 705 (by decide), za 30 (by decide)]; exact G.2.2.2.2⟩⟩)
  · have w := hV.B c hc
    have wb := hV.B b hb
    rw [va 200 (by decide), va 206 (by decide), za 18 (by decide), za 19 (by decide)]
    have z36 : zPull Z b t ne dl lt er 36 c = if c = b then Z 36 b + lt else Z 36 c := by
      unfold zPull
      rw [up_f (by decide), up_f (by decide), up_f (by decide), up_f (by decide), up_f (by decide), up_f (by decide)]
      by_cases e : c = b
      · rw [if_pos e, e, up_s]
      · rw [if_neg e, up_i e, up_f (by decide)]
    have z37 : zPull Z b t ne dl lt er 37 c = if c = b then Z 37 b + er else Z 37 c := by
      unfold zPull
      rw [up_f (by decide), up_f (by decide), up_f (by decide), up_f (by decide), up_f (by decide)]
      by_cases e : c = b
      · rw [if_pos e, e, up_s]
      · rw [if_neg e, up_i e, up_f (by decide), up_f (by decide)]
    have z38 : zPull Z b t ne dl lt er 38 c = if c = b then Z 38 b + ne else Z 38 c := by
      unfold zPull
      rw [up_f (by decide), up_f (by decide), up_f (by decide), up_f (by decide), up_f (by decide), up_f (by decide), up_f (by decide)]
      by_cases e : c = b
      · rw [if_pos e, e, up_s]
      · rw [if_neg e, up_i e]
    have z34 : zPull Z b t ne dl lt er 34 c = if c = b then Z 34 b + 1 else Z 34 c := by
      unfold zPull
      by_cases e : c = b
      · rw [if_pos e, e, up_s]
      · rw [if_neg e, up_i e, up_f (by decide), up_f (by decide), up_f (by decide), up_f (by decide), up_f (by decide), up_f (by decide), up_f (by decide)]
    have z35 : ∀ r, r < 240 → zPull Z b t ne dl lt er 35 (240 * c + r) = if c = b ∧ r = Z 34 b then t else Z 35 (240 * c + r) := fun r hr => by
      unfold zPull
      rw [up_f (by decide), up_f (by decide), up_f (by decide)]
      by_cases e : c = b ∧ r = Z 34 b
      · rw [if_pos e, e.1, e.2, up_s]
      · rw [if_neg e, up_i (by omega), up_f (by decide), up_f (by decide), up_f (by decide), up_f (by decide)]
    have z17 : zPull Z b t ne dl lt er 17 c = if c = b then Z 17 b + (1 + Z 34 b % 2) else Z 17 c := by
      unfold zPull
      rw [up_f (by decide), up_i (show c ≠ 6 + b by omega)]
      by_cases e : c = b
      · rw [if_pos e, e, up_s]
      · rw [if_neg e, up_i e, up_f (by decide), up_f (by decide), up_f (by decide), up_f (by decide), up_f (by decide)]
    have z17' : zPull Z b t ne dl lt er 17 (6 + c) = if c = b then Z 17 (6 + b) + 1 else Z 17 (6 + c) := by
      unfold zPull
      rw [up_f (by decide)]
      by_cases e : c = b
      · rw [if_pos e, e, up_s]
      · rw [if_neg e, up_i (show 6 + c ≠ 6 + b by omega), up_i (show 6 + c ≠ b by omega), up_f (by decide), up_f (by decide), up_f (by decide), up_f (by decide), up_f (by decide)]
    rw [z36, z37, z38, z34, z17, z17']
    by_cases e : c = b
    · subst e
      rw [if_pos rfl, if_pos rfl, if_pos rfl, if_pos rfl, if_pos rfl, if_pos rfl]
      unfold vPull
      refine ⟨w.1, ?_, ?_, ?_, ?_, ?_, ?_, w.2.2.2.2.2.2.2.1, w.2.2.2.2.2.2.2.2.1, fun r hr => ?_⟩
      · rw [u3_f (by decide), u3_f (by decide), u3_s, w.2.1]
      · rw [u3_f (by decide), u3_s, w.2.2.1]
      · rw [u3_f (by decide), u3_f (by decide), u3_f (by decide), u3_s, ← nI_add, ← nI_add, w.2.2.2.1]
      · rw [u3_f (by decide), u3_f (by decide), u3_f (by decide), u3_f (by decide), u3_s]
      · rw [u3_f (by decide), u3_f (by decide), u3_f (by decide), u3_f (by decide), u3_f (by decide), u3_j (by decide), u3_s, w.2.2.2.2.2.1]
      · rw [u3_f (by decide), u3_f (by decide), u3_f (by decide), u3_f (by decide), u3_f (by decide), u3_s, w.2.2.2.2.2.2.1]
      · rw [u3_f (by decide), u3_f (by decide), u3_f (by decide), u3_f (by decide), u3_f (by decide), u3_f (by decide), u3_f (by decide), z35 r hr]
        by_cases e : r = Z 34 c
        · rw [if_pos ⟨rfl, e⟩, e, u3_s]
        · rw [if_neg (fun x => e x.2), u3_j e]
          exact w.2.2.2.2.2.2.2.2.2 r hr
    · rw [if_neg e, if_neg e, if_neg e, if_neg e, if_neg e, if_neg e]
      have vi : ∀ f, f ≠ 702 → vPull V b (Z 34 b) t ne dl lt er f c = V f c := fun f hf => by
        unfold vPull
        rw [u3_f hf, u3_i e, u3_i e, u3_i e, u3_i e, u3_i e, u3_i e, u3_i e]
      rw [vi 201 (by decide), vi 202 (by decide), vi 203 (by decide), vi 204 (by decide), vi 205 (by decide), vi 207 (by decide)]
      refine ⟨w.1, w.2.1, w.2.2.1, w.2.2.2.1, w.2.2.2.2.1, w.2.2.2.2.2.1, w.2.2.2.2.2.2.1, w.2.2.2.2.2.2.2.1, w.2.2.2.2.2.2.2.2.1, fun r hr => ?_⟩
      rw [z35 r hr, if_neg (fun x => e x.1)]
      exact w.2.2.2.2.2.2.2.2.2 r hr
  · unfold vPull zPull
    rw [u3_s, up_f (by decide), up_f (by decide), up_f (by decide), up_f (by decide), up_s]
theorem IZ.pull {Z : zZ} {b t ne dl lt er : Nat} (hI : IZ Z) (hb : b < z_st Z (Z 28 0)) (b6 : b < 6) (r240 : Z 34 b < 240) (on : Z 27 0 = 1) (ht : t ≤ 2000000000) (hdl : dl ≤ 2000000000) : IZ (zPull Z b t ne dl lt er) := by
  have za := zPull_ag (Z := Z) (b := b) (t := t) (ne := ne) (dl := dl) (lt := lt) (er := er)
  have c := za.m (k := [3, 4, 5, 6, 7, 10, 11, 12]) rfl
  have z27 : zPull Z b t ne dl lt er 27 0 = Z 27 0 := by rw [za 27 (by decide)]
  refine hI.ch2 (lz := [38, 36, 37, 32, 35, 17, 34]) za (kw := Or.inr (fun e => by rw [z27, on] at e; cases e)) (kg := Or.inr ⟨by rw [z27]; exact hI.g.1, fun _ => ?_⟩) (kN := Or.inr ⟨fun i => ?_, by rw [za 33 (by decide)]; exact hI.n.2.1, fun c hc => ?_, trivial⟩)
  · have g := hI.g.2 on
    rw [za 28 (by decide), za 10 (by decide), z_day_congr (za 21 (by decide)) (za 22 (by decide)), za 20 (by decide), za 29 (by decide), z_C_st c, za 30 (by decide), za 31 (by decide), z_C_L c]
    refine ⟨g.1, g.2.1, g.2.2.1, g.2.2.2.1, g.2.2.2.2.1, ?_, fun b' h1 h2 => ?_⟩
    · unfold zPull
      rw [up_f (by decide), up_f (by decide), up_f (by decide), up_f (by decide), up_s]
      exact hdl
    · have w := g.2.2.2.2.2.2 b' h1 h2
      have e17 : zPull Z b t ne dl lt er 17 b' = Z 17 b' := by
        unfold zPull
        rw [up_f (by decide), up_i (show b' ≠ 6 + b by omega), up_i (show b' ≠ b by omega), up_f (by decide), up_f (by decide), up_f (by decide), up_f (by decide), up_f (by decide)]
      have e17' : zPull Z b t ne dl lt er 17 (6 + b') = Z 17 (6 + b') := by
        unfold zPull
        rw [up_f (by decide), up_i (show 6 + b' ≠ 6 + b by omega), up_i (show 6 + b' ≠ b by omega), up_f (by decide), up_f (by decide), up_f (by decide), up_f (by decide), up_f (by decide)]
      unfold z_nw at w ⊢
      rw [e17, e17', za 18 (by decide)]
      exact w
  · unfold zPull
    rw [up_f (by decide), up_f (by decide), up_f (by decide)]
    by_cases e : i = 240 * b + Z 34 b
    · rw [e, up_s]
      exact ht
    · rw [up_i e, up_f (by decide), up_f (by decide), up_f (by decide), up_f (by decide)]
      exact hI.n.1 i
  · unfold zPull
    by_cases e : c = b
    · rw [e, up_s]
      omega
    · rw [up_i e, up_f (by decide), up_f (by decide), up_f (by decide), up_f (by decide), up_f (by decide), up_f (by decide), up_f (by decide)]
      exact hI.n.2.2.1 c hc
end OPS
