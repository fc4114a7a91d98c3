/-! the law's calls on ringing: what changes -/
theorem i64_add {a b : Int64} (h1 : -4611686018427387904 ≤ a.toInt) (h2 : a.toInt ≤ 4611686018427387903) (h3 : -4611686018427387904 ≤ b.toInt) (h4 : b.toInt ≤ 4611686018427387903) : (a + b).toInt = a.toInt + b.toInt := by
  rw [Int64.toInt_add, Int.bmod_eq_of_le (by omega) (by omega)]
theorem i64_sub {a b : Int64} (h1 : -4611686018427387904 ≤ a.toInt) (h2 : a.toInt ≤ 4611686018427387903) (h3 : -4611686018427387904 ≤ b.toInt) (h4 : b.toInt ≤ 4611686018427387903) : (a - b).toInt = a.toInt - b.toInt := by
  rw [Int64.toInt_sub, Int.bmod_eq_of_le (by omega) (by omega)]
theorem i32_sub {a b : Nat} (ha : a < 2 ^ 31) (hb : b < 2 ^ 31) : (nI a - nI b).toInt = (a : Int) - b := by
  rw [Int32.toInt_sub, nI_toInt ha, nI_toInt hb, Int.bmod_eq_of_le (by omega) (by omega)]
theorem i32_of {a : Int64} (h1 : -2147483648 ≤ a.toInt) (h2 : a.toInt ≤ 2147483647) : a.toInt32.toInt = a.toInt := by
  rw [Int64.toInt_toInt32, Int.bmod_eq_of_le (by omega) (by omega)]
theorem NB.row {Z W : zZ} {row n LL : Nat} (hn : NB Z) (on : Z 27 0 = 1) (h : z_rowR Z row n LL W) : NB W := by
  have c := z_row_C h
  have e : ∀ f, f = 28 ∨ f = 34 → W f = Z f := fun f hf => by
    obtain ⟨Z3, lo, r⟩ := h
    have k3 : Z3 f = Z f := (z_lo_f lo f (fun e => by
      simp only [List.mem_cons, List.not_mem_nil, or_false] at e
      omega)).trans (z_2_f (fun e => by
      simp only [List.mem_cons, List.not_mem_nil, or_false] at e
      omega))
    rcases r with ⟨_, a, _⟩ | ⟨_, _, a, _⟩ | ⟨_, _, a⟩
    · rw [a f (fun e => by
        simp only [List.mem_cons, List.not_mem_nil, or_false] at e
        omega)]
      exact k3
    · rw [a f (fun e => by
        simp only [List.mem_cons, List.not_mem_nil, or_false] at e
        omega)]
      exact k3
    · rw [a f (by omega) (by omega)]
      exact k3
  intro _ b hb
  rw [e 34 (Or.inr rfl), e 28 (Or.inl rfl), z_C_L c]
  exact hn on b hb
theorem NB.eq {Z Z' : zZ} (hn : NB Z) (h : z_eq Z Z') : NB Z' := by
  intro o b hb
  rw [h.2.2.2.1.1] at o
  rw [h.1 34 (by decide), h.1 28 (by decide), z_C_L h.C]
  exact hn o b hb
theorem NB.go : ∀ (N : Nat) {Z Z' : zZ}, NB Z → z_go N Z Z' → NB Z'
  | 0, Z, Z', hn, h => hn.eq h.2
  | N + 1, Z, Z', hn, h => by
    rcases h with h | ⟨h1, W, h2, h3⟩
    · exact hn.eq h.2
    · exact NB.go N (hn.row h1.1 h2) h3
def zgk (L : zZ) (j : Nat) : zZ := fun f i => if f = 10 ∧ 16 ≤ i ∧ i < 16 + j then 0 else L f i
theorem zgk_s (L : zZ) (j : Nat) : up (zgk L j) 10 (16 + j) 0 = zgk L (j + 1) := by
  funext f i
  unfold up zgk
  by_cases e : f = 10 ∧ i = 16 + j
  · rw [if_pos e, if_pos (by omega)]
  · rw [if_neg e]
    by_cases e2 : f = 10 ∧ 16 ≤ i ∧ i < 16 + j
    · rw [if_pos e2, if_pos (by omega)]
    · rw [if_neg e2, if_neg (by omega)]
theorem zgk_0 (L : zZ) : zgk L 0 = L := by
  funext f i
  unfold zgk
  rw [if_neg (by omega)]
section LOR
variable {L Z : zZ}
theorem LZ.pat {v : Nat} (hz : LZ L Z) : LZ (up L 10 12 v) (up Z 33 0 v) := by
  obtain ⟨b1, b2, b3, b4, b5, b6, b7, b8⟩ := hz.G
  exact ⟨hz.M, hz.T, hz.P, hz.W, hz.B, hz.D, hz.E, hz.X, hz.Y, ⟨b1, b2, b3, b4, rfl, b6, b7, b8⟩, hz.R.cg (fun i hi => up_i (by omega)), hz.C⟩
theorem LZ.ring {t p g c : Nat} (hz : LZ L Z) (hc : c < 4) (eb : z_ba Z (Z 20 0) = some c) : LZ (zgk (up (up (up (up (up (up (up L 10 5 (c + 1)) 10 6 1) 10 7 t) 10 8 p) 10 9 g) 10 10 0) 10 11 0) 6) (zRing Z t p g) := by
  obtain ⟨b1, b2, b3, b4, b5, b6, b7, b8⟩ := hz.G
  refine ⟨hz.M, hz.T, hz.P, hz.W, hz.B, hz.D, hz.E, hz.X, hz.Y, ⟨b1, b2, b3, Or.inr ⟨?_, ?_⟩, b5, b6, b7, b8⟩, ⟨rfl, rfl, fun _ => ⟨rfl, rfl, rfl, rfl, fun b hb => ?_⟩⟩, hz.C⟩
  · show c + 1 = z_on (z_ba Z (Z 20 0)) + 1
    rw [eb]
    rfl
  · show z_on (z_ba Z (Z 20 0)) < 4
    rw [eb]
    exact hc
  · rw [zRing_34, if_pos hb]
    exact if_pos (by omega)
theorem LZ.pull {b t ne dl lt er v7 v6 v66 v11 v8 v3 v36 v16 : Nat} (hz : LZ L Z) (on : Z 27 0 = 1) (hb : b < 6) (h16 : Z 34 b < 16) (e7 : v7 = L 7 b + ne) (e6 : v6 = L 6 b + lt) (e66 : v66 = L 6 (6 + b) + er) (e11 : v11 = dl)
    (e8 : v8 = up Z 35 (240 * b + Z 34 b) t 35 (240 * b + 2 * (Z 34 b / 2)) + 2 ^ 32 * up Z 35 (240 * b + Z 34 b) t 35 (240 * b + 2 * (Z 34 b / 2) + 1)) (e3 : v3 = L 3 b + (1 + Z 34 b % 2)) (e36 : v36 = L 3 (6 + b) + 1) (e16 : v16 = Z 34 b + 1) :
    LZ (up (up (up (up (up (up (up (up L 7 b v7) 6 b v6) 6 (6 + b) v66) 10 11 v11) 8 (8 * b + Z 34 b / 2) v8) 3 b v3) 3 (6 + b) v36) 10 (16 + b) v16) (zPull Z b t ne dl lt er) := by
  obtain ⟨r1, r2, r3⟩ := hz.R
  have r3 := r3 on
  refine ⟨⟨?_, hz.M.2⟩, ⟨?_, hz.T.2⟩, hz.P, fun i hi => ?_, hz.B, hz.D, fun i hi => ?_, fun i hi => ?_, fun c q hc hq => ?_, ?_, ⟨?_, ?_, fun _ => ⟨?_, ?_, ?_, ?_, fun c hc => ?_⟩⟩, ?_⟩
  · rw [up_i (by omega), up_f (by decide), up_f (by decide), up_f (by decide), up_i (by decide), up_f (by decide), up_f (by decide), up_f (by decide)]
    exact hz.M.1
  · rw [up_i (by omega), up_f (by decide), up_f (by decide), up_f (by decide), up_i (by decide), up_f (by decide), up_f (by decide), up_f (by decide)]
    exact hz.T.1
  · show up (up L 3 b v3) 3 (6 + b) v36 3 i = up (up Z 17 b (Z 17 b + (1 + Z 34 b % 2))) 17 (6 + b) (Z 17 (6 + b) + 1) 17 i
    by_cases a : i = 6 + b
    · rw [a, up_s, up_s, e36, hz.W _ (by omega)]
    · rw [up_i a, up_i a]
      by_cases d : i = b
      · rw [d, up_s, up_s, e3, hz.W _ (by omega)]
      · rw [up_i d, up_i d]
        exact hz.W i hi
  · show up (up L 6 b v6) 6 (6 + b) v66 6 i = up Z 36 b (Z 36 b + lt) 36 i ∧ up (up L 6 b v6) 6 (6 + b) v66 6 (6 + i) = up Z 37 b (Z 37 b + er) 37 i
    have w := hz.E i hi
    rw [up_i (by omega)]
    by_cases a : i = b
    · subst a
      rw [up_s, up_s, up_s, up_s, e6, e66, w.1, w.2]
      exact ⟨rfl, rfl⟩
    · rw [up_i a, up_i a, up_i (by omega), up_i (by omega), up_i a]
      exact w
  · show nI (up L 7 b v7 7 i) = nI (up Z 38 b (Z 38 b + ne) 38 i)
    have w := hz.X i hi
    by_cases a : i = b
    · subst a
      rw [up_s, up_s, e7, ← nI_add, ← nI_add, w]
    · rw [up_i a, up_i a]
      exact w
  · show up L 8 (8 * b + Z 34 b / 2) v8 8 (8 * c + q) = up Z 35 (240 * b + Z 34 b) t 35 (240 * c + 2 * q) + 2 ^ 32 * up Z 35 (240 * b + Z 34 b) t 35 (240 * c + 2 * q + 1)
    by_cases a : 8 * c + q = 8 * b + Z 34 b / 2
    · have e1 : c = b := by omega
      have e2 : q = Z 34 b / 2 := by omega
      subst e1
      rw [e2, up_s]
      exact e8
    · rw [up_i a, up_i (by omega), up_i (by omega)]
      exact hz.Y c q hc hq
  · obtain ⟨b1, b2, b3, b4, b5, b6, b7, b8⟩ := hz.G
    refine ⟨?_, ?_, ?_, ?_, ?_, ?_, ?_, ?_⟩ <;> rw [up_i (by omega), up_f (by decide), up_f (by decide), up_f (by decide), up_i (by decide), up_f (by decide), up_f (by decide), up_f (by decide)]
    · exact b1
    · exact b2
    · exact b3
    · exact b4
    · exact b5
    · exact b6
    · exact b7
    · exact b8
  · rw [up_i (by omega), up_f (by decide), up_f (by decide), up_f (by decide), up_i (by decide), up_f (by decide), up_f (by decide), up_f (by decide)]
    exact r1
  · rw [up_i (by omega), up_f (by decide), up_f (by decide), up_f (by decide), up_i (by decide), up_f (by decide), up_f (by decide), up_f (by decide)]
    exact r2
  · rw [up_i (by omega), up_f (by decide), up_f (by decide), up_f (by decide), up_i (by decide), up_f (by decide), up_f (by decide), up_f (by decide)]
    exact r3.1
  · rw [up_i (by omega), up_f (by decide), up_f (by decide), up_f (by decide), up_i (by decide), up_f (by decide), up_f (by decide), up_f (by decide)]
    exact r3.2.1
  · rw [up_i (by omega), up_f (by decide), up_f (by decide), up_f (by decide), up_i (by decide), up_f (by decide), up_f (by decide), up_f (by decide)]
    exact r3.2.2.1
  · rw [up_i (by omega), up_f (by decide), up_f (by decide), up_f (by decide), up_s, e11]
    rfl
  · show up _ 10 (16 + b) v16 10 (16 + c) = up Z 34 b (Z 34 b + 1) 34 c
    by_cases a : c = b
    · rw [a, up_s, up_s, e16]
    · rw [up_i (by omega), up_i a, up_f (by decide), up_f (by decide), up_f (by decide), up_i (by omega), up_f (by decide), up_f (by decide), up_f (by decide)]
      exact r3.2.2.2.2 c hc
  · obtain ⟨c1, c2, c3, c4, c5, c6⟩ := hz.C
    refine ⟨?_, c2, ?_, ?_, c5, ?_⟩ <;> rw [up_i (by omega), up_f (by decide), up_f (by decide), up_f (by decide), up_i (by decide), up_f (by decide), up_f (by decide), up_f (by decide)]
    · exact c1
    · exact c3
    · exact c4
    · exact c6
end LOR
