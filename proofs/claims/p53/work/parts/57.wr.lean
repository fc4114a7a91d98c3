/-! the class's methods and the writing of a touch's rows -/
theorem c_af {E : zE} {S : zS} {X : String → zS → Prop} {Q : Int32 → zS → Prop} {n c r : Nat} (hN : ro_N n) (hr : ro_V n r) (hc : ro_isC n c = true) (k : Q (nI (ro_af n c r)) S) : p_X8_afterChange E (nI r) (nI c) (nI n) S Q X := by
  obtain ⟨s0, _, _, _, hc64⟩ := ro_f0 hN hc
  have h1 := ro_V_lt hN hr
  refine w8_afterChange (by unfold ro_N at hN; omega) (by omega) (by omega) ?_
  rw [(ro_af_V hN hr hc).2.1]
  exact k
theorem c_num {E : zE} {S : zS} {X : String → zS → Prop} {Q : Int32 → zS → Prop} {n r : Nat} (hN : ro_N n) (hr : ro_V n r) (k : Q (nI (ro_num n r 7 0 0)) S) : p_X8_number E (nI r) (nI n) S Q X := by
  have h1 := ro_V_lt hN hr
  refine w8_number (by unfold ro_N at hN; omega) (by omega) hr.2.1 ?_
  rw [← (ro_f1 hN hr).1]
  exact k
theorem ro_N6 {n : Nat} (hN : ro_N n) : n ≤ 6 ∧ 4 ≤ n := by unfold ro_N at hN; omega
def z_tcG (Z : zZ) (mm cc : Nat → Nat) : Nat → List Nat
  | 0 => []
  | k + 1 => z_tcG Z mm cc k ++ z_lc Z (mm k) (cc k)
theorem z_tcG_t (Z : zZ) (t : Nat) : ∀ k, z_tcG Z (z_mt Z t) (z_cl Z t) k = z_tc Z t k
  | 0 => rfl
  | k + 1 => by
    show z_tcG Z (z_mt Z t) (z_cl Z t) k ++ _ = z_tc Z t k ++ _
    rw [z_tcG_t Z t k]
theorem z_tcG_congr {Z : zZ} {mm cc mm' cc' : Nat → Nat} : ∀ {k : Nat}, (∀ j, j < k → mm' j = mm j ∧ cc' j = cc j) → z_tcG Z mm' cc' k = z_tcG Z mm cc k
  | 0, _ => rfl
  | k + 1, h => by
    show z_tcG Z mm' cc' k ++ _ = z_tcG Z mm cc k ++ _
    rw [z_tcG_congr (k := k) (fun j hj => h j (by omega)), (h k (by omega)).1, (h k (by omega)).2]
/-- leads of one stage -/
def z_LD (Z : zZ) (mm cc : Nat → Nat) (n q : Nat) : Prop := ro_N n ∧ q ≤ 20 ∧ ∀ k, k < q → mm k < Z 3 0 ∧ cc k < 3 ∧ Z 4 (mm k) = n
theorem z_tcG_ok {Z : zZ} {mm cc : Nat → Nat} {n q : Nat} (hM : z_M Z) (h : z_LD Z mm cc n q) : ∀ k, k ≤ q → (∀ x, x ∈ z_tcG Z mm cc k → ro_isC n x = true) ∧ (z_tcG Z mm cc k).length ≤ 12 * k ∧ k ≤ (z_tcG Z mm cc k).length
  | 0, _ => ⟨fun x hx => absurd hx (List.not_mem_nil), Nat.le_refl _, Nat.le_refl _⟩
  | k + 1, hk => by
    have h1 := z_tcG_ok hM h k (by omega)
    have h2 := h.2.2 k (by omega)
    have h3 := hM.2 _ h2.1
    have e : (z_tcG Z mm cc (k + 1)).length = (z_tcG Z mm cc k).length + Z 5 (mm k) := by
      show (z_tcG Z mm cc k ++ z_lc Z (mm k) (cc k)).length = _
      rw [List.length_append, z_lc_len]
    refine ⟨fun x hx => ?_, by omega, by omega⟩
    rcases List.mem_append.mp hx with y | y
    · exact h1.1 x y
    · rw [← h2.2.2]
      exact z_M_lc hM h2.1 h2.2.1 x y
theorem z_tcG_s (Z : zZ) (mm cc : Nat → Nat) (k : Nat) : (z_tcG Z mm cc (k + 1)).length = (z_tcG Z mm cc k).length + Z 5 (mm k) := by
  show (z_tcG Z mm cc k ++ z_lc Z (mm k) (cc k)).length = _
  rw [List.length_append, z_lc_len]
/-- the rows of the changes cs are written into the touch s -/
def v_W (n : Nat) (V : vV) (s : Nat) (cs : List Nat) (ofs : Nat → Nat) : Prop :=
  V 902 s 0 = cs.length ∧ (∀ r x, (ro_ws n (ro_rnd n) cs)[r]? = some x → V 908 s r = x) ∧ V_P V ∧
  ∃ B, (∀ r, r < B → ∀ k, k < r → V 908 s k ≠ V 908 s r) ∧ (∀ r, r < B → V 600 0 (ro_num n (V 908 s r) 7 0 0) = r) ∧
    ((B = cs.length ∧ nI (V 903 s 0) = -1) ∨ (B < cs.length ∧ V 903 s 0 = B ∧ (∃ k, k < B ∧ V 908 s k = V 908 s B) ∧ ofs (V 904 s 0) ≤ B ∧ B < ofs (V 904 s 0 + 1)))
/-- nothing else has changed -/
def v_ag (V V' : vV) (s : Nat) : Prop := ∀ f a, f ≠ 600 → ¬ ((f = 902 ∨ f = 903 ∨ f = 904 ∨ f = 905 ∨ f = 908) ∧ a = s) → V' f a = V f a
theorem v_ag.refl (V : vV) (s : Nat) : v_ag V V s := fun _ _ _ _ => rfl
theorem v_ag.trans {V V1 V2 : vV} {s : Nat} (h : v_ag V V1 s) (h2 : v_ag V1 V2 s) : v_ag V V2 s := fun f a h0 h1 => (h2 f a h0 h1).trans (h f a h0 h1)
theorem v_ag.u {V V1 : vV} {s f j v : Nat} (h : v_ag V V1 s) (hf : f = 902 ∨ f = 903 ∨ f = 904 ∨ f = 905 ∨ f = 908) : v_ag V (u3 V1 f s j v) s := fun g a h0 h1 => by
  have : u3 V1 f s j v g a = V1 g a := funext fun b => if_neg (fun e => h1 ⟨by rw [e.1]; exact hf, e.2.1⟩)
  rw [this]
  exact h g a h0 h1
theorem v_ag.p {V V1 : vV} {s j v : Nat} (h : v_ag V V1 s) : v_ag V (u3 V1 600 0 j v) s := fun g a h0 h1 => by
  rw [u3_f h0]
  exact h g a h0 h1
theorem ro_ws_get {n : Nat} {cs : List Nat} {c : Nat} : (ro_ws n (ro_rnd n) (cs ++ [c]))[cs.length]? = some (ro_af n c (ro_la n (ro_rnd n) cs)) := by
  rw [ro_ws_1, List.getElem?_append_right (by rw [ro_ws_len]; exact Nat.le_refl _), ro_ws_len, Nat.sub_self]
  rfl
theorem ro_ws_lt {n r : Nat} {cs : List Nat} {c : Nat} (h : r < cs.length) : (ro_ws n (ro_rnd n) (cs ++ [c]))[r]? = (ro_ws n (ro_rnd n) cs)[r]? := by
  rw [ro_ws_1, List.getElem?_append_left (by rw [ro_ws_len]; exact h)]
theorem ro_ws_some {n r : Nat} {cs : List Nat} (h : r < cs.length) : ∃ x, (ro_ws n (ro_rnd n) cs)[r]? = some x :=
  ⟨_, List.getElem?_eq_getElem (by rw [ro_ws_len]; exact h)⟩
section WRT
variable {E : zE} {ad la : Nat → Nat → Nat} {M T R : Nat} {V : vV} {Z : zZ} {S : zS} {X : String → zS → Prop}
theorem c_changeOf {Q : Int32 → zS → Prop} {i c j : Nat} (h : RC E ad la (sd M T R) V S) (hV : V_M V Z) (hM : z_M Z) (hi : i < M) (hi2 : i < Z 3 0) (hc : c < 3) (hj : j < Z 5 i) (k : Q (nI (z_ch Z i c j)) S) : p_X4_changeOf E (ad 5 i) (nI c) (nI j) S Q X := by
  have b := z_M_n hM hi2
  obtain ⟨_, v0, v1, v2, v4, v5, _⟩ := hV.2 i hi2
  refine ⟨h.o 5 i hi, ?_⟩
  rw [h.gi 502 5 i hi, v2, show (nI (Z 5 i) - 1 : Int32) = nI (Z 5 i - 1) from pk_sub (b := 1) (by omega)]
  refine ⟨fun _ => ⟨fun h1 => h.ij 504 i j hi rfl (by show _ < 12; omega) ?_, fun h1 => h.ij 505 i c hi rfl hc ?_⟩, fun h1 => absurd (nI_lt hj (by omega)) h1⟩
  · rw [nI_eq (by omega) (by omega)] at h1
    rw [h.ga 504 i j hi, v4 j hj]
    unfold z_ch at k
    rw [if_neg (fun x => h1 x.1)] at k
    exact k
  · rw [nI_eq (by omega) (by omega)] at h1
    rw [h.ga 505 i c hi, v5 c hc, ← h1]
    exact k
theorem c_changeOfN {Q : Int32 → zS → Prop} {i j : Nat} {c : Int32} (h : RC E ad la (sd M T R) V S) (hV : V_M V Z) (hM : z_M Z) (hi : i < M) (hi2 : i < Z 3 0) (hj : Z 5 i ≤ j) (hj2 : j < 2 ^ 31) (k : Q (-1) S) : p_X4_changeOf E (ad 5 i) c (nI j) S Q X := by
  have b := z_M_n hM hi2
  obtain ⟨_, v0, v1, v2, v4, v5, _⟩ := hV.2 i hi2
  refine ⟨h.o 5 i hi, ?_⟩
  rw [h.gi 502 5 i hi, v2]
  exact ⟨fun h1 => absurd h1 (nI_nlt hj (by omega)), fun _ => k⟩
theorem c_lastRow4_L {K : Int32 → zS → Prop} {Q : Int32 → zS → Prop} {i c r : Nat} (h : RC E ad la (sd M T R) V S) (hV : V_M V Z) (hM : z_M Z) (hi : i < M) (hi2 : i < Z 3 0) (hc : c < 3) (hr : ro_V (Z 4 i) r) (k : K (nI (ro_la (Z 4 i) r (z_lc Z i c))) S) :
    ∀ (w j : Nat), j ≤ Z 5 i → Z 5 i < j + w → p_X4_lastRow_L5 E K Q X w (ad 5 i) (nI c) (nI (ro_la (Z 4 i) r ((List.range j).map (z_ch Z i c)))) (nI j) S
  | 0, j, h1, h2 => by omega
  | w + 1, j, h1, h2 => by
    have b := z_M_n hM hi2
    have hN := (hM.2 i hi2).1
    obtain ⟨_, v0, v1, v2, v4, v5, _⟩ := hV.2 i hi2
    refine ⟨h.o 5 i hi, ?_⟩
    rw [h.gi 502 5 i hi, v2]
    refine pk_le (Z 5 i) j (fun h3 => ?_) (fun h3 => c_changeOf h hV hM hi hi2 hc h3 ⟨h.o 5 i hi, ?_⟩)
    · have : j = Z 5 i := by omega
      subst this
      exact k
    · have hV2 := ro_la_V hN ((List.range j).map (z_ch Z i c)) _ hr (fun x hx => by
        obtain ⟨k2, hk2, e6⟩ := List.mem_map.mp hx
        rw [← e6]
        exact z_M_ch hM hi2 hc (by have := List.mem_range.mp hk2; omega))
      have e9 : (List.range (j + 1)).map (z_ch Z i c) = (List.range j).map (z_ch Z i c) ++ [z_ch Z i c j] := by
        rw [List.range_succ, List.map_append]
        rfl
      rw [h.gi 501 5 i hi, v1]
      refine c_af hN hV2 (z_M_ch hM hi2 hc h3) ?_
      have ih := c_lastRow4_L (Q := Q) h hV hM hi hi2 hc hr k w (j + 1) (by omega) (by omega)
      rw [e9, ro_la_1] at ih
      rw [nI_1]
      exact ih
theorem c_lastRow4 {Q : Int32 → zS → Prop} {i c r : Nat} (h : RC E ad la (sd M T R) V S) (hV : V_M V Z) (hM : z_M Z) (hi : i < M) (hi2 : i < Z 3 0) (hc : c < 3) (hr : ro_V (Z 4 i) r) (k : Q (nI (ro_la (Z 4 i) r (z_lc Z i c))) S) : p_X4_lastRow E (ad 5 i) (nI r) (nI c) S Q X :=
  ⟨13, c_lastRow4_L h hV hM hi hi2 hc hr k 13 0 (by omega) (by have := z_M_n hM hi2; omega)⟩
theorem c_course_L {K : Int32 → zS → Prop} {Q : Int32 → zS → Prop} {i k0 : Nat} (h : RC E ad la (sd M T R) V S) (hV : V_M V Z) (hM : z_M Z) (hi : i < M) (hi2 : i < Z 3 0) (hk6 : k0 ≤ 6) (hk : ro_it (Z 4 i) (z_lc Z i 0) k0 = ro_rnd (Z 4 i)) (hk2 : ∀ q, 1 ≤ q → q < k0 → ro_it (Z 4 i) (z_lc Z i 0) q ≠ ro_rnd (Z 4 i)) (k : K (nI k0) S) :
    ∀ (w q : Nat), 1 ≤ q → q ≤ k0 → k0 < q + w → p_X4_leadsToRounds_L17 E K Q X w (ad 5 i) (nI (ro_rnd (Z 4 i))) (nI (ro_it (Z 4 i) (z_lc Z i 0) q)) (nI q) S
  | 0, q, h0, h1, h2 => by omega
  | w + 1, q, h0, h1, h2 => by
    have hN := (hM.2 i hi2).1
    have hc := z_M_lc hM hi2 (c := 0) (by decide)
    have hVq := ro_it_V hN hc q
    have b1 := ro_V_lt hN hVq
    have b2 := ro_V_lt hN (ro_V_rnd hN).1
    refine ⟨fun h3 => ?_, fun h3 => ⟨fun h4 => ?_, fun h4 => ⟨h.o 5 i hi, c_lastRow4 h hV hM hi hi2 (c := 0) (by decide) hVq ?_⟩⟩⟩
    · rw [nI_eq (by omega) (by omega)] at h3
      have : q = k0 := by
        by_cases e : q < k0
        · exact absurd h3 (hk2 q h0 e)
        · omega
      subst this
      exact k
    · exact absurd h4 (nI_ge (a := q) (b := 720) (by omega) (by omega))
    · have hq : q < k0 := by
        by_cases e : q = k0
        · subst e
          rw [hk] at h3
          exact absurd rfl h3
        · omega
      rw [nI_1]
      exact c_course_L h hV hM hi hi2 hk6 hk hk2 k w (q + 1) (by omega) (by omega) (by omega)
theorem c_course {Q : Int32 → zS → Prop} {i k0 : Nat} (h : RC E ad la (sd M T R) V S) (hV : V_M V Z) (hM : z_M Z) (hi : i < M) (hi2 : i < Z 3 0) (h1 : 1 ≤ k0) (hk6 : k0 ≤ 6) (hk : ro_it (Z 4 i) (z_lc Z i 0) k0 = ro_rnd (Z 4 i)) (hk2 : ∀ q, 1 ≤ q → q < k0 → ro_it (Z 4 i) (z_lc Z i 0) q ≠ ro_rnd (Z 4 i)) (k : Q (nI k0) S) : p_X4_leadsToRounds E (ad 5 i) S Q X := by
  have hN := (hM.2 i hi2).1
  obtain ⟨_, v0, v1, v2, v4, v5, _⟩ := hV.2 i hi2
  refine ⟨h.o 5 i hi, ?_⟩
  rw [h.gi 501 5 i hi, v1]
  refine w8_rounds (by unfold ro_N at hN; omega) ⟨h.o 5 i hi, c_lastRow4 h hV hM hi hi2 (c := 0) (by decide) (ro_V_rnd hN).1 ⟨8, ?_⟩⟩
  exact c_course_L h hV hM hi hi2 hk6 hk hk2 k 8 1 (by omega) h1 (by omega)
theorem c_lastRow9 {Q : Int32 → zS → Prop} {s r n L : Nat} (h : RC E ad la (sd M T R) V S) (hs : s < T) (hn : V 901 s 0 = n) (hn6 : n ≤ 6) (hL : V 902 s 0 = L) (hL2 : L ≤ 240) (h0 : L = 0 → r = ro_rnd n) (h1 : 0 < L → V 908 s (L - 1) = r) (k : Q (nI r) S) : p_X9_lastRow E (ad 9 s) S Q X := by
  refine ⟨h.o 9 s hs, ?_⟩
  rw [h.gi 902 9 s hs, hL]
  refine ⟨fun h2 => ?_, fun h2 => ?_⟩
  · have : 0 < L := by
      by_cases e : L = 0
      · subst e
        exact absurd rfl h2
      · omega
    refine h.ij 908 s (L - 1) hs (pk_sub (b := 1) (by omega)) (by show _ < 240; omega) ?_
    rw [h.ga 908 s _ hs, h1 this]
    exact k
  · have : L = 0 := by
      by_cases e : 0 < L
      · exact absurd h2 (nI_ne0 e (by omega))
      · omega
    rw [h.gi 901 9 s hs, hn]
    refine w8_rounds hn6 ?_
    rw [← h0 this]
    exact k
theorem c_isRepeat {Q : Int32 → zS → Prop} {n s x : Nat} (h : RC E ad la (sd M T R) V S) (hs : s < T) (hx : x < 240) (hN : ro_N n) (hv : ∀ r, r ≤ x → ro_V n (V 908 s r)) (hp : V_P V) (hk : ∀ r, r < x → V 600 0 (ro_num n (V 908 s r) 7 0 0) = r)
    (k1 : (∃ k, k < x ∧ V 908 s k = V 908 s x) → Q 1 S) (k0 : (∀ k, k < x → V 908 s k ≠ V 908 s x) → ∀ S', RC E ad la (sd M T R) (u3 V 600 0 (ro_num n (V 908 s x) 7 0 0) x) S' → Q 0 S') : p_X5_isRepeat E (ad 6 0) (ad 908 s) (nI x) (nI n) S Q X := by
  have f := ro_f1 hN (hv x (Nat.le_refl _))
  have h720 : ro_num n (V 908 s x) 7 0 0 < 720 := Nat.lt_of_lt_of_le f.2.1 (by unfold ro_fac; split; omega; split <;> omega)
  have hg := hp (ro_num n (V 908 s x) 7 0 0)
  refine ⟨h.o 908 s hs, h.ix 908 s x hs rfl hx ?_⟩
  rw [h.ga 908 s x hs]
  refine c_num hN (hv x (Nat.le_refl _)) ⟨h.o 6 0 Nat.zero_lt_one, h.ij 600 0 (ro_num n (V 908 s x) 7 0 0) Nat.zero_lt_one rfl h720 ?_⟩
  rw [h.ga 600 0 _ Nat.zero_lt_one]
  have W : (∀ k, k < x → V 908 s k ≠ V 908 s x) → ∃ b12, gR S 600 (ad 6 0) = some b12 ∧ (b12 ∈ gL S ∧ gK S b12 = 12) ∧ ∃ j15, (nI (ro_num n (V 908 s x) 7 0 0) = nI j15 ∧ j15 < gN S b12 ∧ gN S b12 < 2 ^ 31) ∧ ∀ S17, S17 = sA S b12 j15 (nI x) → ((0 : Int32) = 0 ∨ (0 : Int32) = 1) ∧ Q 0 S17 := fun e =>
    h.ij 600 0 (ro_num n (V 908 s x) 7 0 0) Nat.zero_lt_one rfl h720 (h.uA 600 0 (ro_num n (V 908 s x) 7 0 0) x Nat.zero_lt_one rfl (fun S' g => ⟨Or.inl rfl, k0 e S' g⟩))
  refine pk_le x (V 600 0 (ro_num n (V 908 s x) 7 0 0)) (fun h1 => W (fun k hk' e => ?_)) (fun h1 => ⟨h.o 908 s hs, h.ix 908 s (V 600 0 (ro_num n (V 908 s x) 7 0 0)) hs rfl hg (h.ix 908 s x hs rfl hx ?_)⟩)
  · have := hk k hk'
    rw [e] at this
    omega
  · have b1 := ro_V_lt hN (hv x (Nat.le_refl _))
    have b2 := ro_V_lt hN (hv _ (Nat.le_of_lt h1))
    rw [h.ga 908 s _ hs, h.ga 908 s x hs, nI_eq (by omega) (by omega)]
    refine ⟨fun h2 => W (fun k hk' e => ?_), fun h2 => ⟨Or.inr rfl, k1 ⟨_, h1, h2⟩⟩⟩
    have := hk k hk'
    rw [e] at this
    rw [this] at h2
    exact h2 e
end WRT
