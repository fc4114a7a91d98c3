/-! the class's new object -/
section LN3
variable {E : zE} {ad la : Nat → Nat → Nat} {n : Nat → Nat} {V : vV} {S : zS} {X : String → zS → Prop}
theorem RC.lnkS (h : RC E ad la n V S) (f t c : Nat) {a q : Nat} (h0 : n f = 0) (ht : 0 < n t) (hc : 0 < n c) (ea : ad c 0 = a) (eq : ad t 0 = q) (hcf : f / 100 = c := by rfl) (hp : (f, t) ∈ cS := by decide) (hT : f ∈ cT := by decide) (h9 : f ≠ 1009 ∧ f ≠ 703 ∧ f ∉ cV := by decide) (u : ∀ p, p ∈ cS → p.1 = f → p.2 = t := by decide) : RC E ad la (va_up n f 1) V (sR S f a (some q)) := by
  subst hcf
  subst ea
  subst eq
  exact h.lnk hT h0 (fun _ _ => rfl) (fun p hp2 e => by rw [u p hp2 e]; exact ⟨⟨ht, hc⟩, rfl, rfl⟩) (fun e => absurd e h9.2.2) (fun e => absurd e h9.1) (fun e => absurd e h9.2.1)
theorem RC.lnkV (h : RC E ad la n V S) (f c v : Nat) {a q : Nat} (h0 : n f = 0) (hv : v < n 9) (hc : 0 < n c) (ea : ad c 0 = a) (eq : ad 9 v = q) (hcf : f / 100 = c := by rfl) (hf : f ∈ cV := by decide) (hT : f ∈ cT := by decide) (h9 : f ≠ 1009 ∧ f ≠ 703 := by decide) (u : ∀ p, p ∈ cS → p.1 ≠ f := by decide) : RC E ad la (va_up n f 1) (u3 V f 0 0 v) (sR S f a (some q)) := by
  subst hcf
  subst ea
  subst eq
  exact h.lnk hT h0 (fun g hg => u3_f hg) (fun p hp2 e => absurd e (u p hp2)) (fun _ => ⟨⟨by rw [u3_s]; exact hv, hc⟩, rfl, by rw [u3_s]⟩) (fun e => absurd e h9.1) (fun e => absurd e h9.2)
theorem RC.nwQ (h : RC E ad la n V S) (f c k l s12 : Nat) {o : Nat} {P : zS → Prop} (hf : (f = 100 ∧ c = 1 ∧ k = 14 ∧ l = 6 ∧ s12 = 12002) ∨ (f = 801 ∧ c = 8 ∧ k = 15 ∧ l = 61 ∧ s12 = 12004)) (ho : ad c 0 = o) (ei : n f = 0) (hc : 0 < n c) (e12 : n s12 = 0) (kk : ∀ ad' S', (∀ s i, i < n s → ad' s i = ad s i) → RC E ad' la (va_up n f 1) (vF V f 0 (fun _ => 0)) S' → P S') :
    ∀ q1, q1 ∉ gL S → ∀ S3, S3 = nA S q1 k l → (o ∈ gL S3 ∧ gK S3 o = c) ∧ ∀ S8, S8 = sR S3 f o (some q1) → P S8 := by
  rintro q hq _ rfl
  subst ho
  have hA := h.mkA hq k l
  have ef : f / 100 = c ∧ kd f = k ∧ f ∈ cR ∧ so c = true ∧ kd c = c ∧ f ∉ cA ∧ f ∉ cL := by
    rcases hf with ⟨rfl, rfl, rfl, rfl, rfl⟩ | ⟨rfl, rfl, rfl, rfl, rfl⟩ <;> decide
  have oc := hA.1.1 c 0 ef.2.2.2.1 hc
  rw [ef.2.2.2.2.1] at oc
  refine ⟨oc, ?_⟩
  rintro _ rfl
  have g := hA.nmF (f := f) (q := q) (W := fun _ => 0) ef.2.2.1 (by rw [ei, ef.1]; exact hc) (h.dq hq) ⟨by rw [gL_nA]; exact List.mem_append_right _ (List.mem_singleton.mpr rfl), by rw [gK_nA, va_up_self, ef.2.1]⟩ (fun e => absurd e ef.2.2.2.2.2.1) (fun e => ?_) (fun e => ?_) (fun e => absurd e ef.2.2.2.2.2.2)
  · rw [ei, ef.1] at g
    refine kk _ _ (fun s i hi => ?_) g
    by_cases e : s = f
    · subst e
      rw [ei] at hi
      exact absurd hi (Nat.not_lt_zero i)
    · rw [a2_t e]
  · rcases hf with ⟨rfl, rfl, rfl, rfl, rfl⟩ | ⟨rfl, rfl, rfl, rfl, rfl⟩
    · exact ⟨ei, by rw [gN_nA, va_up_self], e12⟩
    · exact absurd e (by decide)
  · rcases hf with ⟨rfl, rfl, rfl, rfl, rfl⟩ | ⟨rfl, rfl, rfl, rfl, rfl⟩
    · exact absurd e (by decide)
    · exact ⟨ei, by rw [gN_nA, va_up_self], e12⟩
/-- bands of six -/
theorem c_band_L {K : Nat → zS → Prop} {Q : zS → Prop} (h8 : 0 < n 8) (h800 : 0 < n 800) (k : ∀ V' S', RC E ad la n V' S' → (∀ f, f ≠ 800 → V' f = V f) → (∀ j, j < 4 → V' 800 0 j = 6) → K (ad 8 0) S') :
    ∀ (w j : Nat) (V' : vV) (S : zS), RC E ad la n V' S → (∀ f, f ≠ 800 → V' f = V f) → (∀ p, p < j → V' 800 0 p = 6) → j ≤ 4 → 4 < j + w → p_X7_init_L13 E K Q X w (ad 8 0) (nI j) S
  | 0, j, V', S, h, a, b, c, d => by omega
  | w + 1, j, V', S, h, a, b, c, d => by
    refine pk_le 4 j (fun h3 => ?_) (fun h3 => ⟨h.o 8 0 h8, h.ij 800 0 j h800 rfl (by show j < 4; exact h3) (h.uA 800 0 j 6 h800 rfl (fun S1 g1 => ?_))⟩)
    · have : j = 4 := by omega
      subst this
      exact k V' S h a b
    · rw [nI_1]
      refine c_band_L h8 h800 k w (j + 1) _ S1 g1 (fun f hf => by rw [u3_f hf]; exact a f hf) (fun p hp => ?_) (by omega) (by omega)
      by_cases e : p = j
      · rw [e, u3_s]
      · rw [u3_j e]
        exact b p (by omega)
theorem c_bells {K Q : zS → Prop} (h : RC E ad la n V S) (h1 : n 1 = 1) (h100 : n 100 = 1) (hz : n 2 = 0 ∧ n 205 = 0 ∧ n 206 = 0 ∧ n 207 = 0 ∧ n 12002 = 0) (hv : ∀ f, f ∈ [200, 201, 202, 203, 204, 205, 206, 207] → ∀ i j, V f i j = 0) (k : ∀ ad' V' S', RC E ad' la (nB n 6) V' S' → (∀ s i, i < n s → s ≠ 2 → s ≠ 205 → s ≠ 206 → s ≠ 207 → s < 12000 → ad' s i = ad s i) → (∀ f, f ∉ [200, 201, 202, 203, 204, 205, 206, 207, 4205, 4206, 4207] → V' f = V f) → (∀ f, f ∈ [200, 201, 202, 203, 204, 205, 206, 207] → ∀ i j, V' f i j = 0) → K S') : ∃ m15, m15 ≤ 7 ∧ p_X0_init_L15 E K Q X m15 (ad 1 0) 0 S :=
  ⟨7, Nat.le_refl _, c_bells_L (n := n) h1 h100 k 7 0 ad V S (h.cn (fun s _ => by
    unfold nB
    split
    · rename_i c
      rcases c with rfl | rfl | rfl | rfl | rfl
      · exact hz.1.symm
      · exact hz.2.1.symm
      · exact hz.2.2.1.symm
      · exact hz.2.2.2.1.symm
      · exact hz.2.2.2.2.symm
    · rfl)) (fun _ _ _ _ _ _ _ _ => rfl) (fun _ _ => rfl) hv (Nat.zero_le _) (by decide)⟩
theorem c_days {K : Nat → zS → Prop} {Q : zS → Prop} (h : RC E ad la n V S) (h8 : n 8 = 1) (h801 : n 801 = 1) (hz : n 4 = 0 ∧ n 400 = 0 ∧ n 12004 = 0) (hv : ∀ i j, V 400 i j = 0) (k : ∀ ad' V' S', RC E ad' la (nD n 61) V' S' → (∀ s i, i < n s → s ≠ 4 → s ≠ 400 → s < 12000 → ad' s i = ad s i) → (∀ f, f ∉ [400, 4400] → V' f = V f) → (∀ i j, V' 400 i j = 0) → K (ad 8 0) S') : ∃ m43, m43 ≤ 62 ∧ p_X7_init_L43 E K Q X m43 (ad 8 0) 0 S :=
  ⟨62, Nat.le_refl _, c_days_L (n := n) h8 h801 k 62 0 ad V S (h.cn (fun s _ => by
    unfold nD
    split
    · rename_i c
      rcases c with rfl | rfl | rfl
      · exact hz.1.symm
      · exact hz.2.1.symm
      · exact hz.2.2.symm
    · rfl)) (fun _ _ _ _ _ _ => rfl) (fun _ _ => rfl) hv (Nat.zero_le _) (by decide)⟩
theorem c_band {K : Nat → zS → Prop} {Q : zS → Prop} (h : RC E ad la n V S) (h8 : 0 < n 8) (h800 : 0 < n 800) (k : ∀ V' S', RC E ad la n V' S' → (∀ f, f ≠ 800 → V' f = V f) → (∀ j, j < 4 → V' 800 0 j = 6) → K (ad 8 0) S') : ∃ m13, p_X7_init_L13 E K Q X m13 (ad 8 0) 0 S :=
  ⟨5, c_band_L h8 h800 k 5 0 V S h (fun _ _ => rfl) (fun p hp => absurd hp (Nat.not_lt_zero p)) (Nat.zero_le _) (by decide)⟩
end LN3
def ZV (V : vV) : Prop := ∀ f, f ∉ [900, 901, 902, 903, 904, 905, 906, 907, 908, 4906, 4907, 4908, 4205, 4206, 4207, 4400, 1006, 800, 805, 1010, 1013] → ∀ i j, V f i j = 0
theorem ZV.z {V : vV} (h : ZV V) (c i : Nat) : ZV (vz V c i) := fun f hf a b => by
  unfold vz
  split
  · rfl
  · exact h f hf a b
theorem ZV.F {V : vV} (h : ZV V) (g i : Nat) : ZV (vF V g i (fun _ => 0)) := fun f hf a b => by
  unfold vF
  split
  · rfl
  · exact h f hf a b
theorem ZV.u {V : vV} (h : ZV V) {g i j v : Nat} (hg : g ∈ [900, 901, 902, 903, 904, 905, 906, 907, 908, 4906, 4907, 4908, 4205, 4206, 4207, 4400, 1006, 800, 805, 1010, 1013] := by decide) : ZV (u3 V g i j v) := fun f hf a b => by
  rw [u3_f (show f ≠ g from fun e => hf (by rw [e]; exact hg))]
  exact h f hf a b
theorem ZV.u0 {V : vV} (h : ZV V) (g i j : Nat) : ZV (u3 V g i j 0) := fun f hf a b => by
  unfold u3
  split
  · rfl
  · exact h f hf a b
theorem IZ_I : IZ ZI := by
  have dy : ∀ d, z_day ZI d = [] := fun d => rfl
  refine ⟨⟨⟨by decide, fun i hi => absurd hi (Nat.not_lt_zero i)⟩, ⟨by decide, fun t ht => absurd ht (Nat.not_lt_zero t)⟩, ⟨fun b _ => by rw [ZI_0 (by decide)]; decide, fun b _ => by rw [ZI_0 (by decide)]; decide⟩, fun d _ => ⟨by rw [ZI_0 (by decide)]; decide, fun t ht => by rw [dy] at ht; exact absurd ht List.not_mem_nil⟩, ⟨fun i hi => ?_, by decide, Or.inl cm1.symm⟩, by decide⟩, fun d _ _ t ht => by rw [dy] at ht; exact absurd ht List.not_mem_nil, fun d _ => by rw [dy]; exact List.nodup_nil, fun _ i hi => z_nw0 rfl hi, ⟨by decide, fun e => absurd e (by decide)⟩, ⟨fun i => Nat.zero_le _, by decide, fun b _ => Nat.zero_le _, trivial⟩⟩
  unfold ZI
  rw [if_pos rfl, if_pos hi]
  exact ⟨by decide, by decide⟩
theorem RV_I {V : vV} (h : ZV V) (v906 : V 906 1 0 = 0) (v1006 : V 1006 0 0 = 1) (v800 : ∀ j, j < 4 → V 800 0 j = 6) (v805 : V 805 0 0 = 4294967295) (v1010 : V 1010 0 0 = 200) (v1013 : V 1013 0 0 = 4294967295) : RV V ZI := by
  have z : ∀ f, f ∉ [900, 901, 902, 903, 904, 905, 906, 907, 908, 4906, 4907, 4908, 4205, 4206, 4207, 4400, 1006, 800, 805, 1010, 1013] → ∀ i j, V f i j = 0 := h
  refine ⟨⟨z 1000 (by decide) 0 0, fun i hi => absurd hi (Nat.not_lt_zero i)⟩, ⟨z 1002 (by decide) 0 0, by decide, fun k _ => ⟨z 1001 (by decide) 0 k, Nat.zero_lt_succ _⟩⟩, ⟨z 1003 (by decide) 0 0, fun t ht => absurd ht (Nat.not_lt_zero t)⟩, ⟨fun t u ht => absurd ht (Nat.not_lt_zero t), fun t ht => absurd ht (Nat.not_lt_zero t), ?_, ?_, ?_⟩, ?_, fun k => ?_, fun b _ => ⟨z 200 (by decide) b 0, z 201 (by decide) b 0, z 202 (by decide) b 0, by rw [z 203 (by decide) b 0]; rfl, z 204 (by decide) b 0, z 205 (by decide) b 0, z 205 (by decide) b 1, z 206 (by decide) b 0, z 206 (by decide) b 1, fun r _ => z 207 (by decide) b r⟩, fun d _ => ?_, ⟨fun i hi => ?_, z 802 (by decide) 0 0, by rw [z 803 (by decide) 0 0]; rfl, z 804 (by decide) 0 0, by rw [v805]; rfl⟩, V_G.off (z 1009 (by decide) 0 0) rfl, ⟨v1010, by rw [z 1011 (by decide) 0 0]; rfl, by rw [z 1012 (by decide) 0 0]; rfl, by rw [v1013]; rfl⟩⟩
  · rw [v1006, z 301 (by decide) 0 0]
    decide
  · rw [v1006]
    decide
  · rw [z 301 (by decide) 0 0]
    decide
  · unfold V_L
    rw [v1006, v906]
    exact ⟨rfl, by decide, fun k hk => absurd hk (Nat.not_lt_zero k), fun h => absurd h (by decide)⟩
  · rw [z 600 (by decide) 0 k]
    decide
  · unfold v_day
    rw [z 400 (by decide) d 0]
    rfl
  · rw [v800 i hi]
    unfold ZI
    rw [if_pos rfl, if_pos hi]
