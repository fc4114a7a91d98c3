/-! what the updates read -/
theorem gL_sI (S : zS) (f a : Nat) (v : Int32) : gL (sI S f a v) = gL S := rfl
theorem gK_sI (S : zS) (f a : Nat) (v : Int32) : gK (sI S f a v) = gK S := rfl
theorem gI_sI (S : zS) (f a : Nat) (v : Int32) (g b : Nat) : gI (sI S f a v) g b = if g = f ∧ b = a then v else gI S g b := rfl
theorem gR_sI (S : zS) (f a : Nat) (v : Int32) : gR (sI S f a v) = gR S := rfl
theorem gN_sI (S : zS) (f a : Nat) (v : Int32) : gN (sI S f a v) = gN S := rfl
theorem gA_sI (S : zS) (f a : Nat) (v : Int32) : gA (sI S f a v) = gA S := rfl
theorem gQ_sI (S : zS) (f a : Nat) (v : Int32) : gQ (sI S f a v) = gQ S := rfl
theorem gL_sR (S : zS) (f a : Nat) (v : Option Nat) : gL (sR S f a v) = gL S := rfl
theorem gK_sR (S : zS) (f a : Nat) (v : Option Nat) : gK (sR S f a v) = gK S := rfl
theorem gI_sR (S : zS) (f a : Nat) (v : Option Nat) : gI (sR S f a v) = gI S := rfl
theorem gR_sR (S : zS) (f a : Nat) (v : Option Nat) (g b : Nat) : gR (sR S f a v) g b = if g = f ∧ b = a then v else gR S g b := rfl
theorem gN_sR (S : zS) (f a : Nat) (v : Option Nat) : gN (sR S f a v) = gN S := rfl
theorem gA_sR (S : zS) (f a : Nat) (v : Option Nat) : gA (sR S f a v) = gA S := rfl
theorem gQ_sR (S : zS) (f a : Nat) (v : Option Nat) : gQ (sR S f a v) = gQ S := rfl
theorem gL_sA (S : zS) (a i : Nat) (v : Int32) : gL (sA S a i v) = gL S := rfl
theorem gK_sA (S : zS) (a i : Nat) (v : Int32) : gK (sA S a i v) = gK S := rfl
theorem gI_sA (S : zS) (a i : Nat) (v : Int32) : gI (sA S a i v) = gI S := rfl
theorem gR_sA (S : zS) (a i : Nat) (v : Int32) : gR (sA S a i v) = gR S := rfl
theorem gN_sA (S : zS) (a i : Nat) (v : Int32) : gN (sA S a i v) = gN S := rfl
theorem gA_sA (S : zS) (a i : Nat) (v : Int32) (b j : Nat) : gA (sA S a i v) b j = if b = a ∧ j = i then v else gA S b j := rfl
theorem gQ_sA (S : zS) (a i : Nat) (v : Int32) : gQ (sA S a i v) = gQ S := rfl
theorem gL_sQ (S : zS) (a i : Nat) (v : Option Nat) : gL (sQ S a i v) = gL S := rfl
theorem gK_sQ (S : zS) (a i : Nat) (v : Option Nat) : gK (sQ S a i v) = gK S := rfl
theorem gI_sQ (S : zS) (a i : Nat) (v : Option Nat) : gI (sQ S a i v) = gI S := rfl
theorem gR_sQ (S : zS) (a i : Nat) (v : Option Nat) : gR (sQ S a i v) = gR S := rfl
theorem gN_sQ (S : zS) (a i : Nat) (v : Option Nat) : gN (sQ S a i v) = gN S := rfl
theorem gA_sQ (S : zS) (a i : Nat) (v : Option Nat) : gA (sQ S a i v) = gA S := rfl
theorem gQ_sQ (S : zS) (a i : Nat) (v : Option Nat) (b j : Nat) : gQ (sQ S a i v) b j = if b = a ∧ j = i then v else gQ S b j := rfl
theorem gL_nO (S : zS) (a k : Nat) : gL (nO S a k)  = gL S ++ [a] := rfl
theorem gK_nO (S : zS) (a k : Nat) : gK (nO S a k)  = va_up (gK S) a k := rfl
theorem gI_nO (S : zS) (a k : Nat) (g b : Nat) : gI (nO S a k) g b = if b = a then 0 else gI S g b := rfl
theorem gR_nO (S : zS) (a k : Nat) (g b : Nat) : gR (nO S a k) g b = if b = a then none else gR S g b := rfl
theorem gN_nO (S : zS) (a k : Nat) : gN (nO S a k) = gN S := rfl
theorem gA_nO (S : zS) (a k : Nat) : gA (nO S a k) = gA S := rfl
theorem gQ_nO (S : zS) (a k : Nat) : gQ (nO S a k) = gQ S := rfl
theorem gL_nA (S : zS) (a k n : Nat) : gL (nA S a k n)  = gL S ++ [a] := rfl
theorem gK_nA (S : zS) (a k n : Nat) : gK (nA S a k n)  = va_up (gK S) a k := rfl
theorem gI_nA (S : zS) (a k n : Nat) : gI (nA S a k n) = gI S := rfl
theorem gR_nA (S : zS) (a k n : Nat) : gR (nA S a k n) = gR S := rfl
theorem gN_nA (S : zS) (a k n : Nat) : gN (nA S a k n)  = va_up (gN S) a n := rfl
theorem gA_nA (S : zS) (a k n : Nat) (b j : Nat) : gA (nA S a k n) b j = if b = a then 0 else gA S b j := rfl
theorem gQ_nA (S : zS) (a k n : Nat) (b j : Nat) : gQ (nA S a k n) b j = if b = a then none else gQ S b j := rfl

/-! the pool's rows -/
theorem zC_obj {E : zE} {S : zS} {a c : Nat} (h : gK S a = c) (hc : c < 12) : zC E S a = .inr (c, zFs S c a) := by
  subst h
  unfold zC
  rw [if_pos hc]
theorem zC_int {E : zE} {S : zS} {a c : Nat} (h : gK S a = c) (h1 : 12 ≤ c) (h2 : c < 14) : zC E S a = .inl (E.2.1 c, gN S a, .inl (gA S a)) := by
  subst h
  unfold zC
  rw [if_neg (Nat.not_lt.mpr h1), if_pos h2]
theorem zC_ref {E : zE} {S : zS} {a c : Nat} (h : gK S a = c) (h1 : 14 ≤ c) (h2 : c < 17) : zC E S a = .inl (E.2.1 c, gN S a, .inr (.inr (.inr (.inr (gQ S a))))) := by
  subst h
  unfold zC
  rw [if_neg (by omega), if_neg (Nat.not_lt.mpr h1), if_neg (by omega)]
theorem zC_lng {E : zE} {S : zS} {a : Nat} (h : gK S a = 17) : zC E S a = .inl (E.2.1 17, gN S a, .inr (.inl (gJ S a))) := by
  unfold zC
  rw [h, if_neg (by decide), if_neg (by decide), if_pos rfl]
theorem zC_same {E : zE} {S S' : zS} {b : Nat} (hK : gK S' b = gK S b) (hI : ∀ g, gI S' g b = gI S g b) (hR : ∀ g, gR S' g b = gR S g b) (hN : gN S' b = gN S b) (hA : gA S' b = gA S b) (hQ : gQ S' b = gQ S b) : zC E S' b = zC E S b := by
  have hf : ∀ c, zFs S' c b = zFs S c b := by
    intro c
    unfold zFs
    congr 1
    funext j
    unfold zFv
    rw [hI, hR]
  unfold zC gJ
  rw [hK, hf, hN, hA, hQ]
theorem zFs_get {S : zS} {c a j : Nat} (h : j < zNf c) : (zFs S c a)[j]? = some (zFv S c a j) := by
  unfold zFs
  rw [List.getElem?_map, List.getElem?_range h]
  rfl
theorem zFs_len {S : zS} {c a : Nat} : (zFs S c a).length = zNf c := by
  unfold zFs
  rw [List.length_map, List.length_range]
theorem zFs_set {S S' : zS} {c a j : Nat} (hj : j < zNf c) (h : ∀ i, i ≠ j → zFv S' c a i = zFv S c a i) : (zFs S c a).set j (zFv S' c a j) = zFs S' c a := by
  apply List.ext_getElem?
  intro i
  by_cases hi : i < zNf c
  · rw [zFs_get hi]
    by_cases hij : i = j
    · subst hij
      rw [List.getElem?_set_self (by rw [zFs_len]; exact hi)]
    · rw [List.getElem?_set_ne (Ne.symm hij), zFs_get hi, h i hij]
  · rw [List.getElem?_eq_none (by rw [List.length_set, zFs_len]; omega), List.getElem?_eq_none (by rw [zFs_len]; omega)]
theorem zUpI {E : zE} {S : zS} {c a j f : Nat} {v : Int32} (hK : gK S a = c) (hc : c < 12) (hj : j < zNf c) (hf : zRf c j = false) (hfj : 100 * c + j = f) (b : Nat) : va_up (zC E S) a (.inr (c, (zFs S c a).set j (.int v))) b = zC E (sI S f a v) b := by
  subst hfj
  by_cases hb : b = a
  · subst hb
    rw [va_up_self, zC_obj (S := sI S (100 * c + j) b v) hK hc]
    have h1 : zFv (sI S (100 * c + j) b v) c b j = .int v := by
      unfold zFv
      rw [hf, gI_sI]
      simp
    have h2 := zFs_set (S := S) (S' := sI S (100 * c + j) b v) (c := c) (a := b) (j := j) hj (fun i hi => by
      have h9 : ¬ (100 * c + i = 100 * c + j ∧ b = b) := fun h => hi (by have := h.1; omega)
      unfold zFv
      rw [gI_sI, gR_sI, if_neg h9])
    rw [h1] at h2
    rw [h2]
  · rw [va_up_ne _ _ hb]
    exact (zC_same (E := E) (S := S) (S' := sI S (100 * c + j) a v) (b := b) rfl (fun g => by rw [gI_sI, if_neg (fun h => hb h.2)]) (fun g => rfl) rfl rfl rfl).symm
theorem zUpR {E : zE} {S : zS} {c a j f : Nat} {v : Option Nat} (hK : gK S a = c) (hc : c < 12) (hj : j < zNf c) (hf : zRf c j = true) (hfj : 100 * c + j = f) (b : Nat) : va_up (zC E S) a (.inr (c, (zFs S c a).set j (va_rf v))) b = zC E (sR S f a v) b := by
  subst hfj
  by_cases hb : b = a
  · subst hb
    rw [va_up_self, zC_obj (S := sR S (100 * c + j) b v) hK hc]
    have h1 : zFv (sR S (100 * c + j) b v) c b j = va_rf v := by
      unfold zFv
      rw [hf, gR_sR]
      simp
    have h2 := zFs_set (S := S) (S' := sR S (100 * c + j) b v) (c := c) (a := b) (j := j) hj (fun i hi => by
      have h9 : ¬ (100 * c + i = 100 * c + j ∧ b = b) := fun h => hi (by have := h.1; omega)
      unfold zFv
      rw [gR_sR, gI_sR, if_neg h9])
    rw [h1] at h2
    rw [h2]
  · rw [va_up_ne _ _ hb]
    exact (zC_same (E := E) (S := S) (S' := sR S (100 * c + j) a v) (b := b) rfl (fun g => rfl) (fun g => by rw [gR_sR, if_neg (fun h => hb h.2)]) rfl rfl rfl).symm
theorem zUpA {E : zE} {S : zS} {c a i : Nat} {v : Int32} (hK : gK S a = c) (h1 : 12 ≤ c) (h2 : c < 14) (b : Nat) : va_up (zC E S) a (.inl (E.2.1 c, gN S a, .inl (upd (gA S a) i v))) b = zC E (sA S a i v) b := by
  by_cases hb : b = a
  · subst hb
    rw [va_up_self, zC_int (S := sA S b i v) hK h1 h2]
    have h9 : upd (gA S b) i v = gA (sA S b i v) b := by
      funext q
      rw [gA_sA]
      by_cases hq : q = i
      · simp [upd, hq]
      · simp [upd, hq]
    rw [h9]
    rfl
  · rw [va_up_ne _ _ hb]
    exact (zC_same (E := E) (S := S) (S' := sA S a i v) (b := b) rfl (fun g => rfl) (fun g => rfl) rfl (funext fun q => by rw [gA_sA, if_neg (fun h => hb h.1)]) rfl).symm
theorem zUpQ {E : zE} {S : zS} {c a i : Nat} {v : Option Nat} (hK : gK S a = c) (h1 : 14 ≤ c) (h2 : c < 17) (b : Nat) : va_up (zC E S) a (.inl (E.2.1 c, gN S a, .inr (.inr (.inr (.inr (va_up (gQ S a) i v)))))) b = zC E (sQ S a i v) b := by
  by_cases hb : b = a
  · subst hb
    rw [va_up_self, zC_ref (S := sQ S b i v) hK h1 h2]
    have h9 : va_up (gQ S b) i v = gQ (sQ S b i v) b := by
      funext q
      rw [gQ_sQ]
      by_cases hq : q = i
      · simp [va_up, hq]
      · simp [va_up, hq]
    rw [h9]
    rfl
  · rw [va_up_ne _ _ hb]
    exact (zC_same (E := E) (S := S) (S' := sQ S a i v) (b := b) rfl (fun g => rfl) (fun g => rfl) rfl rfl (funext fun q => by rw [gQ_sQ, if_neg (fun h => hb h.1)])).symm
/-- a new object's fields -/
def zF0 (c : Nat) : List Value := (List.range (zNf c)).map (fun j => if zRf c j then .null else .int 0)
theorem zUpO {E : zE} {S : zS} {c a : Nat} (hc : c < 12) (b : Nat) : va_up (zC E S) a (.inr (c, zF0 c)) b = zC E (nO S a c) b := by
  by_cases hb : b = a
  · subst hb
    rw [va_up_self, zC_obj (S := nO S b c) (c := c) (by rw [gK_nO, va_up_self]) hc]
    congr 2
    unfold zF0 zFs
    congr 1
    funext j
    unfold zFv
    rw [gI_nO, gR_nO]
    simp [va_rf]
  · rw [va_up_ne _ _ hb]
    exact (zC_same (E := E) (S := S) (S' := nO S a c) (b := b) (by rw [gK_nO, va_up_ne _ _ hb]) (fun g => by rw [gI_nO, if_neg hb]) (fun g => by rw [gR_nO, if_neg hb]) rfl rfl rfl).symm
theorem zUpN {E : zE} {S : zS} {c a n : Nat} (h1 : 12 ≤ c) (h2 : c < 14) (b : Nat) : va_up (zC E S) a (.inl (E.2.1 c, n, .inl (fun _ => 0))) b = zC E (nA S a c n) b := by
  by_cases hb : b = a
  · subst hb
    rw [va_up_self, zC_int (S := nA S b c n) (c := c) (by rw [gK_nA, va_up_self]) h1 h2, gN_nA, va_up_self]
    congr 4
    funext q
    rw [gA_nA, if_pos rfl]
  · rw [va_up_ne _ _ hb]
    exact (zC_same (E := E) (S := S) (S' := nA S a c n) (b := b) (by rw [gK_nA, va_up_ne _ _ hb]) (fun g => rfl) (fun g => rfl) (by rw [gN_nA, va_up_ne _ _ hb]) (funext fun q => by rw [gA_nA, if_neg hb]) (funext fun q => by rw [gQ_nA, if_neg hb])).symm
theorem zUpM {E : zE} {S : zS} {c a n : Nat} (h1 : 14 ≤ c) (h2 : c < 17) (b : Nat) : va_up (zC E S) a (.inl (E.2.1 c, n, .inr (.inr (.inr (.inr (fun _ => none)))))) b = zC E (nA S a c n) b := by
  by_cases hb : b = a
  · subst hb
    rw [va_up_self, zC_ref (S := nA S b c n) (c := c) (by rw [gK_nA, va_up_self]) h1 h2, gN_nA, va_up_self]
    congr 7
    funext q
    rw [gQ_nA, if_pos rfl]
  · rw [va_up_ne _ _ hb]
    exact (zC_same (E := E) (S := S) (S' := nA S a c n) (b := b) (by rw [gK_nA, va_up_ne _ _ hb]) (fun g => rfl) (fun g => rfl) (by rw [gN_nA, va_up_ne _ _ hb]) (funext fun q => by rw [gA_nA, if_neg hb]) (funext fun q => by rw [gQ_nA, if_neg hb])).symm
theorem gJ_sJ (S : zS) (a i : Nat) (v : Int64) (b j : Nat) : gJ (sJ S a i v) b j = if b = a ∧ j = i then v else gJ S b j := by
  unfold gJ sJ
  rw [gA_sA, gA_sA, gA_sA, gA_sA]
  by_cases hb : b = a
  · by_cases hj : j = i
    · subst hj
      rw [if_neg (fun h => by omega), if_pos ⟨hb, rfl⟩, if_pos ⟨hb, rfl⟩, if_pos ⟨hb, rfl⟩, mkJ_of]
    · rw [if_neg (fun h => by omega), if_neg (fun h => by omega), if_neg (fun h => by omega), if_neg (fun h => by omega), if_neg (fun h => hj h.2)]
  · rw [if_neg (fun h => hb h.1), if_neg (fun h => hb h.1), if_neg (fun h => hb h.1), if_neg (fun h => hb h.1), if_neg (fun h => hb h.1)]
theorem gJ_sA {S : zS} {a i : Nat} {v : Int32} {b : Nat} (h : b ≠ a) (j : Nat) : gJ (sA S a i v) b j = gJ S b j := by
  unfold gJ
  rw [gA_sA, gA_sA, if_neg (fun x => h x.1), if_neg (fun x => h x.1)]
theorem gA_sJ {S : zS} {a i : Nat} {v : Int64} {b : Nat} (h : b ≠ a) (j : Nat) : gA (sJ S a i v) b j = gA S b j := by
  unfold sJ
  rw [gA_sA, gA_sA, if_neg (fun x => h x.1), if_neg (fun x => h x.1)]
theorem gL_sJ (S : zS) (a i : Nat) (v : Int64) : gL (sJ S a i v) = gL S := rfl
theorem gK_sJ (S : zS) (a i : Nat) (v : Int64) : gK (sJ S a i v) = gK S := rfl
theorem gN_sJ (S : zS) (a i : Nat) (v : Int64) : gN (sJ S a i v) = gN S := rfl
theorem gJ_nA (S : zS) (a k n : Nat) (b j : Nat) : gJ (nA S a k n) b j = if b = a then 0 else gJ S b j := by
  unfold gJ
  rw [gA_nA, gA_nA]
  by_cases h : b = a
  · rw [if_pos h, if_pos h, if_pos h, mkJ_0]
  · rw [if_neg h, if_neg h, if_neg h]
theorem zUpJ {E : zE} {S : zS} {a i : Nat} {v : Int64} (hK : gK S a = 17) (b : Nat) : va_up (zC E S) a (.inl (E.2.1 17, gN S a, .inr (.inl (vp_updL (gJ S a) i v)))) b = zC E (sJ S a i v) b := by
  by_cases hb : b = a
  · subst hb
    rw [va_up_self, zC_lng (S := sJ S b i v) hK]
    have h9 : vp_updL (gJ S b) i v = gJ (sJ S b i v) b := by
      funext q
      rw [gJ_sJ]
      by_cases hq : q = i
      · simp [vp_updL, hq]
      · simp [vp_updL, hq]
    rw [h9]
    rfl
  · rw [va_up_ne _ _ hb]
    exact (zC_same (E := E) (S := S) (S' := sJ S a i v) (b := b) rfl (fun g => rfl) (fun g => rfl) rfl (funext fun q => gA_sJ hb q) rfl).symm
theorem zUpL {E : zE} {S : zS} {a n : Nat} (b : Nat) : va_up (zC E S) a (.inl (E.2.1 17, n, .inr (.inl (fun _ => 0)))) b = zC E (nA S a 17 n) b := by
  by_cases hb : b = a
  · subst hb
    rw [va_up_self, zC_lng (S := nA S b 17 n) (by rw [gK_nA, va_up_self]), gN_nA, va_up_self]
    have h9 : (fun _ => 0 : Nat → Int64) = gJ (nA S b 17 n) b := by
      funext q
      rw [gJ_nA, if_pos rfl]
    rw [h9]
  · rw [va_up_ne _ _ hb]
    exact (zC_same (E := E) (S := S) (S' := nA S a 17 n) (b := b) (by rw [gK_nA, va_up_ne _ _ hb]) (fun g => rfl) (fun g => rfl) (by rw [gN_nA, va_up_ne _ _ hb]) (funext fun q => by rw [gA_nA, if_neg hb]) (funext fun q => by rw [gQ_nA, if_neg hb])).symm
theorem zSet {E : zE} {A : Nat → Prop} {X : va_W} {S S' : zS} {a k : Nat} {e : va_E} (hD : va_D A (X ++ zPl E S)) (ha : a ∈ gL S) (hk : (X ++ zPl E S)[k]? = some (a, zC E S a)) (hL : gL S' = gL S) (hu : ∀ b, va_up (zC E S) a e b = zC E S' b) : (X ++ zPl E S).set k (a, e) = X ++ zPl E S' := by
  unfold zPl at *
  rw [va_pl_set hD ha hk, va_pl_congr hu, hL]
theorem zPush {E : zE} {X : va_W} {S S' : zS} {a : Nat} {e : va_E} (ha : a ∉ gL S) (hL : gL S' = gL S ++ [a]) (hu : ∀ b, va_up (zC E S) a e b = zC E S' b) : (X ++ zPl E S) ++ [(a, e)] = X ++ zPl E S' := by
  unfold zPl
  rw [List.append_assoc, va_pl_push ha, va_pl_congr hu, hL]
theorem zFresh {E : zE} {A : Nat → Prop} {X : va_W} {S : zS} {q : Nat} {e : va_E} (hD : va_D A ((X ++ zPl E S) ++ [(q, e)])) : q ∉ gL S := va_pl_fresh2 (f := zC E S) hD
theorem zGot {E : zE} {X : va_W} {S : zS} {a : Nat} (ha : a ∈ gL S) : ∃ k : Nat, (X ++ zPl E S)[k]? = some (a, zC E S a) := va_pl_get ha
/-- the tables' class of an array -/
theorem zTyp {E : zE} {s : State} {cA c1 : ClassId} {ty : FieldType} (h1 : va_RA s cA ty) (h2 : va_RA s c1 ty) : cA = c1 := by
  have g : ∀ {c : ClassId}, va_RA s c ty → s.vm.findClass ("[" ++ ty.toString) = some c := by
    intro c h
    cases ty with
    | object C => obtain ⟨kA, comp, -, -, -, h4⟩ := h; exact h4
    | _ => exact h
  exact Option.some.inj ((g h1).symm.trans (g h2))

