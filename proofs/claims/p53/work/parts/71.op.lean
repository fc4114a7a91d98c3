/-! a row written anew; false rows; a lead -/
theorem z_tc_pre (Z : zZ) (t : Nat) : ∀ Q q p, q ≤ Q → p < (z_tc Z t q).length → (z_tc Z t Q)[p]? = (z_tc Z t q)[p]?
  | 0, q, p, h, hp => by
    have : q = 0 := by omega
    subst this
    rfl
  | Q + 1, q, p, h, hp => by
    by_cases e : q = Q + 1
    · subst e
      rfl
    · have ih := z_tc_pre Z t Q q p (by omega) hp
      have hl : p < (z_tc Z t Q).length := by
        by_cases x : p < (z_tc Z t Q).length
        · exact x
        · rw [List.getElem?_eq_none (by omega), List.getElem?_eq_getElem hp] at ih
          cases ih
      show (z_tc Z t Q ++ z_lc Z (z_mt Z t Q) (z_cl Z t Q))[p]? = _
      rw [List.getElem?_append_left hl]
      exact ih
theorem z_tc_at {Z : zZ} {t q j : Nat} (hq : q < Z 11 t) (hj : j < Z 5 (z_mt Z t q)) : (z_cs Z t)[(z_tc Z t q).length + j]? = some (z_ch Z (z_mt Z t q) (z_cl Z t q) j) := by
  have e : z_tc Z t (q + 1) = z_tc Z t q ++ z_lc Z (z_mt Z t q) (z_cl Z t q) := rfl
  unfold z_cs
  rw [z_tc_pre Z t (Z 11 t) (q + 1) _ (by omega) (by rw [e, List.length_append, z_lc_len]; omega), e, List.getElem?_append_right (by omega), show (z_tc Z t q).length + j - (z_tc Z t q).length = j by omega]
  unfold z_lc
  rw [List.getElem?_map, List.getElem?_range hj]
  rfl
theorem ro_la_take (n : Nat) : ∀ (cs : List Nat) (s r x : Nat), (ro_ws n s cs)[r]? = some x → ro_la n s (cs.take (r + 1)) = x
  | [], s, r, x, h => by simp [ro_ws] at h
  | c :: cs, s, 0, x, h => by
    have : ro_af n c s = x := by simpa [ro_ws] using h
    rw [← this]
    rfl
  | c :: cs, s, r + 1, x, h => ro_la_take n cs (ro_af n c s) r x (by simpa [ro_ws] using h)
theorem ro_la_take1 {n s : Nat} {cs : List Nat} {w c : Nat} (h : cs[w]? = some c) : ro_la n s (cs.take (w + 1)) = ro_af n c (ro_la n s (cs.take w)) := by
  rw [z_take1 h, ro_la_1]
theorem v_has_iff (f : Nat → Nat) (m k : Nat) : v_has f m k = true ↔ ∃ j, j < m ∧ f j = k := by
  unfold v_has
  rw [List.any_eq_true]
  exact ⟨fun ⟨j, hj, e⟩ => ⟨j, List.mem_range.mp hj, by simpa using e⟩, fun ⟨j, hj, e⟩ => ⟨j, List.mem_range.mpr hj, by simpa using e⟩⟩
theorem z_fl_eq {Z : zZ} {i k : Nat} {f : Nat → Nat} (hf : ∀ j x, (z_pr Z i)[j]? = some x → f j = x) : (ro_cls (Z 4 i) f (Z 5 i) (ro_of (Z 4 i) k) (z_lc Z i 0) && !(ro_of (Z 4 i) k == ro_rnd (Z 4 i))) = z_fl Z i k := by
  unfold z_fl
  congr 1
  rw [Bool.eq_iff_iff, ro_cls_iff, List.any_eq_true]
  have hl : (z_pr Z i).length = Z 5 i := by
    unfold z_pr
    rw [ro_ws_len, z_lc_len]
  refine ⟨fun ⟨x, hx, j, hj, e⟩ => ⟨x, hx, ?_⟩, fun ⟨x, hx, h⟩ => ⟨x, hx, ?_⟩⟩
  · rw [List.contains_iff_mem]
    have g : (z_pr Z i)[j]? = some ((z_pr Z i)[j]'(by omega)) := List.getElem?_eq_getElem (by omega)
    have := hf j _ g
    rw [e, this]
    exact List.getElem_mem _
  · rw [List.contains_iff_mem] at h
    obtain ⟨j, hj⟩ := List.getElem?_of_mem h
    exact ⟨j, by have := (List.getElem?_eq_some_iff.mp hj).1; omega, (hf j x hj).symm⟩
section RAN
variable {E : zE} {ad la : Nat → Nat → Nat} {M T R : Nat} {V : vV} {Z : zZ} {S : zS} {X : String → zS → Prop}
theorem c_ran_L42 {K : Nat → Int32 → Int32 → Int32 → Int32 → zS → Prop} {Q : Int32 → zS → Prop} {s t r q : Nat} (h : RC E ad la (sd M T R) V S) (hV : V_M V Z) (hM : z_M Z) (ht : z_T Z t) (hMz : ∀ k, k < Z 11 t → z_mt Z t k < M) (hs : s < T) (w0 : W_T V Z s t) (hr : r < 240) (hq : q < Z 11 t)
    (k : K (ad 9 s) (nI r) (nI (ro_la (z_st Z t) (ro_rnd (z_st Z t)) ((z_cs Z t).take (min (z_tc Z t (q + 1)).length (r + 1))))) (nI (min (z_tc Z t (q + 1)).length (r + 1))) (nI q) S) :
    ∀ (w j : Nat), j ≤ Z 5 (z_mt Z t q) → Z 5 (z_mt Z t q) < j + w → p_X9_rowAnew_L42 E K Q X w (ad 9 s) (nI r) (nI (ro_la (z_st Z t) (ro_rnd (z_st Z t)) ((z_cs Z t).take (min ((z_tc Z t q).length + j) (r + 1))))) (nI (min ((z_tc Z t q).length + j) (r + 1))) (nI q) (ad 5 (z_mt Z t q)) (nI j) S
  | 0, j, h1, h2 => by omega
  | w + 1, j, h1, h2 => by
    have zk := ht.2.2.2 q hq
    have hN := z_T_N hM ht
    have b := z_M_n hM zk.1
    have vm := hV.2 _ zk.1
    have e1 : (z_tc Z t (q + 1)).length = (z_tc Z t q).length + Z 5 (z_mt Z t q) := by
      show (z_tc Z t q ++ z_lc Z (z_mt Z t q) (z_cl Z t q)).length = _
      rw [List.length_append, z_lc_len]
    have t240 := (z_T_tc hM ht q (by omega)).2.1
    have h20 := ht.2.2.1
    refine ⟨h.o 5 _ (hMz q hq), ?_⟩
    rw [h.gi 502 5 _ (hMz q hq), vm.2.2.2.1]
    refine pk_le (Z 5 (z_mt Z t q)) j (fun h3 => ?_) (fun h3 => ?_)
    · have : j = Z 5 (z_mt Z t q) := by omega
      subst this
      rw [e1] at k
      exact k
    · refine pk_lt r (min ((z_tc Z t q).length + j) (r + 1)) (fun h4 => ?_) (fun h4 => ⟨h.o 9 s hs, h.ij 907 s q hs rfl (by show q < 20; omega) ?_⟩)
      · rw [show min (z_tc Z t (q + 1)).length (r + 1) = min ((z_tc Z t q).length + j) (r + 1) by omega] at k
        exact k
      · have em : min ((z_tc Z t q).length + j) (r + 1) = (z_tc Z t q).length + j := by omega
        have em2 : min ((z_tc Z t q).length + (j + 1)) (r + 1) = (z_tc Z t q).length + j + 1 := by omega
        have ih := c_ran_L42 (Q := Q) h hV hM ht hMz hs w0 hr hq k w (j + 1) (by omega) (by omega)
        have at1 := z_tc_at hq h3
        have hch := z_M_ch hM zk.1 (c := z_cl Z t q) (Nat.mod_lt _ (by decide)) h3
        rw [show Z 4 (z_mt Z t q) = z_st Z t from zk.2] at hch
        have hVl := ro_la_V hN ((z_cs Z t).take ((z_tc Z t q).length + j)) _ (ro_V_rnd hN).1 (fun y hy => (z_T_tc hM ht _ (Nat.le_refl _)).1 y (List.mem_of_mem_take hy))
        rw [h.ga 907 s q hs, (w0.2.2.2.2.1 q hq).2, em]
        refine c_changeOf h hV hM (hMz q hq) zk.1 (Nat.mod_lt _ (by decide)) h3 ⟨h.o 9 s hs, ?_⟩
        rw [h.gi 901 9 s hs, w0.2.1]
        refine c_af hN hVl hch ?_
        rw [em2, ro_la_take1 at1] at ih
        rw [nI_1, nI_1]
        exact ih
theorem c_ran_L13 {K : Int32 → zS → Prop} {Q : Int32 → zS → Prop} {s t r : Nat} (h : RC E ad la (sd M T R) V S) (hV : V_M V Z) (hM : z_M Z) (ht : z_T Z t) (hMz : ∀ k, k < Z 11 t → z_mt Z t k < M) (hs : s < T) (w0 : W_T V Z s t) (hr : r < z_L Z t) (k : K (nI (z_f Z t r)) S) :
    ∀ (w q : Nat), q ≤ Z 11 t → Z 11 t < q + w → p_X9_rowAnew_L13 E K Q X w (ad 9 s) (nI r) (nI (ro_la (z_st Z t) (ro_rnd (z_st Z t)) ((z_cs Z t).take (min (z_tc Z t q).length (r + 1))))) (nI (min (z_tc Z t q).length (r + 1))) (nI q) S
  | 0, q, h1, h2 => by omega
  | w + 1, q, h1, h2 => by
    have hL := z_L_bd hM ht
    have h20 := ht.2.2.1
    refine ⟨h.o 9 s hs, h.ex 906 s hs (c_size h 906 s hs ?_)⟩
    rw [w0.2.2.2.1]
    refine pk_le (Z 11 t) q (fun h3 => ?_) (fun h3 => ⟨h.o 9 s hs, h.ex 906 s hs (c_get (g := 2906) (t := 5) h 906 s q hs (by rw [w0.2.2.2.1]; exact h3) (fun hm => ⟨_, rfl, h.o 5 _ hm, 13, ?_⟩))⟩)
    · have : q = Z 11 t := by omega
      subst this
      have e : min (z_tc Z t (Z 11 t)).length (r + 1) = r + 1 := by
        have : z_L Z t = (z_tc Z t (Z 11 t)).length := rfl
        omega
      rw [e]
      have e2 : ro_la (z_st Z t) (ro_rnd (z_st Z t)) ((z_cs Z t).take (r + 1)) = z_f Z t r := ro_la_take _ _ _ _ _ (z_f_get hr)
      rw [e2]
      exact k
    · have zk := ht.2.2.2 q h3
      have b := z_M_n hM zk.1
      rw [(w0.2.2.2.2.1 q h3).1]
      have := c_ran_L42 (E := E) (X := X) (Q := Q) (K := fun (a0 : Nat) (l1 : Int32) (l2 : Int32) (l3 : Int32) (l4 : Int32) (S : zS) => p_X9_rowAnew_L13 E K Q X w a0 l1 l2 l3 (l4 + 1) S) h hV hM ht hMz hs w0 (show r < 240 by omega) h3 (by
        show p_X9_rowAnew_L13 E K Q X w (ad 9 s) _ _ _ (nI q + 1) S
        rw [nI_1]
        exact c_ran_L13 h hV hM ht hMz hs w0 hr k w (q + 1) (by omega) (by omega)) 13 0 (by omega) (by omega)
      exact this
theorem c_rowAnew {Q : Int32 → zS → Prop} {s t r : Nat} (h : RC E ad la (sd M T R) V S) (hV : V_M V Z) (hM : z_M Z) (ht : z_T Z t) (hMz : ∀ k, k < Z 11 t → z_mt Z t k < M) (hs : s < T) (w0 : W_T V Z s t) (hr : r < z_L Z t) (k : Q (nI (z_f Z t r)) S) : p_X9_rowAnew E (ad 9 s) (nI r) S Q X := by
  have hn6 := ro_N6 (z_T_N hM ht)
  have h20 := ht.2.2.1
  refine ⟨h.o 9 s hs, ?_⟩
  rw [h.gi 901 9 s hs, w0.2.1]
  refine w8_rounds hn6.1 ⟨21, ?_⟩
  have := c_ran_L13 (Q := Q) (X := X) (E := E) (K := fun l2 S => Q l2 S) h hV hM ht hMz hs w0 hr k 21 0 (by omega) (by omega)
  rw [show min (z_tc Z t 0).length (r + 1) = 0 from Nat.min_eq_left (Nat.zero_le _)] at this
  exact this
theorem c_hasFalse_L {K1 K0 : zS → Prop} {Q : Int32 → zS → Prop} {i k mm : Nat} (h : RC E ad la (sd M T R) V S) (hi : i < M) (em : V 503 i 0 = mm) (hm : mm ≤ 132) (hk : k < 2 ^ 31) (hf : ∀ j, j < mm → V 506 i j < 2 ^ 31) (k1 : (∃ j, j < mm ∧ V 506 i j = k) → K1 S) (k0 : (∀ j, j < mm → V 506 i j ≠ k) → K0 S) :
    ∀ (w j : Nat), j ≤ mm → mm < j + w → (∀ p, p < j → V 506 i p ≠ k) → p_X4_hasFalse_L2 E K1 K0 Q X w (ad 5 i) (nI k) (nI j) S
  | 0, j, h1, h2, h3 => by omega
  | w + 1, j, h1, h2, h3 => by
    refine ⟨h.o 5 i hi, ?_⟩
    rw [h.gi 503 5 i hi, em]
    refine pk_le mm j (fun h4 => k0 (fun p hp => h3 p (by omega))) (fun h4 => h.ij 506 i j hi rfl (by show j < 132; omega) ?_)
    rw [h.ga 506 i j hi, nI_eq (hf j h4) hk]
    refine ⟨fun h5 => ?_, fun h5 => k1 ⟨j, h4, h5⟩⟩
    rw [nI_1]
    refine c_hasFalse_L h hi em hm hk hf k1 k0 w (j + 1) (by omega) (by omega) (fun p hp => ?_)
    by_cases e : p = j
    · subst e
      exact h5
    · exact h3 p (by omega)
theorem c_hasFalse {Q : Int32 → zS → Prop} {i k mm : Nat} (h : RC E ad la (sd M T R) V S) (hi : i < M) (em : V 503 i 0 = mm) (hm : mm ≤ 132) (hk : k < 2 ^ 31) (hf : ∀ j, j < mm → V 506 i j < 2 ^ 31) (q : Q (zb (v_has (V 506 i) mm k)) S) : p_X4_hasFalse E (ad 5 i) (nI k) S Q X := by
  refine ⟨133, c_hasFalse_L (K1 := fun S => ((1 : Int32) = 0 ∨ (1 : Int32) = 1) ∧ Q 1 S) (K0 := fun S => ((0 : Int32) = 0 ∨ (0 : Int32) = 1) ∧ Q 0 S) h hi em hm hk hf (fun x => ⟨Or.inr rfl, ?_⟩) (fun x => ⟨Or.inl rfl, ?_⟩) 133 0 (by omega) (by omega) (fun p hp => absurd hp (Nat.not_lt_zero p))⟩
  · rw [(v_has_iff _ _ _).mpr x] at q
    exact q
  · have : v_has (V 506 i) mm k = false := by
      cases e : v_has (V 506 i) mm k with
      | false => rfl
      | true =>
        obtain ⟨j, hj, ej⟩ := (v_has_iff _ _ _).mp e
        exact absurd ej (x j hj)
    rw [this] at q
    exact q
end RAN
section OPC
variable {E : zE} {x m : Nat}
theorem m_fr_L {ma : Nat → Nat} {Z : zZ} {X : String → zS → Prop} {K : Int32 → zS → Prop} {Q : Int32 → zS → Prop} {i : Nat} (hMz : z_M Z) (hi : i < Z 3 0) (k : ∀ Z' S', RM ma Z' m S' → z_scr Z Z' → Z' 0 0 = 0 → K (nI (ro_cb (z_fl Z i) (ro_fac (Z 4 i)))) S') :
    ∀ (w j : Nat) (Z' : zZ) (S : zS), RM ma Z' m S → z_scr Z Z' → Z' 0 0 = 0 → (∀ p y, (z_pr Z i)[p]? = some y → Z' 15 p = y) → j ≤ ro_fac (Z 4 i) → ro_fac (Z 4 i) < j + w → p_X11_falseRows_L19 E K Q X w m (nI i) (nI (ro_cb (z_fl Z i) j)) (nI j) S
  | 0, j, Z', S, h, hs, z0, hp, h1, h2 => by omega
  | w + 1, j, Z', S, h, hs, z0, hp, h1, h2 => by
    have b := z_M_n hMz hi
    have hN := (hMz.2 i hi).1
    have fac := ro_fac_lt (n := Z 4 i)
    refine ⟨h.1, h.ij 4 i rfl (by show i < 8; omega) ?_⟩
    rw [h.a 4, hs 4 (by decide)]
    refine w1_all hN (pk_le (ro_fac (Z 4 i)) j (fun h3 => ?_) (fun h3 => ⟨h.1, h.ij 4 i rfl (by show i < 8; omega) ?_⟩))
    · have : j = ro_fac (Z 4 i) := by omega
      subst this
      exact k Z' S h hs z0
    · rw [h.a 4, hs 4 (by decide)]
      refine m_rowOf h (by omega) (by omega) (by omega) (fun Z3 S3 g3 e3 => ⟨g3.1, ?_⟩)
      have s3 : z_scr Z Z3 := hs.one (by decide) e3
      have hp3 : ∀ j x, (z_pr Z i)[j]? = some x → Z3 15 j = x := fun j x hj => by
        rw [e3 15 (by decide)]
        exact hp j x hj
      have hlen : (z_pr Z i).length = Z 5 i := by
        unfold z_pr
        rw [ro_ws_len, z_lc_len]
      have hc4 : Z3 4 = Z 4 := s3 4 (by decide)
      have hc5 : Z3 5 = Z 5 := s3 5 (by decide)
      refine m_clashes g3 (z_C_M s3.C hMz) (by rw [s3 3 (by decide)]; exact hi) (by rw [hc4]; exact (ro_of_V hN h3).1) (fun p hpp => ?_) ?_
      · rw [hc5] at hpp
        obtain ⟨y, hy⟩ : ∃ y, (z_pr Z i)[p]? = some y := ⟨_, List.getElem?_eq_getElem (by omega)⟩
        rw [hp3 p y hy]
        have := ro_V_lt hN (ro_ws_V hN (z_lc Z i 0) _ (ro_V_rnd hN).1 (z_M_lc hMz hi (by decide)) y (List.mem_of_getElem? hy))
        omega
      · rw [hc4, hc5, show z_lc Z3 i 0 = z_lc Z i 0 from by unfold z_lc; rw [z_C_ch s3.C, hc5], z_fl_eq hp3]
        have ih := m_fr_L (Q := Q) (X := X) hMz hi k w (j + 1) Z3 S3 g3 s3 (by rw [e3 0 (by decide)]; exact z0) hp3 (by omega) (by omega)
        have ec : ro_cb (z_fl Z i) (j + 1) = ro_cb (z_fl Z i) j + (if z_fl Z i j = true then 1 else 0) := rfl
        rw [nI_1]
        refine zb_c (fun e => ?_) (fun e => ?_)
        · rw [ec, if_neg (by rw [e]; decide)] at ih
          rw [show nI (ro_cb (z_fl Z i) j) + 0 = nI (ro_cb (z_fl Z i) j + 0) from nI_add _ 0]
          exact ih
        · rw [ec, if_pos e] at ih
          rw [nI_1]
          exact ih
end OPC
