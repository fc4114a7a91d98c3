/-! leads are written from one on -/
theorem cm1 : (-1 : Int32) = nI 4294967295 := by decide
theorem vW_last {n s : Nat} {V : vV} {cs : List Nat} (h : ∀ r x, (ro_ws n (ro_rnd n) cs)[r]? = some x → V 908 s r = x) (h0 : 0 < cs.length) : V 908 s (cs.length - 1) = ro_la n (ro_rnd n) cs :=
  h _ _ (ro_ws_last n cs _ (fun e => by rw [e] at h0; exact absurd h0 (by decide)))
theorem vW_cg {n s : Nat} {V V' : vV} {cs : List Nat} {ofs : Nat → Nat} (h : v_W n V s cs ofs) (e2 : V' 902 s = V 902 s) (e3 : V' 903 s = V 903 s) (e4 : V' 904 s = V 904 s) (e8 : V' 908 s = V 908 s) (e6 : V' 600 = V 600) : v_W n V' s cs ofs := by
  unfold v_W V_P
  rw [e2, e3, e4, e8, e6]
  exact h
/-- what must be known of the rows ahead -/
def v_Wp (n : Nat) (V : vV) (s : Nat) (cs : List Nat) : Prop :=
  (∀ r x, (ro_ws n (ro_rnd n) cs)[r]? = some x → V 908 s r = x) ∧ V_P V ∧ (∀ r, r < cs.length → ∀ k, k < r → V 908 s k ≠ V 908 s r) ∧ ∀ r, r < cs.length → V 600 0 (ro_num n (V 908 s r) 7 0 0) = r
/-- a touch's leads are these -/
def v_LD (V : vV) (s n q : Nat) (mm cc : Nat → Nat) : Prop := V 901 s 0 = n ∧ V 906 s 0 = q ∧ ∀ k, k < q → V 2906 s k = mm k ∧ V 907 s k = cc k
theorem v_LD.ag {V V' : vV} {s n q : Nat} {mm cc : Nat → Nat} (h : v_LD V s n q mm cc) (ha : v_ag V V' s) : v_LD V' s n q mm cc := by
  unfold v_LD
  rw [ha.f (f := 901) (by decide) (by decide) (by decide) (by decide) (by decide) (by decide), ha.f (f := 906) (by decide) (by decide) (by decide) (by decide) (by decide) (by decide), ha.f (f := 2906) (by decide) (by decide) (by decide) (by decide) (by decide) (by decide), ha.f (f := 907) (by decide) (by decide) (by decide) (by decide) (by decide) (by decide)]
  exact h
section WFS
variable {E : zE} {ad la : Nat → Nat → Nat} {M T R : Nat} {V : vV} {Z : zZ} {S : zS} {X : String → zS → Prop}
theorem c_writeLead {Q : zS → Prop} {n s q q0 : Nat} {mm cc : Nat → Nat} (h : RC E ad la (sd M T R) V S) (hV : V_M V Z) (hM : z_M Z) (hMz : ∀ k, k < q0 → mm k < M) (hL : z_LD Z mm cc n q0) (hs : s < T) (l : v_LD V s n q0 mm cc) (hq : q < q0) (hW : v_W n V s (z_tcG Z mm cc q) (fun k => (z_tcG Z mm cc k).length))
    (k : ∀ V' S', RC E ad la (sd M T R) V' S' → v_ag V V' s → v_W n V' s (z_tcG Z mm cc (q + 1)) (fun k => (z_tcG Z mm cc k).length) → Q S') : p_X9_writeLead E (ad 9 s) (nI q) (ad 6 0) S Q X := by
  have hk := hL.2.2 q hq
  have h20 := hL.2.1
  have hn6 := ro_N6 hL.1
  have t := z_tcG_ok hM hL q (by omega)
  have lk := l.2.2 q hq
  refine ⟨h.o 9 s hs, h.ex 906 s hs (c_get (g := 2906) (t := 5) h 906 s q hs (by rw [l.2.1]; exact hq) (fun hm => ?_))⟩
  rw [lk.1] at hm ⊢
  refine ⟨_, rfl, h.o 5 (mm q) hm, h.o 9 s hs, ?_⟩
  refine c_lastRow9 (r := ro_la n (ro_rnd n) (z_tcG Z mm cc q)) h hs l.1 hn6.1 hW.1 (by omega) (fun e => ?_) (fun e => vW_last hW.2.1 e) ⟨13, ?_⟩
  · rw [List.eq_nil_of_length_eq_zero e]
    rfl
  · have := c_wl_L (Q := Q) (X := X) (E := E) (R := R) (K := fun (S : zS) => Q S) (p0 := z_tcG Z mm cc q) (ofs := fun k => (z_tcG Z mm cc k).length) hV hM hs hm hk.1 hk.2.2 (by omega) hk.2.1 lk.2 l.1 t.1 t.2.1 rfl (z_tcG_s Z mm cc q) k 13 0 V S h (v_ag.refl V s) (by omega) (by have := z_M_n hM hk.1; omega) (by
      rw [show (List.range 0).map (z_ch Z (mm q) (cc q)) = [] from rfl, List.append_nil]
      exact hW)
    rw [show (List.range 0).map (z_ch Z (mm q) (cc q)) = [] from rfl, List.append_nil] at this
    exact this
theorem c_wf_b {K : Nat → zS → Prop} {Q : zS → Prop} {n s a q0 : Nat} {mm cc : Nat → Nat} (hV : V_M V Z) (hM : z_M Z) (hMz : ∀ k, k < q0 → mm k < M) (hL : z_LD Z mm cc n q0) (hs : s < T) (l : v_LD V s n q0 mm cc)
    (k : ∀ V' S', RC E ad la (sd M T R) V' S' → v_ag V V' s → v_W n V' s (z_tcG Z mm cc q0) (fun k => (z_tcG Z mm cc k).length) → K (ad 9 s) S') :
    ∀ (w q : Nat) (V' : vV) (S : zS), RC E ad la (sd M T R) V' S → v_ag V V' s → a ≤ q → q ≤ q0 → q0 < q + w → v_W n V' s (z_tcG Z mm cc q) (fun k => (z_tcG Z mm cc k).length) → p_X9_writeFrom_L17 E K Q X w (ad 9 s) (nI a) (ad 6 0) (nI q) S
  | 0, q, V', S, h, ha, h0, h1, h2, hW => by omega
  | w + 1, q, V', S, h, ha, h0, h1, h2, hW => by
    have h20 := hL.2.1
    have l' := l.ag ha
    refine ⟨h.o 9 s hs, h.ex 906 s hs (c_size h 906 s hs ?_)⟩
    rw [l'.2.1]
    refine pk_le q0 q (fun h3 => ?_) (fun h3 => ⟨fun _ => ⟨h.o 9 s hs, c_writeLead h (ha.M hV) hM hMz hL hs l' h3 hW (fun V2 S2 g2 a2 w2 => ?_)⟩, fun x => absurd (nI_le h0 (by omega)) x⟩)
    · have : q = q0 := by omega
      subst this
      exact k V' S h ha hW
    · rw [nI_1]
      exact c_wf_b hV hM hMz hL hs l k w (q + 1) V2 S2 g2 (ha.trans a2) (by omega) (by omega) (by omega) w2
theorem c_wf_a {K : Nat → zS → Prop} {Q : zS → Prop} {n s a q0 : Nat} {mm cc : Nat → Nat} (hV : V_M V Z) (hM : z_M Z) (hMz : ∀ k, k < q0 → mm k < M) (hL : z_LD Z mm cc n q0) (hs : s < T) (l : v_LD V s n q0 mm cc) (haq : a ≤ q0) (hp : v_Wp n V s (z_tcG Z mm cc a))
    (k : ∀ V' S', RC E ad la (sd M T R) V' S' → v_ag V V' s → v_W n V' s (z_tcG Z mm cc q0) (fun k => (z_tcG Z mm cc k).length) → K (ad 9 s) S') :
    ∀ (w q : Nat) (V' : vV) (S : zS), RC E ad la (sd M T R) V' S → v_ag V V' s → q ≤ a → q0 < q + w → V' 902 s 0 = (z_tcG Z mm cc q).length → V' 903 s 0 = 4294967295 → V' 908 s = V 908 s → V' 600 = V 600 → p_X9_writeFrom_L17 E K Q X w (ad 9 s) (nI a) (ad 6 0) (nI q) S
  | 0, q, V', S, h, ha, h1, h2, e2, e3, e8, e6 => by omega
  | w + 1, q, V', S, h, ha, h1, h2, e2, e3, e8, e6 => by
    have h20 := hL.2.1
    have l' := l.ag ha
    by_cases e : q = a
    · subst e
      refine c_wf_b hV hM hMz hL hs l k (w + 1) q V' S h ha (Nat.le_refl _) haq h2 ⟨e2, ?_, ?_, (z_tcG Z mm cc q).length, ?_, ?_, Or.inl ⟨rfl, by rw [e3]; exact cm1.symm⟩⟩
      · rw [e8]
        exact hp.1
      · unfold V_P
        rw [e6]
        exact hp.2.1
      · rw [e8]
        exact hp.2.2.1
      · rw [e8, e6]
        exact hp.2.2.2
    · have hk := hL.2.2 q (by omega)
      have lk := l'.2.2 q (by omega)
      have hM2 := (ha.M hV).2 _ hk.1
      refine ⟨h.o 9 s hs, h.ex 906 s hs (c_size h 906 s hs ?_)⟩
      rw [l'.2.1]
      refine pk_le q0 q (fun h3 => by omega) (fun h3 => ⟨fun x => absurd x (nI_ge (by omega) (by omega)), fun _ => ⟨h.o 9 s hs, h.ex 906 s hs (c_get (g := 2906) (t := 5) h 906 s q hs (by rw [l'.2.1]; exact h3) (fun hm => ?_))⟩⟩)
      rw [lk.1] at hm ⊢
      refine ⟨_, rfl, h.o 5 (mm q) hm, h.o 9 s hs, ?_⟩
      rw [h.gi 902 9 s hs, h.gi 502 5 (mm q) hm, e2, hM2.2.2.2.1, nI_add, ← z_tcG_s]
      refine h.uI 902 9 s _ hs rfl (fun S2 g2 => ?_)
      rw [nI_1]
      refine c_wf_a hV hM hMz hL hs l haq hp k w (q + 1) _ S2 g2 (ha.u (by omega)) (by omega) (by omega) (u3_s _ _ _ _ _) ?_ ?_ ?_
      · rw [u3_f (by decide)]
        exact e3
      · rw [u3_f (by decide)]
        exact e8
      · rw [u3_f (by decide)]
        exact e6
theorem c_writeFrom {Q : zS → Prop} {n s a q0 : Nat} {mm cc : Nat → Nat} (h : RC E ad la (sd M T R) V S) (hV : V_M V Z) (hM : z_M Z) (hMz : ∀ k, k < q0 → mm k < M) (hL : z_LD Z mm cc n q0) (hs : s < T) (l : v_LD V s n q0 mm cc) (haq : a ≤ q0) (hp : v_Wp n V s (z_tcG Z mm cc a))
    (k : ∀ V' S', RC E ad la (sd M T R) V' S' → v_ag V V' s → v_W n V' s (z_tcG Z mm cc q0) (fun k => (z_tcG Z mm cc k).length) → V' 905 s 0 = (if ro_la n (ro_rnd n) (z_tcG Z mm cc q0) = ro_rnd n then 1 else 0) → Q S') : p_X9_writeFrom E (ad 9 s) (nI a) (ad 6 0) S Q X := by
  have h20 := hL.2.1
  have hn6 := ro_N6 hL.1
  have tq := z_tcG_ok hM hL q0 (Nat.le_refl _)
  refine ⟨h.o 9 s hs, h.uI 902 9 s 0 hs rfl (fun S1 g1 => g1.uI 903 9 s 4294967295 hs cm1 (fun S2 g2 => g2.uI 904 9 s 4294967295 hs cm1 (fun S3 g3 => ⟨21, ?_⟩)))⟩
  refine c_wf_a hV hM hMz hL hs l haq hp (fun V' S' g ga gW => ?_) 21 0 _ S3 g3 ((((v_ag.refl V s).u (by omega)).u (by omega)).u (by omega)) (by omega) (by omega) ?_ ?_ ?_ ?_
  · have l' := l.ag ga
    refine ⟨g.o 9 s hs, c_lastRow9 (r := ro_la n (ro_rnd n) (z_tcG Z mm cc q0)) g hs l'.1 hn6.1 gW.1 (by omega) (fun e => ?_) (fun e => vW_last gW.2.1 e) ⟨g.o 9 s hs, ?_⟩⟩
    · rw [List.eq_nil_of_length_eq_zero e]
      rfl
    · rw [g.gi 901 9 s hs, l'.1]
      refine w8_rounds hn6.1 ?_
      have b1 := ro_V_lt hL.1 (ro_la_V hL.1 _ _ (ro_V_rnd hL.1).1 tq.1)
      have b2 := ro_V_lt hL.1 (ro_V_rnd hL.1).1
      rw [nI_eq (by omega) (by omega)]
      refine ⟨fun e => ⟨g.o 9 s hs, Or.inl rfl, g.uI 905 9 s 0 hs rfl (fun S4 g4 => k _ S4 g4 (ga.u (by omega)) ?_ ?_)⟩, fun e => ⟨g.o 9 s hs, Or.inr rfl, g.uI 905 9 s 1 hs rfl (fun S4 g4 => k _ S4 g4 (ga.u (by omega)) ?_ ?_)⟩⟩
      · exact vW_cg gW (by rw [u3_f (by decide)]) (by rw [u3_f (by decide)]) (by rw [u3_f (by decide)]) (by rw [u3_f (by decide)]) (by rw [u3_f (by decide)])
      · rw [u3_s, if_neg e]
      · exact vW_cg gW (by rw [u3_f (by decide)]) (by rw [u3_f (by decide)]) (by rw [u3_f (by decide)]) (by rw [u3_f (by decide)]) (by rw [u3_f (by decide)])
      · rw [u3_s, if_pos e]
  · rw [u3_f (by decide), u3_f (by decide), u3_s]
    rfl
  · rw [u3_f (by decide), u3_s]
  · rw [u3_f (by decide), u3_f (by decide), u3_f (by decide)]
  · rw [u3_f (by decide), u3_f (by decide), u3_f (by decide)]
theorem v_Wp0 {n s : Nat} (hp : V_P V) : v_Wp n V s [] := ⟨fun r x hx => by simp [ro_ws] at hx, hp, fun r hr => absurd hr (Nat.not_lt_zero r), fun r hr => absurd hr (Nat.not_lt_zero r)⟩
/-- written out whole, it is the touch t -/
theorem vW_T {s t : Nat} {V' : vV} {q : Nat} (hM : z_M Z) (ht : z_T Z t) (hq : Z 11 t = q) (hn : V' 900 s 0 = t) (l : v_LD V' s (z_st Z t) q (z_mt Z t) (z_cl Z t)) (w : v_W (z_st Z t) V' s (z_tcG Z (z_mt Z t) (z_cl Z t) q) (fun k => (z_tcG Z (z_mt Z t) (z_cl Z t) k).length)) (e5 : V' 905 s 0 = (if ro_la (z_st Z t) (ro_rnd (z_st Z t)) (z_tcG Z (z_mt Z t) (z_cl Z t) q) = ro_rnd (z_st Z t) then 1 else 0)) : W_T V' Z s t := by
  subst hq
  rw [z_tcG_t] at w e5
  obtain ⟨w1, w2, w3, B, b1, b2, b3⟩ := w
  have r8 : ∀ r, r < z_L Z t → V' 908 s r = z_f Z t r := fun r hr => w2 r _ (z_f_get hr)
  refine ⟨hn, l.1, w1, l.2.1, l.2.2, r8, ?_, e5⟩
  rcases b3 with ⟨e1, e2⟩ | ⟨e1, e2, ⟨k, hk, ek⟩, _⟩
  · refine Or.inl ⟨e2, fun r hr k hk => ?_⟩
    rw [← r8 r hr, ← r8 k (by omega)]
    exact b1 r (by rw [e1]; exact hr) k hk
  · have eB : B < z_L Z t := e1
    refine Or.inr ⟨B, by rw [e2], e1, ⟨k, hk, ?_⟩, fun r hr k hk => ?_⟩
    · rw [← r8 B e1, ← r8 k (by omega)]
      exact ek
    · rw [← r8 r (by omega), ← r8 k (by omega)]
      exact b1 r hr k hk
end WFS
