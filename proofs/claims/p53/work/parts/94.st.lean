/-! the class looks for a sound touch -/
section ST
variable {E : zE} {ad la : Nat → Nat → Nat} {M T R : Nat} {V : vV} {Z : zZ} {S : zS} {X : String → zS → Prop}
theorem c_addLead {Q : zS → Prop} {i s c q n : Nat} (h : RC E ad la (sd M T R) V S) (hi : i < M) (hs : s < T) (e5 : V 501 i 0 = n) (eq : V 906 s 0 = q) (hq : q < 20)
    (k : ∀ la' cp S', RC E ad la' (sd M T R) (vadd (u3 (u3 V 901 s 0 n) 907 s q c) 906 s cp i) S' → Q S') : p_X9_addLead E (ad 9 s) (ad 5 i) (nI c) S Q X := by
  refine ⟨h.o 5 i hi, h.o 9 s hs, h.uI 901 9 s n hs (by rw [h.gi 501 5 i hi, e5]) (fun S1 g1 => g1.ex 906 s hs (c_size g1 906 s hs (g1.ij 907 s q hs ?_ (by show _ < 20; exact hq) (g1.uA 907 s q c hs rfl (fun S2 g2 => ⟨g2.o 9 s hs, g2.ex 906 s hs (c_add g2 906 s i hs hi ?_ (fun la' cp S3 g3 => k la' cp S3 g3))⟩)))))⟩
  · rw [u3_f (show 906 ≠ 901 by decide), eq]
  · rw [u3_f (show 906 ≠ 907 by decide), u3_f (show 906 ≠ 901 by decide), eq]
    omega
/-- plain leads -/
theorem c_adds_L {K : Nat → Nat → Int32 → zS → Prop} {Q : Option Nat → zS → Prop} {i s N n : Nat} (hi : i < M) (hs : s < T) (e3 : V 301 0 0 = s) (e5 : V 501 i 0 = n) (hN : N ≤ 6)
    (k : ∀ la' V' S', RC E ad la' (sd M T R) V' S' → (∀ f, f ∉ [901, 906, 907, 2906, 4906] → V' f = V f) → (∀ f a, a ≠ s → V' f a = V f a) → V' 906 s 0 = N → (∀ j, j < N → V' 2906 s j = i ∧ V' 907 s j = 0) → (0 < N → V' 901 s 0 = n) → K (ad 3 0) (ad 5 i) (nI N) S') :
    ∀ (w j : Nat) (la' : Nat → Nat → Nat) (V' : vV) (S : zS), RC E ad la' (sd M T R) V' S → (∀ f, f ∉ [901, 906, 907, 2906, 4906] → V' f = V f) → (∀ f a, a ≠ s → V' f a = V f a) → V' 906 s 0 = j → (∀ q, q < j → V' 2906 s q = i ∧ V' 907 s q = 0) → (0 < j → V' 901 s 0 = n) → j ≤ N → N < j + w → p_X2_soundTouch_L9 E K Q X w (ad 3 0) (ad 5 i) (nI N) (nI j) S
  | 0, j, la', V', S, h, a, b, c, d, f, h1, h2 => by omega
  | w + 1, j, la', V', S, h, a, b, c, d, f, h1, h2 => by
    have r3 := (h.vrR 301 z1).2
    rw [show V' 301 = V 301 from a 301 (by decide), e3, show (301 : Nat) / 100 = 3 from rfl] at r3
    refine pk_le N j (fun h3 => ?_) (fun h3 => ⟨h.o 3 0 z1, _, r3, h.o 9 s hs, c_addLead (c := 0) (n := n) h hi hs (by rw [a 501 (by decide)]; exact e5) c (by omega) (fun la2 cp S2 g2 => ?_)⟩)
    · have : j = N := by omega
      subst this
      exact k la' V' S h a b c d f
    · rw [nI_1]
      have n6 : vadd (u3 (u3 V' 901 s 0 n) 907 s j 0) 906 s cp i 906 s 0 = j + 1 := by
        unfold vadd
        rw [u3_s, u3_f (show 906 ≠ 907 by decide), u3_f (show 906 ≠ 901 by decide), c]
      have n2 : ∀ k, vadd (u3 (u3 V' 901 s 0 n) 907 s j 0) 906 s cp i 2906 s k = if k = j then i else V' 2906 s k := fun k => by
        unfold vadd
        rw [u3_f (show 2906 ≠ 906 by decide), u3_f (show 906 ≠ 907 by decide), u3_f (show 906 ≠ 901 by decide), c]
        by_cases e : k = j
        · rw [if_pos e, e, u3_s]
        · rw [if_neg e, u3_j e, u3_f (show 2906 ≠ 906 + 4000 by decide), u3_f (show 2906 ≠ 907 by decide), u3_f (show 2906 ≠ 901 by decide)]
      have n7 : ∀ k, vadd (u3 (u3 V' 901 s 0 n) 907 s j 0) 906 s cp i 907 s k = if k = j then 0 else V' 907 s k := fun k => by
        unfold vadd
        rw [u3_f (show 907 ≠ 906 by decide), u3_f (show 907 ≠ 906 + 2000 by decide), u3_f (show 907 ≠ 906 + 4000 by decide)]
        by_cases e : k = j
        · rw [if_pos e, e, u3_s]
        · rw [if_neg e, u3_j e, u3_f (show 907 ≠ 901 by decide)]
      have n1 : vadd (u3 (u3 V' 901 s 0 n) 907 s j 0) 906 s cp i 901 s 0 = n := by
        unfold vadd
        rw [u3_f (show 901 ≠ 906 by decide), u3_f (show 901 ≠ 906 + 2000 by decide), u3_f (show 901 ≠ 906 + 4000 by decide), u3_f (show 901 ≠ 907 by decide), u3_s]
      refine c_adds_L hi hs e3 e5 hN k w (j + 1) la2 _ S2 g2 (fun q hq => ?_) (fun q a2 ha => ?_) n6 (fun q hq => ?_) (fun _ => n1) (by omega) (by omega)
      · have m : q ≠ 901 ∧ q ≠ 906 ∧ q ≠ 907 ∧ q ≠ 2906 ∧ q ≠ 4906 := by
          simp only [List.mem_cons, List.not_mem_nil, or_false] at hq
          omega
        unfold vadd
        rw [u3_f m.2.1, u3_f m.2.2.2.1, u3_f m.2.2.2.2, u3_f m.2.2.1, u3_f m.1]
        exact a q hq
      · unfold vadd
        rw [u3_i ha, u3_i ha, u3_i ha, u3_i ha, u3_i ha]
        exact b q a2 ha
      · rw [n2, n7]
        by_cases e : q = j
        · rw [if_pos e, if_pos e]
          exact ⟨rfl, rfl⟩
        · rw [if_neg e, if_neg e]
          exact d q (by omega)
theorem c_st_L {K1 : Nat → zS → Prop} {K0 : zS → Prop} {Q : Option Nat → zS → Prop} {i s N : Nat} (hV : V_M V Z) (hM : z_M Z) (hi : i < M) (hi2 : i < Z 3 0) (hN : 1 ≤ N ∧ N ≤ 6) (hs : s < T) (e3 : V 301 0 0 = s)
    (e901 : V 901 s 0 = Z 4 i) (e906 : V 906 s 0 = N) (e29 : ∀ k, k < N → V 2906 s k = i)
    (k1 : ∀ V' S' ofs, RC E ad la (sd M T R) V' S' → (∀ f, f ∉ [600, 902, 903, 904, 905, 907, 908] → V' f = V f) → (∀ f a, f ≠ 600 → a ≠ s → V' f a = V f a) → (∀ k, k < N → V' 907 s k < 3) → sw Z i N (V' 907 s) = true → (∀ e, e < 3 ^ N → e < pn (V' 907 s) N → sw Z i N (D3 N e) = false) → v_W (Z 4 i) V' s (cw Z i N (V' 907 s)) ofs → V' 905 s 0 = (if ro_la (Z 4 i) (ro_rnd (Z 4 i)) (cw Z i N (V' 907 s)) = ro_rnd (Z 4 i) then 1 else 0) → K1 (ad 3 0) S')
    (k0 : ∀ V' S', RC E ad la (sd M T R) V' S' → (∀ f, f ∉ [600, 902, 903, 904, 905, 907, 908] → V' f = V f) → (∀ f a, f ≠ 600 → a ≠ s → V' f a = V f a) → V_P V' → (∀ e, e < 3 ^ N → sw Z i N (D3 N e) = false) → K0 S') :
    ∀ (w k c : Nat) (V' : vV) (S : zS), RC E ad la (sd M T R) V' S → (∀ f, f ∉ [600, 902, 903, 904, 905, 907, 908] → V' f = V f) → (∀ f a, f ≠ 600 → a ≠ s → V' f a = V f a) → (∀ k, k < N → V' 907 s k < 3) → (∀ k, c < k → k < N → V' 907 s k = 0) → v_Wp (Z 4 i) V' s (z_tcG Z (fun _ => i) (V' 907 s) c) → (∀ e, e < 3 ^ N → e < pn (V' 907 s) N → sw Z i N (D3 N e) = false) → k ≤ pn (V' 907 s) N → c < N → 729 < k + w → p_X2_soundTouch_L34 E K1 K0 Q X w (ad 3 0) (ad 5 i) (nI N) (nI c) (nI k) S
  | 0, k, c, V', S, h, a, b, d3, zc, wp, U, kb, hc, hw => by
    have p := pn_b (d := V' 907 s) N d3
    have : 3 ^ N ≤ 3 ^ 6 := Nat.pow_le_pow_right (by decide) hN.2
    have : (3 : Nat) ^ 6 = 729 := by decide
    omega
  | w + 1, k, c, V', S, h, a, b, d3, zc, wp, U, kb, hc, hw => by
    have p := pn_b (d := V' 907 s) N d3
    have p6 : 3 ^ N ≤ 3 ^ 6 := Nat.pow_le_pow_right (by decide) hN.2
    have p7 : (3 : Nat) ^ 6 = 729 := by decide
    have r3 := (h.vrR 301 z1).2
    rw [show V' 301 = V 301 from a 301 (by decide), e3, show (301 : Nat) / 100 = 3 from rfl] at r3
    have hVa : ∀ V2 : vV, (∀ f, f ∉ [600, 902, 903, 904, 905, 907, 908] → V2 f = V f) → V_M V2 Z := fun V2 a2 => hV.cg (fun f hf => a2 f (by
      have : ∀ f, f ∈ [1000, 3000, 500, 501, 502, 503, 504, 505, 506] → f ∉ [600, 902, 903, 904, 905, 907, 908] := by decide
      exact this f hf)) (fun _ _ => rfl)
    have LD : z_LD Z (fun _ => i) (V' 907 s) (Z 4 i) N := ⟨(hM.2 i hi2).1, by omega, fun k hk => ⟨hi2, d3 k hk, rfl⟩⟩
    have ld : v_LD V' s (Z 4 i) N (fun _ => i) (V' 907 s) := ⟨by rw [a 901 (by decide)]; exact e901, by rw [a 906 (by decide)]; exact e906, fun k hk => ⟨by rw [a 2906 (by decide)]; exact e29 k hk, rfl⟩⟩
    refine pk_le 729 k (fun h3 => by omega) (fun h3 => ⟨fun x => absurd x (z_oi_n (by omega)), fun _ => ⟨h.o 3 0 z1, _, r3, _, h.sgR 300 6 z1, h.o 9 s hs, ?_⟩⟩)
    refine c_writeFrom (a := c) (q0 := N) h (hVa V' a) hM (fun _ _ => hi) LD hs ld (by omega) wp (fun V2 S2 g2 ag w2 e5 => ?_)
    have a2 : ∀ f, f ∉ [600, 902, 903, 904, 905, 907, 908] → V2 f = V f := fun f hf => by
      have m : f ≠ 600 ∧ f ≠ 902 ∧ f ≠ 903 ∧ f ≠ 904 ∧ f ≠ 905 ∧ f ≠ 908 := by
        simp only [List.mem_cons, List.not_mem_nil, or_false] at hf
        omega
      rw [ag.f m.1 m.2.1 m.2.2.1 m.2.2.2.1 m.2.2.2.2.1 m.2.2.2.2.2]
      exact a f hf
    have b2 : ∀ f x, f ≠ 600 → x ≠ s → V2 f x = V f x := fun f x hf hx => (ag f x hf (fun y => hx y.2)).trans (b f x hf hx)
    have e907 : V2 907 = V' 907 := ag.f (by decide) (by decide) (by decide) (by decide) (by decide) (by decide)
    have r32 := (g2.vrR 301 z1).2
    rw [show V2 301 = V 301 from a2 301 (by decide), e3, show (301 : Nat) / 100 = 3 from rfl] at r32
    have e32 : V2 301 0 0 = s := by rw [a2 301 (by decide)]; exact e3
    have b5 : V2 905 s 0 < 2 := by rw [e5]; split <;> decide
    have rows : ∀ r, r < (cw Z i N (V' 907 s)).length → (ro_ws (Z 4 i) (ro_rnd (Z 4 i)) (cw Z i N (V' 907 s)))[r]? = some (V2 908 s r) := fun r hr => by
      obtain ⟨x, hx⟩ := ro_ws_some (n := Z 4 i) (cs := cw Z i N (V' 907 s)) (r := r) hr
      rw [hx, w2.2.1 r x hx]
    -- the next way
    have nx : ∀ j0, j0 ≤ N → (∀ k, j0 ≤ k → k < N → V' 907 s k = 0) → (∀ e, e < 3 ^ N → pn (D3 N e) j0 ≤ pn (V' 907 s) j0 → sw Z i N (D3 N e) = false) → (∀ j, j < j0 → (∀ r, r < (z_tcG Z (fun _ => i) (V' 907 s) j).length → ∀ k, k < r → V2 908 s k ≠ V2 908 s r) ∧ ∀ r, r < (z_tcG Z (fun _ => i) (V' 907 s) j).length → V2 600 0 (ro_num (Z 4 i) (V2 908 s r) 7 0 0) = r) →
        p_X2_callNext E (ad 3 0) (ad 5 i) (nI j0 + (-1)) S2 (fun (r33 : Int32) (S32 : zS) => p_X2_soundTouch_L34 E K1 K0 Q X w (ad 3 0) (ad 5 i) (nI N) r33 (nI k + 1) S32) (fun _ _ => False) := by
      intro j0 hj0 hz inv dist
      rw [← e907] at hz inv d3 p kb
      refine c_cn g2 (hVa V2 a2) hM hi hi2 hN.2 hs e32 hj0 d3 hz inv (fun j V3 S3 g3 a3 b3 jj ag3 d33 z33 lt3 U3 => ?_) (fun V3 S3 g3 a3 b3 U3 => ?_)
      · rw [nI_1]
        have e3' : z_tcG Z (fun _ => i) (V3 907 s) j = z_tcG Z (fun _ => i) (V' 907 s) j := z_tcG_congr (fun k hk => ⟨rfl, by rw [ag3 k hk, e907]⟩)
        refine c_st_L hV hM hi hi2 hN hs e3 e901 e906 e29 k1 k0 w (k + 1) j V3 S3 g3 (fun f hf => ?_) (fun f x hf hx => ?_) d33 z33 ?_ U3 (by omega) (by omega) (by omega)
        · have m : f ≠ 907 := fun e => hf (by rw [e]; decide)
          rw [a3 f m]
          exact a2 f hf
        · by_cases e : f = 907
          · rw [e, b3 x hx]
            exact b2 907 x (by decide) hx
          · rw [a3 f e]
            exact b2 f x hf hx
        · have dj := dist j jj
          unfold v_Wp V_P
          rw [e3', a3 908 (by decide), a3 600 (by decide)]
          refine ⟨fun r x hx => ?_, w2.2.2.1, dj.1, dj.2⟩
          have l := (List.getElem?_eq_some_iff.mp hx).1
          rw [ro_ws_len] at l
          refine w2.2.1 r x ?_
          rw [ws_pre (N := N) (by omega) l]
          exact hx
      · -- none is left
        have v3 : ∀ f, f ∉ [600, 902, 903, 904, 905, 907, 908] → V3 f = V f := fun f hf => by
          rw [a3 f (fun e => hf (by rw [e]; decide))]
          exact a2 f hf
        have kk : K0 S3 := k0 V3 S3 g3 v3 (fun f x hf hx => by
          by_cases e : f = 907
          · rw [e, b3 x hx]
            exact b2 907 x (by decide) hx
          · rw [a3 f e]
            exact b2 f x hf hx) (by unfold V_P; rw [a3 600 (by decide)]; exact w2.2.2.1) U3
        match w, hw with
        | 0, hw => omega
        | w + 1, hw => exact ⟨fun _ => kk, fun _ => ⟨fun _ => kk, fun x => absurd rfl x⟩⟩
    have self : ∀ e, e < 3 ^ N → e = pn (V' 907 s) N → sw Z i N (V' 907 s) = false → sw Z i N (D3 N e) = false := fun e he ee hf => by
      rw [ee, sw_c (D3_pn d3)]
      exact hf
    refine ⟨g2.o 3 0 z1, _, r32, g2.o 9 s hs, g2.o 9 s hs, ?_⟩
    rw [g2.gi 903 9 s hs, g2.gi 905 9 s hs, ri_0 b5, e5]
    obtain ⟨B, q1, q2, q3⟩ := w2.2.2.2
    rcases q3 with ⟨eB, e903⟩ | ⟨lB, e903, ⟨K, hK, eK⟩, o1, o2⟩
    · have nd : z_ndB (fun r => (ro_ws (Z 4 i) (ro_rnd (Z 4 i)) (cw Z i N (V' 907 s))).getD r 0) (cw Z i N (V' 907 s)).length = true := by
        rw [z_ndB_iff]
        intro r hr k hk
        show (ro_ws (Z 4 i) (ro_rnd (Z 4 i)) (cw Z i N (V' 907 s))).getD k 0 ≠ (ro_ws (Z 4 i) (ro_rnd (Z 4 i)) (cw Z i N (V' 907 s))).getD r 0
        rw [getD_get (rows k (by omega)), getD_get (rows r hr)]
        exact q1 r (by rw [eB]; exact hr) k hk
      refine ⟨fun x => absurd e903 x, fun _ => ?_⟩
      by_cases el : ro_la (Z 4 i) (ro_rnd (Z 4 i)) (z_tcG Z (fun _ => i) (V' 907 s) N) = ro_rnd (Z 4 i)
      · rw [if_pos el]
        refine ⟨fun x => absurd x (by decide), fun _ => ⟨Or.inr rfl, fun x => absurd x (by decide), fun _ => k1 V2 S2 (fun k => (z_tcG Z (fun _ => i) (V' 907 s) k).length) g2 a2 b2 (by rw [e907]; exact d3) ?_ (by rw [e907]; exact U) (by rw [e907]; exact w2) (by rw [e907]; exact e5)⟩⟩
        rw [e907]
        unfold sw
        rw [nd, Bool.and_true]
        exact beq_iff_eq.mpr el
      · rw [if_neg el]
        refine ⟨fun _ => ⟨Or.inl rfl, fun _ => ⟨g2.o 3 0 z1, _, r32, g2.o 9 s hs, ?_⟩, fun x => absurd rfl x⟩, fun x => absurd rfl x⟩
        rw [g2.gi 903 9 s hs]
        have swf : sw Z i N (V' 907 s) = false := by
          unfold sw
          rw [show (ro_la (Z 4 i) (ro_rnd (Z 4 i)) (cw Z i N (V' 907 s)) == ro_rnd (Z 4 i)) = false from by
            rw [← Bool.not_eq_true, beq_iff_eq]
            exact el]
          rfl
        refine ⟨fun x => absurd e903 x, fun _ => ?_⟩
        rw [Int32.sub_eq_add_neg]
        refine nx N (Nat.le_refl _) (fun k h1 h2 => by omega) (fun e he h1 => ?_) (fun j hj => ?_)
        · rw [pn_D he] at h1
          rcases Nat.lt_or_eq_of_le h1 with y | y
          · exact U e he y
          · exact self e he y swf
        · have l : (z_tcG Z (fun _ => i) (V' 907 s) j).length ≤ B := by
            rw [eB]
            exact tcG_mono (by omega)
          exact ⟨fun r hr k hk => q1 r (by omega) k hk, fun r hr => q2 r (by omega)⟩
    · have n903 : ¬ nI (V2 903 s 0) = -1 := by
        have l12 := (z_tcG_ok hM LD N (Nat.le_refl _)).2.1
        rw [e903]
        exact z_oi_n (by omega)
      refine ⟨fun _ => ⟨Or.inl rfl, fun _ => ⟨g2.o 3 0 z1, _, r32, g2.o 9 s hs, ?_⟩, fun x => absurd rfl x⟩, fun x => absurd x n903⟩
      rw [g2.gi 903 9 s hs]
      refine ⟨fun _ => ⟨_, r32, g2.o 9 s hs, ?_⟩, fun x => absurd x n903⟩
      rw [g2.gi 904 9 s hs]
      generalize hr : V2 904 s 0 = r at o1 o2 ⊢
      have o1 : (z_tcG Z (fun _ => i) (V' 907 s) r).length ≤ B := o1
      have o2 : B < (z_tcG Z (fun _ => i) (V' 907 s) (r + 1)).length := o2
      have cB : (z_tcG Z (fun _ => i) (V' 907 s) c).length ≤ B := by
        refine Nat.le_of_not_lt (fun x => ?_)
        have same : ∀ q, q < (z_tcG Z (fun _ => i) (V' 907 s) c).length → V' 908 s q = V2 908 s q := fun q hq => by
          obtain ⟨y, hy⟩ := ro_ws_some (n := Z 4 i) (cs := z_tcG Z (fun _ => i) (V' 907 s) c) (r := q) hq
          rw [wp.1 q y hy]
          refine (w2.2.1 q y ?_).symm
          rw [ws_pre (by omega) hq]
          exact hy
        refine wp.2.2.1 B x K hK ?_
        rw [same K (by omega), same B x]
        exact eK
      have cr : c ≤ r := by
        refine Nat.le_of_not_lt (fun x => ?_)
        have := tcG_mono (Z := Z) (mm := fun _ => i) (cc := V' 907 s) (m := r + 1) (N := c) (by omega)
        omega
      have rN : r < N := by
        refine Nat.lt_of_not_le (fun x => ?_)
        have := tcG_mono (Z := Z) (mm := fun _ => i) (cc := V' 907 s) (m := N) (N := r) x
        omega
      have er : (nI r : Int32) = nI (r + 1) + (-1) := by
        rw [← nI_1, Int32.add_assoc, show (1 : Int32) + (-1) = 0 from by decide, Int32.add_zero]
      rw [er]
      have rep : ∀ d : Nat → Nat, (∀ k, k < r + 1 → d k = V' 907 s k) → sw Z i N d = false := fun d hd => by
        refine sw_rep (d' := V' 907 s) (B := B) (K := K) (m := r + 1) (by omega) hd o2 hK ?_
        have lB' : B < (cw Z i N (V' 907 s)).length := lB
        rw [rows K (by omega), rows B lB', eK]
      refine nx (r + 1) (by omega) (fun k h1 h2 => zc k (by omega) h2) (fun e he h1 => ?_) (fun j hj => ?_)
      · rcases Nat.lt_or_eq_of_le h1 with y | y
        · have := pn_ltN (N := N) y (by omega) (fun _ _ => D3_lt)
          rw [pn_D he] at this
          exact U e he this
        · exact rep _ (pn_eq (r + 1) y (fun _ _ => D3_lt) (fun k hk => d3 k (by omega)))
      · have l : (z_tcG Z (fun _ => i) (V' 907 s) j).length ≤ B := Nat.le_trans (tcG_mono (by omega)) o1
        exact ⟨fun r hr k hk => q1 r (by omega) k hk, fun r hr => q2 r (by omega)⟩
end ST
