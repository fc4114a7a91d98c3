/-! calls that ask for wear, bands, days -/
theorem s01 {Z : zZ} : z_scr Z (up Z 0 0 0) := s0
theorem z_ba_cg {Z Z' : zZ} (c : z_C Z Z') (h20 : Z' 20 = Z 20) (h21 : Z' 21 = Z 21) (h22 : Z' 22 = Z 22) (h24 : Z' 24 = Z 24) (h25 : Z' 25 = Z 25) (h26 : Z' 26 = Z 26) : z_ba Z' = z_ba Z := by
  have mx : ∀ d k, z_mx Z' d k = z_mx Z d k := by
    intro d k
    induction k with
    | zero => rfl
    | succ k ih =>
      show (if z_mx Z' d k < z_st Z' (Z' 22 (4 * d + k)) then z_st Z' (Z' 22 (4 * d + k)) else z_mx Z' d k) = _
      rw [ih, z_C_st c, h22]
      rfl
  have bf : ∀ a k, z_bf Z' a k = z_bf Z a k := by
    intro a k
    unfold z_bf
    rw [h24]
  have bd : ∀ d a, z_bd Z' d a = z_bd Z d a := by
    intro d a
    unfold z_bd
    rw [h20, h26, h21, mx, bf]
  have bo : ∀ j, z_bo Z' j = z_bo Z j := by
    intro j
    induction j with
    | zero =>
      show (Z' 25 0, none) = (Z 25 0, none)
      rw [h25]
    | succ j ih =>
      show (z_tb (z_bd Z' (Z' 20 0 + j) (z_bo Z' j).1) (z_bo Z' j).1, z_bd Z' (Z' 20 0 + j) (z_bo Z' j).1) = _
      rw [ih, h20, bd]
      rfl
  funext d
  unfold z_ba
  rw [h20, bo]
theorem z_ba_scr {Z Z' : zZ} (e : z_scr Z Z') : z_ba Z' = z_ba Z := z_ba_cg e.C (e 20 (by decide)) (e 21 (by decide)) (e 22 (by decide)) (e 24 (by decide)) (e 25 (by decide)) (e 26 (by decide))
section OPF
variable {E : zE} {x m : Nat}
theorem ri_6 (p b : Nat) : (6 : Int32) * nI p + nI b = nI (6 * p + b) := by
  rw [show (6 : Int32) * nI p = nI (6 * p) from pk_mul 6 p, nI_add]
end OPF
