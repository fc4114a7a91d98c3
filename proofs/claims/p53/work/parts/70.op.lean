/-! calls that ask for methods and touches -/
theorem s0 {Z : zZ} {v : Nat} : z_scr Z (up Z 0 0 v) := (z_scr.refl Z).up (by decide)
section OPB
variable {E : zE} {x m : Nat}

end OPB
