/-! ring, the class -/
section OPR
variable {E : zE} {x m : Nat}
end OPR
