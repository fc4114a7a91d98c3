/-! compose -/
theorem pn_0 {d : Nat → Nat} : ∀ N, (∀ k, k < N → d k = 0) → pn d N = 0
  | 0, _ => rfl
  | N + 1, h => by
    show 3 * pn d N + d N = 0
    rw [pn_0 N (fun k hk => h k (by omega)), h N (by omega)]
section OPW
variable {E : zE} {x m : Nat}
end OPW
