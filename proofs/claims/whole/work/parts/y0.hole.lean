theorem st_unsureAt {n : Nat} {m : aM} (hn : n < 64) (h : mInv n m) (x1 : Int) : ∃ r m1 m2, B_unsureAt x1 m = some (r, m1) ∧ R_unsureAt x1 m1 = some (r, m2) ∧ mInv (n + 1) m2 := sorry
