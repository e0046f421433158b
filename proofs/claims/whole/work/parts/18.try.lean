section TRY1
set_option maxRecDepth 100000 in
theorem r_felt_1 {D w k a x y : Nat} {Sh : List mT} {MI : Nat → Nat → Int32} {ML : Nat → Nat → Int64} (hk : Sh[k]? = some (0, 0, [none, some (some a)])) (ha : Sh[a]? = some (1, 84, [])) (hx : x < 8) (hy : y < 8) : mrn (D + 1) 14 [.ref k, .int (nI x), .int (nI y)] (w, Sh, MI, ML) (some (.int (MI a (20 + x * 8 + y)))) (w, Sh, MI, ML) := by
  refine x_in (n := 1) (T := TX0_felt) rfl rfl (Nat.le_refl _) (Nat.le_refl _) ?_
  refine x_st rfl ?_
  refine x_st rfl ?_
  refine x_st rfl ?_
  refine x_st rfl ?_
  refine x_st rfl ?_
  refine x_st rfl ?_
  refine x_st rfl ?_
  refine x_st rfl ?_
  refine x_st rfl ?_
  refine x_st rfl ?_
  refine x_br rfl (fun h1 => ?_) (fun h1 => ?_)
  · sorry
  · sorry
end TRY1
