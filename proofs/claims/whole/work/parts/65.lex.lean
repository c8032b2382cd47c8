/-! test -/
structure yT0 where
  tk : Nat
  val : Nat
theorem yT0_x (g : yT0) : ({ g with tk := 3 } : yT0).val = g.val := rfl
