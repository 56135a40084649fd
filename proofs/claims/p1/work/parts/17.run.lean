/-! RUNS -/
noncomputable def rm_go (d L : Nat) (xs : Nat → Int32) (orc : List Nat) : Option rm_Re := rm_loop (rm_meth rm_P L xs d) rm_P rm_p_L_law L xs 3000 (0, [(0, .retAddr 0)], [], [], 0, 0, orc, true)
set_option maxRecDepth 1000000 in
theorem rm_try2 : (rm_go 13 0 (fun _ => 0) []).map (fun r => (r.1, r.2.2.1, r.2.2.2.1)) = some (some (.int 1), 619, 752415) := by decide +kernel
