/-! THE RUNS -/
def rm_chk (o : Option rm_Re) : Bool := match o with
  | some (some (.int v), _, uc, us, _, ok) => decide (v = 1) && decide (uc ≤ 600000) && decide (us ≤ 7302250) && ok
  | _ => false
def rm_q0 : rm_N := (0, [(0, .retAddr 0)], [], [], 0, 0, [], true)
def rm_q1 : rm_N := (18, rm_lv1, [], rm_h1, rm_nc, rm_ns, [], true)
noncomputable def rm_runL (L : Nat) (F : rm_F) : Option rm_Re := rm_force true rm_q1 (rm_loop (rm_meth rm_P L F 13) rm_P rm_p_L_law L F 3000)
def rm_chk1 (o : Option rm_N) : Bool := match o with
  | some q => decide (q.1 = 18) && decide (q.2.1 = rm_lv1) && decide (q.2.2.1 = []) && rm_simh q.2.2.2.1 rm_h1 && decide (q.2.2.2.2.1 = rm_nc) && decide (q.2.2.2.2.2.1 = rm_ns) && q.2.2.2.2.2.2.2
  | none => false
set_option maxRecDepth 1000000 in
theorem rm_ctor : rm_chk1 (rm_till (rm_meth rm_P 1000000 [] 13) rm_P rm_p_L_law 1000000 [] 18 3000 rm_q0) = true := by decide +kernel
