/-! the constructors, run -/
def gx_q0 : gx_N := (0, [(0, .retAddr 0)], [], [], 0, 0, 0)
def fx_lv1 : rm_L := [(3, .int 0), (2, .ref 582), (1, .ref 0), (0, .retAddr 0)]
def gx_ckh (h : rm_H) : Bool := ck_all gK gG h && decide (hf_i (h[0]?) 0 = 0) && decide (hf_i (h[582]?) 1 = 0) && decide (hf_i (h[582]?) 5 = 0)
def gx_ok (o : Option gx_N) : Bool := match o with
  | some q => Nat.beq q.1 18 && decide (q.2.1 = fx_lv1) && decide (q.2.2.1 = []) && Nat.ble q.2.2.2.2.2.1 600000 && Nat.ble q.2.2.2.2.2.2 7302250 && gx_ckh q.2.2.2.1.reverse
  | none => false
noncomputable def gx_run : Option gx_N := gx_till (gx_call rm_P 1000000 (fun _ => 0) 5000 13) rm_P rm_p_L_law 1000000 (fun _ => 0) 18 100 gx_q0
set_option maxRecDepth 1000000 in
theorem gx_ctor : gx_ok gx_run = true := by decide +kernel
