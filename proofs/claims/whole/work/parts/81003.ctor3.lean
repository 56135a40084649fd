/-! more of what the constructors leave -/
def k3_h (h : rm_H) : Bool := decide (hf_i (h[0]?) 3 = 0) && decide (hf_i (h[0]?) 1 = 0) && decide (hf_i (h[0]?) 2 = -2) && decide (hf_i (h[582]?) 2 = 0) && decide (hf_i (h[582]?) 3 = -2) && decide (hf_i (h[247]?) 3 = 251) && decide (hf_i (h[247]?) 4 = 252)
def k3_ok (o : Option gx_N) : Bool := match o with
  | some q => k3_h q.2.2.2.1.reverse
  | none => false
set_option maxRecDepth 1000000 in
theorem k3_ctor : k3_ok gx_run = true := by decide +kernel
def st3 (s : im_S) : Prop := s.1 0 3 = 0 ∧ s.1 0 1 = 0 ∧ s.1 0 2 = -2 ∧ s.1 582 2 = 0 ∧ s.1 582 3 = -2 ∧ s.1 247 3 = 251 ∧ s.1 247 4 = 252
theorem k3_s {h : rm_H} (z : k3_h h = true) : st3 (hS_ h) := by
  unfold k3_h at z
  simp only [Bool.and_eq_true, decide_eq_true_eq] at z
  obtain ⟨⟨⟨⟨⟨⟨a, b⟩, c⟩, d⟩, e⟩, f⟩, g⟩ := z
  exact ⟨a, b, c, d, e, f, g⟩
theorem gx_start3 : ∃ (q : gx_N) (s0 : im_S), gx_run = some q ∧ q.1 = 18 ∧ q.2.1 = fx_lv1 ∧ q.2.2.1 = [] ∧ q.2.2.2.1.reverse = im_ch gG s0 ∧ tI s0 ∧ vI s0 ∧ (∀ b : Nat, gK[b]? = some 23 → s0.1 b 1 = 0) ∧ s0.1 0 0 = 0 ∧ wgf s0 1 = 0 ∧ wgf s0 5 = 0 ∧ q.2.2.2.2.2.1 ≤ 600000 ∧ q.2.2.2.2.2.2 ≤ 7302250 ∧ KP s0 ∧ st3 s0 := by
  have z := gx_ctor
  have y := k_ctor
  have y3 := k3_ctor
  unfold gx_ok at z
  split at z
  · rename_i q hq
    rw [hq] at y y3
    unfold gx_ckh at z
    simp only [Bool.and_eq_true, decide_eq_true_eq] at z
    obtain ⟨⟨⟨⟨⟨z1, z2⟩, z3⟩, z8⟩, z9⟩, ⟨⟨z4, z5⟩, z6⟩, z7⟩ := z
    obtain ⟨h1, h2, h3, h4⟩ := heap0_ok z4
    exact ⟨q, hS_ q.2.2.2.1.reverse, hq, Nat.eq_of_beq_eq_true z1, z2, z3, h1.symm, h2, h3, h4, z5, z6, z7, Nat.le_of_ble_eq_true z8, Nat.le_of_ble_eq_true z9, k_h_s y, k3_s y3⟩
  · cases z
