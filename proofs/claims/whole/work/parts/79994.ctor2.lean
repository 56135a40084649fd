/-! THE CONSTRUCTORS, once more: KP holds behind them -/
def k_one (a : Nat) (d : im_D) (c : va_E) : Bool := match d with
  | (0, ci, _) => cT.all (fun p => !(Nat.beq p.1 ci) || decide (hf_i (some c) p.2.1 = ((if p.2.2 = 0 then a + 1 else p.2.2 : Nat) : Int)))
  | _ => true
def k_all : Nat → List im_D → rm_H → Bool
  | a, d :: ds, c :: cs => k_one a d c && k_all (a + 1) ds cs
  | _, [], _ => true
  | _, _ :: _, [] => false
theorem k_all_s : ∀ {n : Nat} {G : List im_D} {h : rm_H}, k_all n G h = true → ∀ (a : Nat) (d : im_D), G[a]? = some d → ∃ c, h[a]? = some c ∧ k_one (n + a) d c = true
  | n, [], h, _, a, d, e => by simp at e
  | n, _ :: _, [], z, a, d, e => by cases z
  | n, d' :: ds, c :: cs, z, a, d, e => by
    have z : (k_one n d' c && k_all (n + 1) ds cs) = true := z
    simp only [Bool.and_eq_true] at z
    cases a with
    | zero =>
      have e : some d' = some d := e
      cases e
      exact ⟨c, rfl, z.1⟩
    | succ a =>
      obtain ⟨w, w1, w2⟩ := k_all_s z.2 a d (by simpa using e)
      exact ⟨w, by simpa using w1, by rw [show n + (a + 1) = n + 1 + a by omega]; exact w2⟩
def k_row (h : rm_H) : Bool := cU.all (fun p => (List.range p.2.2.2).all (fun i => decide (hr_i (h[p.1]?) i = ((p.2.1 + p.2.2.1 * i : Nat) : Int))))
def k_o (h : rm_H) : Bool := decide (hf_i (h[308]?) 1 = 1) && decide (hf_i (h[308]?) 2 = 1) && decide (hr_i (h[309]?) 0 = 1) && decide (hf_i (h[553]?) 1 = 1) && decide (hf_i (h[553]?) 2 = 1) && decide (hr_i (h[554]?) 0 = 1)
def k_m (h : rm_H) : Bool := decide (hf_i (h[83]?) 13 = 569) && decide (hf_i (h[83]?) 14 = 571) && decide (hf_i (h[83]?) 15 = 573) && decide (hf_i (h[83]?) 16 = 575) && decide (hf_i (h[247]?) 3 = 251) && decide (hf_i (h[247]?) 4 = 252)
def k_s (h : rm_H) : Bool := (List.range 27).all (fun i => decide (hf_i (h[5 + 2 * i]?) 0 ≤ 8) && (List.range 9).all (fun k => decide (-1000000000 ≤ hr_i (h[6 + 2 * i]?) k) && decide (hr_i (h[6 + 2 * i]?) k ≤ 1000000000)))
def k_h (h : rm_H) : Bool := k_all 0 gG h && k_row h && k_o h && k_m h && k_s h
def k_ok (o : Option gx_N) : Bool := match o with
  | some q => k_h q.2.2.2.1.reverse
  | none => false
set_option maxRecDepth 1000000 in
theorem k_ctor : k_ok gx_run = true := by decide +kernel
theorem k_h_s {h : rm_H} (z : k_h h = true) : KP (hS_ h) := by
  unfold k_h at z
  simp only [Bool.and_eq_true] at z
  obtain ⟨⟨⟨⟨z1, z2⟩, z3⟩, z4⟩, z5⟩ := z
  unfold k_o at z3
  unfold k_m at z4
  simp only [Bool.and_eq_true, decide_eq_true_eq] at z3 z4
  obtain ⟨⟨⟨⟨⟨a1, a2⟩, a3⟩, a4⟩, a5⟩, a6⟩ := z3
  obtain ⟨⟨⟨⟨⟨b1, b2⟩, b3⟩, b4⟩, b5⟩, b6⟩ := z4
  refine ⟨⟨⟨fun a ci tys ha f v hm => ?_, fun c b k n hm i hi => ?_⟩, ⟨⟨a1, a2, a3⟩, a4, a5, a6⟩, ⟨⟨Or.inl b1, Or.inr (Or.inl b2), Or.inr (Or.inr (Or.inl b3)), Or.inr (Or.inr (Or.inr b4))⟩, Or.inl b5, Or.inr b6⟩⟩, ⟨fun i hi => ?_, fun i hi k hk => ?_⟩, 569, 571, 573, 575, ⟨b1, b2, b3, b4⟩, ?_, by decide, by decide, by decide, by decide, by decide, by decide⟩
  · obtain ⟨c, c1, c2⟩ := k_all_s z1 a _ ha
    rw [Nat.zero_add] at c2
    have c2 : cT.all (fun p => !(Nat.beq p.1 ci) || decide (hf_i (some c) p.2.1 = ((if p.2.2 = 0 then a + 1 else p.2.2 : Nat) : Int))) = true := c2
    have c3 := List.all_eq_true.mp c2 _ hm
    have e : Nat.beq ci ci = true := Nat.beq_refl ci
    simp only [e, Bool.not_true, Bool.false_or, decide_eq_true_eq] at c3
    show hf_i (h[a]?) f = _
    rw [c1]
    exact c3
  · have c3 := List.all_eq_true.mp (List.all_eq_true.mp z2 _ hm) i (List.mem_range.mpr hi)
    exact of_decide_eq_true c3
  · have c3 := List.all_eq_true.mp z5 i (List.mem_range.mpr hi)
    rw [Bool.and_eq_true] at c3
    exact of_decide_eq_true c3.1
  · have c3 := List.all_eq_true.mp z5 i (List.mem_range.mpr hi)
    rw [Bool.and_eq_true] at c3
    have c4 := List.all_eq_true.mp c3.2 k (List.mem_range.mpr hk)
    rw [Bool.and_eq_true] at c4
    exact ⟨of_decide_eq_true c4.1, of_decide_eq_true c4.2⟩
  · exact ⟨Or.inl rfl, Or.inr (Or.inl rfl), Or.inr (Or.inr (Or.inl rfl)), Or.inr (Or.inr (Or.inr rfl))⟩
/-- the state behind the constructors -/
theorem gx_start2 : ∃ (q : gx_N) (s0 : im_S), gx_run = some q ∧ q.1 = 18 ∧ q.2.1 = fx_lv1 ∧ q.2.2.1 = [] ∧ q.2.2.2.1.reverse = im_ch gG s0 ∧ tI s0 ∧ vI s0 ∧ (∀ b : Nat, gK[b]? = some 23 → s0.1 b 1 = 0) ∧ s0.1 0 0 = 0 ∧ wgf s0 1 = 0 ∧ wgf s0 5 = 0 ∧ q.2.2.2.2.2.1 ≤ 600000 ∧ q.2.2.2.2.2.2 ≤ 7302250 ∧ KP s0 := by
  have z := gx_ctor
  have y := k_ctor
  unfold gx_ok at z
  split at z
  · rename_i q hq
    rw [hq] at y
    unfold gx_ckh at z
    simp only [Bool.and_eq_true, decide_eq_true_eq] at z
    obtain ⟨⟨⟨⟨⟨z1, z2⟩, z3⟩, z8⟩, z9⟩, ⟨⟨z4, z5⟩, z6⟩, z7⟩ := z
    obtain ⟨h1, h2, h3, h4⟩ := heap0_ok z4
    exact ⟨q, hS_ q.2.2.2.1.reverse, hq, Nat.eq_of_beq_eq_true z1, z2, z3, h1.symm, h2, h3, h4, z5, z6, z7, Nat.le_of_ble_eq_true z8, Nat.le_of_ble_eq_true z9, k_h_s y⟩
  · cases z
