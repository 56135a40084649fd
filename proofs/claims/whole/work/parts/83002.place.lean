/-! A POLYNOMIAL AND ITS DERIVATIVE CAN'T BOTH BE SMALL: the two derivatives of the form of degree m + 1 -/
def gfx (m : Nat) (P : List Int) : List Int := pmk (m + 1) (fun j => ((m : Int) + 1 - (j : Int)) * pgt P j)
theorem gfx_e {m : Nat} {P : List Int} (hP : pdb P (m + 2)) (k : Nat) : pgt (gfx m P) k = pgt (padd (psm ((m : Int) + 1) P) (psm (-1) (0 :: pdl P))) k := by
  rw [padd_gt, psm_gt, psm_gt]
  unfold gfx
  rw [pmk_gt]
  cases k with
  | zero =>
    rw [if_pos (by omega)]
    show ((m : Int) + 1 - ((0 : Nat) : Int)) * pgt P 0 = ((m : Int) + 1) * pgt P 0 + -1 * 0
    rw [show ((0 : Nat) : Int) = 0 from rfl, Int.sub_zero, Int.mul_zero, Int.add_zero]
  | succ k =>
    show _ = ((m : Int) + 1) * pgt P (k + 1) + -1 * pgt (pdl P) k
    rw [pdl_gt]
    have ck : ((k + 1 : Nat) : Int) = (k : Int) + 1 := by omega
    by_cases c : k + 1 < m + 1
    · rw [if_pos c, ck]
      generalize pgt P (k + 1) = p
      grind
    · rw [if_neg c]
      by_cases c2 : k = m
      · subst c2
        generalize pgt P (k + 1) = p
        grind
      · rw [hP (k + 1) (by omega)]
        grind
theorem gfx_ev {m : Nat} {P : List Int} (hP : pdb P (m + 2)) (x : Rat) : pev (gfx m P) x = ((m : Rat) + 1) * pev P x - x * pev (pdl P) x := by
  rw [pev_eq (gfx_e hP) x, padd_ev, psm_ev, psm_ev]
  show (((m : Int) + 1 : Int) : Rat) * pev P x + ((-1 : Int) : Rat) * (((0 : Int) : Rat) + x * pev (pdl P) x) = _
  rw [Rat.intCast_add, rat_i1, Rat.intCast_natCast, rat_i0, show ((-1 : Int) : Rat) = -1 from rfl]
  generalize pev P x = a
  generalize pev (pdl P) x = b
  grind
theorem gfx_dv {m : Nat} {P : List Int} (hP : pdb P (m + 2)) (x : Rat) : pev (pdl (gfx m P)) x = (m : Rat) * pev (pdl P) x - x * pev (pdl (pdl P)) x := by
  rw [pdl_co (gfx_e hP) x, pdl_add, pdl_sm, pdl_sm, pdl_cons]
  rw [Rat.intCast_add, rat_i1, Rat.intCast_natCast, show ((-1 : Int) : Rat) = -1 from rfl]
  generalize pev (pdl P) x = a
  generalize pev (pdl (pdl P)) x = b
  grind
theorem pdl_bd {m H : Nat} {P : List Int} (hP : pdb P (m + 2)) (hH : pab P H) (j : Nat) : (pgt (pdl P) j).natAbs ≤ if j ≤ m then (j + 1) * H else 0 := by
  rw [pdl_gt]
  by_cases c : j ≤ m
  · rw [if_pos c, Int.natAbs_mul, Nat.mul_comm]
    have e : ((j : Int) + 1).natAbs = j + 1 := by omega
    rw [e]
    exact Nat.mul_le_mul_left _ (hH (j + 1))
  · rw [if_neg c, hP (j + 1) (by omega), Int.zero_mul]
    exact Nat.zero_le _
theorem gfx_bd {m H : Nat} {P : List Int} (hH : pab P H) (j : Nat) : (pgt (gfx m P) j).natAbs ≤ if j ≤ m then (m + 1 - j) * H else 0 := by
  unfold gfx
  rw [pmk_gt]
  by_cases c : j ≤ m
  · rw [if_pos c, if_pos (by omega), Int.natAbs_mul]
    have e : ((m : Int) + 1 - (j : Int)).natAbs = m + 1 - j := by omega
    rw [e]
    exact Nat.mul_le_mul_left _ (hH j)
  · rw [if_neg c, if_neg (by omega)]
    exact Nat.zero_le _
theorem rb_pow1 {l : Rat} (h : rb l 1) : ∀ i : Nat, rb (l ^ i) 1
  | 0 => by
    rw [show l ^ 0 = 1 by grind]
    constructor <;> decide
  | i + 1 => by
    rw [Rat.pow_succ]
    exact rb_mono (rb_mul (rb_pow1 h i) h) (by grind)
theorem rb_nat6 {i : Nat} (h : i ≤ 6) : rb (i : Rat) 6 := by
  have a := rat_nn i
  have b : (i : Rat) ≤ ((6 : Nat) : Rat) := rat_le h
  have c : ((6 : Nat) : Rat) = 6 := rfl
  rw [c] at b
  constructor <;> grind
theorem ex_mu {f0 f1 A w : Rat} (A0 : 0 < A) (h1 : f1 = A ∨ f1 = -A) (h0 : rb f0 (w * A)) : ∃ mu : Rat, mu * f1 = f0 ∧ rb mu w := by
  obtain ⟨a, b⟩ := h0
  have key : ∀ g : Rat, g ≤ w * A → -(w * A) ≤ g → rb (g / A) w := fun g g1 g2 => by
    constructor
    · refine Rat.not_lt.1 fun c => ?_
      have := (Rat.div_lt_iff A0).1 c
      grind
    · refine Rat.not_lt.1 fun c => ?_
      have := (Rat.lt_div_iff A0).1 c
      grind
  have An : A ≠ 0 := by grind
  rcases h1 with h1 | h1
  · exact ⟨f0 / A, by rw [h1]; exact Rat.div_mul_cancel An, key f0 b a⟩
  · refine ⟨(-f0) / A, ?_, key (-f0) (by grind) (by grind)⟩
    rw [h1]
    have := Rat.div_mul_cancel (a := -f0) An
    generalize (-f0) / A = q at this ⊢
    grind
/-- the first case: the second derivative is what counts -/
theorem fm_one {m H : Nat} {l w A a0 f0 f1 g0 g1 mu : Rat} (m7 : m ≤ 7) (hl : rb l 1) (w0 : 0 < w) (w1 : w * 1000000 ≤ 1) (A0 : 0 < A) (A1 : A ≤ 168 * (H : Rat)) (h1 : rb f1 A) (h0 : rb f0 (9 / 8 * (w * A))) (ha : rb a0 (2 * (w * w * A))) (e0 : g0 = ((m : Rat) + 1) * a0 - l * f0) (e1 : g1 = (m : Rat) * f0 - l * f1) (em : mu * f1 = f0) (hm : rb mu (9 / 8 * w)) (i : Nat) (hi : i < m + m) : rb (ca m l f0 g0 i - mu * cb m l f0 f1 g0 g1 i) (5544 * (H : Rat) * (w * w)) ∧ rb (cb m l f0 f1 g0 g1 i) (169 * (H : Rat)) := by
  have t1 : w * A * 1000000 ≤ A := by
    have := Rat.mul_le_mul_of_nonneg_right w1 (Rat.le_of_lt A0)
    grind
  have wa0 : 0 ≤ w * A := Rat.mul_nonneg (Rat.le_of_lt w0) (Rat.le_of_lt A0)
  have t2 : w * w * A * 1000000 ≤ w * A := by
    have := Rat.mul_le_mul_of_nonneg_right w1 wa0
    grind
  have ww0 : 0 ≤ w * w := Rat.mul_nonneg (Rat.le_of_lt w0) (Rat.le_of_lt w0)
  have wwa0 : 0 ≤ w * w * A := Rat.mul_nonneg ww0 (Rat.le_of_lt A0)
  have t3 : w * w * A ≤ 168 * (H : Rat) * (w * w) := by
    have := Rat.mul_le_mul_of_nonneg_right A1 ww0
    grind
  have hm7 : rb (m : Rat) 7 := by
    have a := rat_nn m
    have b : (m : Rat) ≤ ((7 : Nat) : Rat) := rat_le m7
    have c : ((7 : Nat) : Rat) = 7 := rfl
    rw [c] at b
    constructor <;> grind
  have hm8 : rb ((m : Rat) + 1) 8 := by
    obtain ⟨a, b⟩ := hm7
    constructor <;> grind
  have bg0 : rb g0 (8 * (2 * (w * w * A)) + 1 * (9 / 8 * (w * A))) := by
    rw [e0, Rat.sub_eq_add_neg]
    exact rb_add (rb_mul hm8 ha) (rb_neg (rb_mul hl h0))
  have bg1 : rb g1 (7 * (9 / 8 * (w * A)) + 1 * A) := by
    rw [e1, Rat.sub_eq_add_neg]
    exact rb_add (rb_mul hm7 h0) (rb_neg (rb_mul hl h1))
  unfold ca cb
  by_cases c : i < m
  · rw [if_pos c, if_pos c]
    have p := rb_pow1 hl i
    have q := rb_pow1 hl (i - 1)
    have hi6 := rb_nat6 (show i ≤ 6 by omega)
    generalize l ^ i = pi at p ⊢
    generalize l ^ (i - 1) = qi at q ⊢
    generalize (i : Rat) = I at hi6 ⊢
    constructor
    · have e : pi * f0 - mu * (I * qi * f0 + pi * f1) = -(mu * (I * qi * f0)) := by
        rw [← em]; grind
      rw [e]
      refine rb_neg (rb_mono (rb_mul hm (rb_mul (rb_mul hi6 q) h0)) ?_)
      have : 9 / 8 * w * (6 * 1 * (9 / 8 * (w * A))) = 243 / 32 * (w * w * A) := by grind
      rw [this]
      grind
    · refine rb_mono (rb_add (rb_mul (rb_mul hi6 q) h0) (rb_mul p h1)) ?_
      grind
  · rw [if_neg c, if_neg c]
    have p := rb_pow1 hl (i - m)
    have q := rb_pow1 hl (i - m - 1)
    have hi6 := rb_nat6 (show i - m ≤ 6 by omega)
    generalize l ^ (i - m) = pi at p ⊢
    generalize l ^ (i - m - 1) = qi at q ⊢
    generalize ((i - m : Nat) : Rat) = I at hi6 ⊢
    constructor
    · have e : pi * g0 - mu * (I * qi * g0 + pi * g1) = ((m : Rat) + 1) * (pi * a0) + -(mu * (I * qi * g0)) + -((m : Rat) * (mu * (pi * f0))) := by
        have z : mu * g1 = (m : Rat) * (mu * f0) - l * f0 := by rw [e1, ← em]; grind
        have z2 : pi * g0 = ((m : Rat) + 1) * (pi * a0) - pi * (l * f0) := by rw [e0]; grind
        have z3 : mu * (pi * g1) = pi * (mu * g1) := by grind
        rw [Rat.mul_add, z3, z, z2]
        grind
      rw [e]
      refine rb_mono (rb_add (rb_add (rb_mul hm8 (rb_mul p ha)) (rb_neg (rb_mul hm (rb_mul (rb_mul hi6 q) bg0)))) (rb_neg (rb_mul hm7 (rb_mul hm (rb_mul p h0))))) ?_
      have k1 : 9 / 8 * w * (6 * 1 * (8 * (2 * (w * w * A)) + 1 * (9 / 8 * (w * A)))) = 108 * (w * (w * w * A)) + 243 / 32 * (w * w * A) := by grind
      have k2 : 9 / 8 * w * (1 * (9 / 8 * (w * A))) = 81 / 64 * (w * w * A) := by grind
      have k3 : w * (w * w * A) * 1000000 ≤ w * w * A := by
        have := Rat.mul_le_mul_of_nonneg_right w1 wwa0
        grind
      rw [k1, k2]
      grind
    · refine rb_mono (rb_add (rb_mul (rb_mul hi6 q) bg0) (rb_mul p bg1)) ?_
      grind
/-- the second case: all three are small -/
theorem fm_two {m H : Nat} {l w ka a0 f0 f1 g0 g1 : Rat} (m7 : m ≤ 7) (hl : rb l 1) (w0 : 0 < w) (w1 : w * 1000000 ≤ 1) (k0 : 0 ≤ ka) (h1 : rb f1 (ka * w * (H : Rat))) (h0 : rb f0 (ka * w * w * (H : Rat))) (ha : rb a0 (ka * w * w * (H : Rat))) (e0 : g0 = ((m : Rat) + 1) * a0 - l * f0) (e1 : g1 = (m : Rat) * f0 - l * f1) (i : Nat) (hi : i < m + m) : rb (ca m l f0 g0 i - 0 * cb m l f0 f1 g0 g1 i) (9 * (ka * w * w * (H : Rat))) ∧ rb (cb m l f0 f1 g0 g1 i) (3 * (ka * w * (H : Rat))) := by
  have H0 := rat_nn H
  have x0 : 0 ≤ ka * w * (H : Rat) := Rat.mul_nonneg (Rat.mul_nonneg k0 (Rat.le_of_lt w0)) H0
  have t1 : ka * w * w * (H : Rat) * 1000000 ≤ ka * w * (H : Rat) := by
    have := Rat.mul_le_mul_of_nonneg_right w1 x0
    grind
  have y0 : 0 ≤ ka * w * w * (H : Rat) := Rat.mul_nonneg (Rat.mul_nonneg (Rat.mul_nonneg k0 (Rat.le_of_lt w0)) (Rat.le_of_lt w0)) H0
  generalize ka * w * (H : Rat) = X at h1 x0 t1 ⊢
  generalize ka * w * w * (H : Rat) = Y at h0 ha t1 y0 ⊢
  have hm7 : rb (m : Rat) 7 := by
    have a := rat_nn m
    have b : (m : Rat) ≤ ((7 : Nat) : Rat) := rat_le m7
    have c : ((7 : Nat) : Rat) = 7 := rfl
    rw [c] at b
    constructor <;> grind
  have hm8 : rb ((m : Rat) + 1) 8 := by
    obtain ⟨a, b⟩ := hm7
    constructor <;> grind
  have bg0 : rb g0 (8 * Y + 1 * Y) := by
    rw [e0, Rat.sub_eq_add_neg]
    exact rb_add (rb_mul hm8 ha) (rb_neg (rb_mul hl h0))
  have bg1 : rb g1 (7 * Y + 1 * X) := by
    rw [e1, Rat.sub_eq_add_neg]
    exact rb_add (rb_mul hm7 h0) (rb_neg (rb_mul hl h1))
  unfold ca cb
  by_cases c : i < m
  · rw [if_pos c, if_pos c]
    have p := rb_pow1 hl i
    have q := rb_pow1 hl (i - 1)
    have hi6 := rb_nat6 (show i ≤ 6 by omega)
    generalize l ^ i = pi at p ⊢
    generalize l ^ (i - 1) = qi at q ⊢
    generalize (i : Rat) = I at hi6 ⊢
    constructor
    · rw [Rat.zero_mul, Rat.sub_eq_add_neg, show -(0 : Rat) = 0 from rfl, Rat.add_zero]
      exact rb_mono (rb_mul p h0) (by grind)
    · exact rb_mono (rb_add (rb_mul (rb_mul hi6 q) h0) (rb_mul p h1)) (by grind)
  · rw [if_neg c, if_neg c]
    have p := rb_pow1 hl (i - m)
    have q := rb_pow1 hl (i - m - 1)
    have hi6 := rb_nat6 (show i - m ≤ 6 by omega)
    generalize l ^ (i - m) = pi at p ⊢
    generalize l ^ (i - m - 1) = qi at q ⊢
    generalize ((i - m : Nat) : Rat) = I at hi6 ⊢
    constructor
    · rw [Rat.zero_mul, Rat.sub_eq_add_neg, show -(0 : Rat) = 0 from rfl, Rat.add_zero]
      exact rb_mono (rb_mul p bg0) (by grind)
    · exact rb_mono (rb_add (rb_mul (rb_mul hi6 q) bg0) (rb_mul p bg1)) (by grind)
def injF (m : Nat) (P : List Int) : Prop := ∀ U V : List Int, pdb U m → pdb V m → (∀ x : Rat, pev U x * pev (pdl P) x + pev V x * pev (gfx m P) x = 0) → (∀ k, pgt U k = 0) ∧ ∀ k, pgt V k = 0
def tabP (m H Z : Nat) : Prop := 196 * 936936 * prn (m + m - 2) (fun e => sn (m + m) (wv m (e + 2))) * H ^ (m + m) < Z
/-- what can't be of P at l -/
def nearP (P : List Int) (H : Nat) (l w : Rat) : Prop := (∃ A : Rat, 0 < A ∧ A ≤ 168 * (H : Rat) ∧ (pev (pdl (pdl P)) l = A ∨ pev (pdl (pdl P)) l = -A) ∧ rb (pev (pdl P) l) (9 / 8 * (w * A)) ∧ rb (pev P l) (2 * (w * w * A))) ∨ (∃ ka : Rat, 0 ≤ ka ∧ ka * ka * w ≤ 1 ∧ rb (pev (pdl (pdl P)) l) (ka * w * (H : Rat)) ∧ rb (pev (pdl P) l) (ka * w * w * (H : Rat)) ∧ rb (pev P l) (ka * w * w * (H : Rat)))
theorem sep_pt {m H Z : Nat} {P : List Int} (m1 : 1 ≤ m) (m7 : m ≤ 7) (hP : pdb P (m + 2)) (hH : pab P H) (tab : tabP m H Z) (inj : injF m P) {l w : Rat} (hl : rb l 1) (w0 : 0 < w) (w1 : w * 1000000 ≤ 1) (wZ : w * w * (Z : Rat) ≤ 1) (h : nearP P H l w) : False := by
  have e0 := gfx_ev hP l
  have e1 := gfx_dv hP l
  have H0 := rat_nn H
  have HH : 0 ≤ 936936 * (H : Rat) * (H : Rat) := by
    have := Rat.mul_nonneg H0 H0
    grind
  rcases h with ⟨A, A0, A1, h1, h0, ha⟩ | ⟨ka, k0, k1, h1, h0, ha⟩
  · obtain ⟨mu, em, hm⟩ := ex_mu (w := 9 / 8 * w) A0 h1 (by rw [show 9 / 8 * w * A = 9 / 8 * (w * A) by grind]; exact h0)
    have r1 : rb (pev (pdl (pdl P)) l) A := by
      rcases h1 with q | q <;> rw [q] <;> constructor <;> grind
    have fm := fm_one m7 hl w0 w1 A0 A1 r1 h0 ha e0 e1 em hm
    refine sep_core m1 m7 (pdl_bd hP hH) (gfx_bd hH) tab inj (l := l) (mu := mu) (fun i hi => (fm i hi).1) (fun i hi => (fm i hi).2) ?_
    have q := Rat.mul_le_mul_of_nonneg_left wZ HH
    have e : 5544 * (H : Rat) * (w * w) * (169 * (H : Rat)) * (Z : Rat) = 936936 * (H : Rat) * (H : Rat) * (w * w * (Z : Rat)) := by
      generalize (H : Rat) = h
      generalize (Z : Rat) = z
      grind
    rw [e]
    grind
  · have fm := fm_two (H := H) m7 hl w0 w1 k0 h1 h0 ha e0 e1
    refine sep_core m1 m7 (pdl_bd hP hH) (gfx_bd hH) tab inj (l := l) (mu := 0) (fun i hi => (fm i hi).1) (fun i hi => (fm i hi).2) ?_
    have hh := Rat.mul_nonneg H0 H0
    have kk : 0 ≤ ka * ka * w := Rat.mul_nonneg (Rat.mul_nonneg k0 k0) (Rat.le_of_lt w0)
    have q1 := Rat.mul_le_mul_of_nonneg_left wZ kk
    have q2 : ka * ka * w * (w * w * (Z : Rat)) ≤ 1 := by grind
    have q3 := Rat.mul_le_mul_of_nonneg_right q2 hh
    have e : 9 * (ka * w * w * (H : Rat)) * (3 * (ka * w * (H : Rat))) * (Z : Rat) = 27 * (ka * ka * w * (w * w * (Z : Rat)) * ((H : Rat) * (H : Rat))) := by
      generalize (H : Rat) = h
      generalize (Z : Rat) = z
      grind
    rw [e]
    grind
