/-! WHERE V FALLS BY TWO -/
theorem dcn_mono {P : List Int} {a h sg' X : Rat} {K : Nat} (hs : sg' = 1 ∨ sg' = -1) (up : ∀ i : Nat, i < K → 0 < sg' * (pev P (a + ((i + 1 : Nat) : Rat) * h) - pev P (a + (i : Rat) * h))) : ∀ j : Nat, j ≤ K → dcn P a h j = 0 ∨ (dcn P a h j = 1 ∧ 0 ≤ sg' * pev P (a + (j : Rat) * h)) := by
  intro j
  induction j with
  | zero => intro _; exact Or.inl rfl
  | succ j ih =>
    intro hj
    have i1 := ih (by omega)
    have u := up j (by omega)
    have st : dcn P a h (j + 1) = dcn P a h j + (if pev P (a + (j : Rat) * h) ≠ 0 ∧ pev P (a + (j : Rat) * h) * pev P (a + ((j + 1 : Nat) : Rat) * h) ≤ 0 then 1 else 0) := rfl
    generalize pev P (a + (j : Rat) * h) = x at *
    generalize pev P (a + ((j + 1 : Nat) : Rat) * h) = y at *
    have ss : sg' * sg' = 1 := by rcases hs with q | q <;> rw [q] <;> grind
    have xy : x * y = (sg' * x) * (sg' * y) := by
      have : (sg' * x) * (sg' * y) = (sg' * sg') * (x * y) := by grind
      rw [this, ss]; grind
    rcases i1 with q | ⟨q, q2⟩
    · by_cases c : x ≠ 0 ∧ x * y ≤ 0
      · rw [if_pos c] at st
        refine Or.inr ⟨by omega, ?_⟩
        refine Classical.byContradiction fun n => ?_
        have n1 : sg' * y < 0 := by grind
        have n2 : sg' * x < 0 := by grind
        have : 0 < (-(sg' * x)) * (-(sg' * y)) := Rat.mul_pos (by grind) (by grind)
        have := c.2
        rw [xy] at this
        grind
      · rw [if_neg c] at st
        exact Or.inl (by omega)
    · have y0 : 0 < sg' * y := by grind
      by_cases c : x ≠ 0 ∧ x * y ≤ 0
      · exfalso
        have x0 : sg' * x ≠ 0 := fun e => c.1 (by
          have : sg' * (sg' * x) = x := by
            have : sg' * (sg' * x) = (sg' * sg') * x := by grind
            rw [this, ss]; grind
          rw [e] at this
          grind)
        have : 0 < (sg' * x) * (sg' * y) := Rat.mul_pos (by grind) y0
        have := c.2
        rw [xy] at this
        grind
      · rw [if_neg c] at st
        exact Or.inr ⟨by omega, by grind⟩
/-- a value and a derivative as small as one likes -/
theorem sep_near {c : Nat → List Int} {m : Nat} (hs : stu c m) {a b ep : Rat} (hab : a < b) (he : 0 < ep) (hV : 2 ≤ vst c m a - vst c m b) : ∃ y z : Rat, (a ≤ y ∧ y ≤ b) ∧ (a ≤ z ∧ z ≤ b) ∧ rb (pev (pdl (c 0)) y) ep ∧ rb (pev (c 0) z) ep := by
  obtain ⟨q1, q2, q3⟩ := sq_rb a b
  obtain ⟨X, hX⟩ : ∃ X, X = a * a + b * b + 1 := ⟨_, rfl⟩
  rw [← hX] at q1 q2 q3
  obtain ⟨d1, d10, hd1⟩ := sturm_grid hs X q3
  have L1 := b1_nn q3 (c 0)
  have L2 := b2_nn q3 (c 0)
  have L3 := b1_nn q3 (pdl (c 0))
  obtain ⟨T, hT⟩ : ∃ T, T = b1 (c 0) X + b2 (c 0) X + b1 (pdl (c 0)) X + 1 := ⟨_, rfl⟩
  have i0 : 0 < ep⁻¹ := Rat.inv_pos.2 he
  have i1 : ep * ep⁻¹ = 1 := Rat.mul_inv_cancel _ (by grind)
  obtain ⟨d2, d20, hd2⟩ := narrow (T := T * ep⁻¹) (Rat.mul_nonneg (by grind) (by grind))
  obtain ⟨d, d0, l1, l2⟩ : ∃ d : Rat, 0 < d ∧ d ≤ d1 ∧ d ≤ d2 := by
    by_cases c1 : d1 ≤ d2
    · exact ⟨d1, d10, by grind, c1⟩
    · exact ⟨d2, d20, by grind, by grind⟩
  obtain ⟨K, h, K1, h0, hh, eb⟩ := steps (a := a) (b := b) hab d0
  have w := (hd1 a h K h0 (by grind) q1 (by rw [eb]; exact q2)).1 K (Nat.le_refl _)
  rw [eb] at w
  have hTe : h * T ≤ ep := by
    have z := hd2 h (by grind) (by grind)
    have : 0 < (1 - T * ep⁻¹ * h) * ep := Rat.mul_pos (by grind) he
    have e3 : T * ep⁻¹ * h * ep = T * h * (ep * ep⁻¹) := by grind
    rw [i1] at e3
    grind
  have pos : ∀ j : Nat, j ≤ K → a ≤ a + (j : Rat) * h ∧ a + (j : Rat) * h ≤ b := fun j jK => by
    have p1 : 0 ≤ (j : Rat) * h := Rat.mul_nonneg (rat_nn j) (by grind)
    have p2 : 0 ≤ ((K : Rat) - (j : Rat)) * h := Rat.mul_nonneg (by have := rat_le jK; grind) (by grind)
    constructor
    · grind
    · grind
  have inX : ∀ j : Nat, j ≤ K → rb (a + (j : Rat) * h) X := fun j jK => by
    have p := pos j jK
    have p1 := p.1
    have p2 := p.2
    have r1 := q1.1
    have r2 := q2.2
    constructor
    · grind
    · grind
  have ce : ∀ j : Nat, j < K → cell X h (a + (j : Rat) * h) (a + ((j + 1 : Nat) : Rat) * h) := fun j hj => by
    refine ⟨inX j (by omega), inX (j + 1) hj, ?_, ?_⟩
    · rw [rat_s]; grind
    · rw [rat_s]; grind
  -- a point with a small value
  obtain ⟨z, z1, z2⟩ : ∃ z : Rat, (a ≤ z ∧ z ≤ b) ∧ rb (pev (c 0) z) ep := by
    refine Classical.byContradiction fun hn => ?_
    have nz : ∀ j : Nat, j ≤ K → dcn (c 0) a h j = 0 := by
      intro j
      induction j with
      | zero => intro _; rfl
      | succ j ih =>
        intro hj
        show dcn (c 0) a h j + (if pev (c 0) (a + (j : Rat) * h) ≠ 0 ∧ pev (c 0) (a + (j : Rat) * h) * pev (c 0) (a + ((j + 1 : Nat) : Rat) * h) ≤ 0 then 1 else 0) = 0
        rw [ih (by omega), if_neg ?_]
        · rfl
        · rintro ⟨_, n2⟩
          refine hn ⟨_, pos j (by omega), rb_mono (uns (ce j hj) n2) ?_⟩
          have : 0 ≤ h * (b2 (c 0) X + b1 (pdl (c 0)) X + 1) := Rat.mul_nonneg (by grind) (by grind)
          rw [hT] at hTe
          grind
    have := nz K (Nat.le_refl _)
    omega
  -- a point with a small derivative
  obtain ⟨y, y1, y2⟩ : ∃ y : Rat, (a ≤ y ∧ y ≤ b) ∧ rb (pev (pdl (c 0)) y) ep := by
    refine Classical.byContradiction fun hn => ?_
    have nb : ∀ j : Nat, j ≤ K → ¬ rb (pev (pdl (c 0)) (a + (j : Rat) * h)) (h * T) := fun j hj q => hn ⟨_, pos j hj, rb_mono q hTe⟩
    have keep : ∀ j : Nat, j < K → ¬ (pev (pdl (c 0)) (a + (j : Rat) * h) * pev (pdl (c 0)) (a + ((j + 1 : Nat) : Rat) * h) ≤ 0) := fun j hj q => nb j (by omega) (rb_mono (uns (ce j hj) q) (by
      have : 0 ≤ h * (b1 (c 0) X + b2 (c 0) X + 1) := Rat.mul_nonneg (by grind) (by grind)
      rw [hT]
      grind))
    have e0 : a + ((0 : Nat) : Rat) * h = a := by
      have : ((0 : Nat) : Rat) = 0 := rfl
      rw [this]; grind
    obtain ⟨sg', hsg, hpos⟩ : ∃ sg' : Rat, (sg' = 1 ∨ sg' = -1) ∧ 0 < sg' * pev (pdl (c 0)) a := by
      have n0 := nb 0 (by omega)
      rw [e0] at n0
      have hT0 : 0 ≤ h * T := Rat.mul_nonneg (by grind) (by grind)
      rcases rsg_c (pev (pdl (c 0)) a) with ⟨w1, _⟩ | ⟨w1, _⟩ | ⟨w1, _⟩
      · exact absurd (show rb (pev (pdl (c 0)) a) (h * T) from ⟨by rw [w1]; grind, by rw [w1]; exact hT0⟩) n0
      · exact ⟨1, Or.inl rfl, by grind⟩
      · exact ⟨-1, Or.inr rfl, by grind⟩
    have ss : sg' * sg' = 1 := by rcases hsg with q | q <;> rw [q] <;> grind
    have allpos : ∀ j : Nat, j ≤ K → 0 < sg' * pev (pdl (c 0)) (a + (j : Rat) * h) := by
      intro j
      induction j with
      | zero => intro _; rw [e0]; exact hpos
      | succ j ih =>
        intro hj
        have i1 := ih (by omega)
        have k1 := keep j hj
        refine Classical.byContradiction fun n => k1 ?_
        generalize pev (pdl (c 0)) (a + (j : Rat) * h) = u at *
        generalize pev (pdl (c 0)) (a + ((j + 1 : Nat) : Rat) * h) = v at *
        have : 0 ≤ (sg' * u) * (-(sg' * v)) := Rat.mul_nonneg (by grind) (by grind)
        have e : (sg' * u) * (sg' * v) = (sg' * sg') * (u * v) := by grind
        rw [ss] at e
        grind
    have up : ∀ i : Nat, i < K → 0 < sg' * (pev (c 0) (a + ((i + 1 : Nat) : Rat) * h) - pev (c 0) (a + (i : Rat) * h)) := by
      intro i hi
      obtain ⟨e, e1, e2⟩ := pev_t2 (inX (i + 1) hi) (inX i (by omega)) (c 0)
      have p := allpos i (by omega)
      have n := nb i (by omega)
      have dh : a + ((i + 1 : Nat) : Rat) * h - (a + (i : Rat) * h) = h := by rw [rat_s]; grind
      rw [dh] at e2
      rw [e2]
      generalize pev (pdl (c 0)) (a + (i : Rat) * h) = u at *
      generalize pev (c 0) (a + (i : Rat) * h) = g at *
      have big : h * T < sg' * u := by
        refine Classical.byContradiction fun q => n ?_
        rcases hsg with w1 | w1
        · rw [w1] at p q
          exact ⟨by grind, by grind⟩
        · rw [w1] at p q
          exact ⟨by grind, by grind⟩
      have e3 : rb (h * (sg' * e)) (h * b2 (c 0) X) := by
        refine rb_mul ⟨by grind, by grind⟩ ?_
        rcases hsg with w1 | w1
        · rw [w1]
          have : (1 : Rat) * e = e := by grind
          rw [this]; exact e1
        · rw [w1]
          have : (-1 : Rat) * e = -e := by grind
          rw [this]; exact rb_neg e1
      have e4 := e3.1
      have e5 : 0 ≤ h * (b1 (c 0) X + b1 (pdl (c 0)) X + 1) := Rat.mul_nonneg (by grind) (by grind)
      have e6 : 0 < sg' * u + h * (sg' * e) := by
        rw [hT] at big
        grind
      have e7 : sg' * (g + h * u + h * h * e - g) = h * (sg' * u + h * (sg' * e)) := by grind
      rw [e7]
      exact Rat.mul_pos h0 e6
    have fin := dcn_mono (X := X) hsg up K (Nat.le_refl _)
    omega
  exact ⟨y, z, y1, z1, y2, z2⟩
theorem limit {A R : Rat} (hR : 0 ≤ R) (h : ∀ e : Rat, 0 < e → e ≤ 1 → 1 ≤ A + e * R) : 1 ≤ A := by
  refine Classical.byContradiction fun n => ?_
  have p : 0 < 1 - A := by grind
  have i0 : 0 < (1 - A)⁻¹ := Rat.inv_pos.2 p
  have i1 : (1 - A) * (1 - A)⁻¹ = 1 := Rat.mul_inv_cancel _ (by grind)
  obtain ⟨d, d0, hd⟩ := narrow (T := R * (1 - A)⁻¹) (Rat.mul_nonneg hR (by grind))
  obtain ⟨e, e0, e1, e2⟩ : ∃ e : Rat, 0 < e ∧ e ≤ 1 ∧ e ≤ d := by
    by_cases c : d ≤ 1
    · exact ⟨d, d0, c, by grind⟩
    · exact ⟨1, by grind, by grind, by grind⟩
  have z := hd e (by grind) e2
  have w := h e e0 e1
  have : 0 < (1 - R * (1 - A)⁻¹ * e) * (1 - A) := Rat.mul_pos (by grind) p
  have e3 : R * (1 - A)⁻¹ * e * (1 - A) = e * R * ((1 - A) * (1 - A)⁻¹) := by grind
  rw [i1] at e3
  grind
/-- so two falls are far apart -/
theorem sep_far {c : Nat → List Int} {m : Nat} (hs : stu c m) {O Kf u v : List Int} {s : Int} (s0 : s ≠ 0) (hO : ∀ x : Rat, pev O x = pev (c 0) x * pev Kf x) (hb : ∀ x : Rat, (s : Rat) = pev u x * pev O x + pev v x * pev (pdl O) x) {a b X : Rat} (hab : a < b) (hw : b - a ≤ 1) (ha : rb a X) (hbX : rb b X) (hV : 2 ≤ vst c m a - vst c m b) : 1 ≤ (b - a) * (b - a) * (b2 (c 0) X * (b0 u X * b0 Kf X + b0 v X * b0 (pdl Kf) X)) := by
  have hX := rb_0 ha
  have P2 := b2_nn hX (c 0)
  have U0 := b0_nn hX u
  have V0 := b0_nn hX v
  have K0 := b0_nn hX Kf
  have K1 := b0_nn hX (pdl Kf)
  have UK := Rat.mul_nonneg U0 K0
  have VK1 := Rat.mul_nonneg V0 K1
  have VK0 := Rat.mul_nonneg V0 K0
  refine limit (R := 2 * (b0 u X * b0 Kf X + b0 v X * b0 (pdl Kf) X) + b0 v X * b0 Kf X) (by grind) (fun ep e0 e1 => ?_)
  obtain ⟨y, z, y1, z1, y2, z2⟩ := sep_near hs hab e0 hV
  have inX : ∀ x : Rat, a ≤ x → x ≤ b → rb x X := fun x h1 h2 => ⟨by have := ha.1; grind, by have := hbX.2; grind⟩
  have hy := inX y y1.1 y1.2
  have hz := inX z z1.1 z1.2
  obtain ⟨e, f1, f2⟩ := pev_t2 hz hy (c 0)
  have zy : rb (z - y) (b - a) := ⟨by have := z1.1; have := y1.2; grind, by have := z1.2; have := y1.1; grind⟩
  have t1 := rb_mul zy y2
  have t2 := rb_mul (rb_mul zy zy) f1
  have Py : rb (pev (c 0) y) (ep + (b - a) * ep + (b - a) * (b - a) * b2 (c 0) X) := by
    have e3 : pev (c 0) y = pev (c 0) z + -((z - y) * pev (pdl (c 0)) y) + -((z - y) * (z - y) * e) := by grind
    rw [e3]
    exact rb_add (rb_add z2 (rb_neg t1)) (rb_neg t2)
  obtain ⟨B, hB⟩ : ∃ B, B = 2 * ep + (b - a) * (b - a) * b2 (c 0) X := ⟨_, rfl⟩
  have Py2 : rb (pev (c 0) y) B := rb_mono Py (by
    have : 0 ≤ (1 - (b - a)) * ep := Rat.mul_nonneg (by grind) (by grind)
    grind)
  have Oy : rb (pev O y) (B * b0 Kf X) := by rw [hO y]; exact rb_mul Py2 (pev_rb hy Kf)
  have dO : pev (pdl O) y = pev (pdl (c 0)) y * pev Kf y + pev (c 0) y * pev (pdl Kf) y := by
    rw [← pdl_mul]
    exact pdl_co (pev_inj (fun x => by rw [pmul_ev]; exact hO x)) y
  have Oy' : rb (pev (pdl O) y) (ep * b0 Kf X + B * b0 (pdl Kf) X) := by
    rw [dO]
    exact rb_add (rb_mul y2 (pev_rb hy Kf)) (rb_mul Py2 (pev_rb hy (pdl Kf)))
  have tot := rb_add (rb_mul (pev_rb hy u) Oy) (rb_mul (pev_rb hy v) Oy')
  rw [← hb y] at tot
  have fin := int_ge1 s0 tot
  rw [hB] at fin
  grind
