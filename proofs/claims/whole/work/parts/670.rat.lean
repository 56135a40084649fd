/-! VALUES NEAR EACH OTHER -/
def rb (x B : Rat) : Prop := -B ≤ x ∧ x ≤ B
theorem rb_0 {x B : Rat} (h : rb x B) : 0 ≤ B := by
  have a := h.1
  have b := h.2
  grind
theorem rb_add {x y A B : Rat} (h1 : rb x A) (h2 : rb y B) : rb (x + y) (A + B) := by
  have a := h1.1
  have b := h1.2
  have c := h2.1
  have d := h2.2
  constructor <;> grind
theorem rb_neg {x A : Rat} (h : rb x A) : rb (-x) A := by
  have a := h.1
  have b := h.2
  constructor <;> grind
theorem rb_mono {x A B : Rat} (h : rb x A) (h2 : A ≤ B) : rb x B := by
  have a := h.1
  have b := h.2
  constructor <;> grind
theorem rb_mul {x y A B : Rat} (h1 : rb x A) (h2 : rb y B) : rb (x * y) (A * B) := by
  have a := h1.1
  have b := h1.2
  have c := h2.1
  have d := h2.2
  have p1 : 0 ≤ (A - x) * (B + y) := Rat.mul_nonneg (by grind) (by grind)
  have p2 : 0 ≤ (A + x) * (B - y) := Rat.mul_nonneg (by grind) (by grind)
  have p3 : 0 ≤ (A - x) * (B - y) := Rat.mul_nonneg (by grind) (by grind)
  have p4 : 0 ≤ (A + x) * (B + y) := Rat.mul_nonneg (by grind) (by grind)
  constructor <;> grind
theorem rb_int (a : Int) : rb (a : Rat) (a.natAbs : Rat) := by
  constructor
  · have h : -(a.natAbs : Int) ≤ a := by omega
    have h2 := Rat.intCast_le_intCast.2 h
    rw [Rat.intCast_neg] at h2
    exact h2
  · have h : a ≤ (a.natAbs : Int) := by omega
    exact Rat.intCast_le_intCast.2 h
def b0 : List Int → Rat → Rat
  | [], _ => 0
  | a :: p, X => (a.natAbs : Rat) + X * b0 p X
def b1 : List Int → Rat → Rat
  | [], _ => 0
  | _ :: p, X => b0 p X + X * b1 p X
def b2 : List Int → Rat → Rat
  | [], _ => 0
  | _ :: p, X => b1 p X + X * b2 p X
theorem natAbs_nn (a : Int) : (0 : Rat) ≤ (a.natAbs : Rat) := Rat.natCast_nonneg
theorem b0_nn {X : Rat} (hX : 0 ≤ X) : ∀ P : List Int, 0 ≤ b0 P X
  | [] => by show (0 : Rat) ≤ 0; grind
  | a :: p => by
    have h := Rat.mul_nonneg hX (b0_nn hX p)
    have h2 := natAbs_nn a
    show 0 ≤ (a.natAbs : Rat) + X * b0 p X
    grind
theorem b1_nn {X : Rat} (hX : 0 ≤ X) : ∀ P : List Int, 0 ≤ b1 P X
  | [] => by show (0 : Rat) ≤ 0; grind
  | a :: p => by
    have h := Rat.mul_nonneg hX (b1_nn hX p)
    have h2 := b0_nn hX p
    show 0 ≤ b0 p X + X * b1 p X
    grind
theorem b2_nn {X : Rat} (hX : 0 ≤ X) : ∀ P : List Int, 0 ≤ b2 P X
  | [] => by show (0 : Rat) ≤ 0; grind
  | a :: p => by
    have h := Rat.mul_nonneg hX (b2_nn hX p)
    have h2 := b1_nn hX p
    show 0 ≤ b1 p X + X * b2 p X
    grind
theorem pev_rb {x X : Rat} (hx : rb x X) : ∀ P : List Int, rb (pev P x) (b0 P X)
  | [] => by show rb 0 0; constructor <;> grind
  | a :: p => rb_add (rb_int a) (rb_mul hx (pev_rb hx p))
/-- differences of the first order -/
theorem pev_t1 {x y X : Rat} (hx : rb x X) (hy : rb y X) : ∀ P : List Int, ∃ d : Rat, rb d (b1 P X) ∧ pev P x - pev P y = (x - y) * d
  | [] => ⟨0, by show rb 0 0; constructor <;> grind, by show (0 : Rat) - 0 = _; grind⟩
  | a :: p => by
    obtain ⟨d, h1, h2⟩ := pev_t1 hx hy p
    refine ⟨pev p x + y * d, rb_add (pev_rb hx p) (rb_mul hy h1), ?_⟩
    show ((a : Rat) + x * pev p x) - ((a : Rat) + y * pev p y) = _
    grind
/-- and of the second -/
theorem pev_t2 {x y X : Rat} (hx : rb x X) (hy : rb y X) : ∀ P : List Int, ∃ e : Rat, rb e (b2 P X) ∧ pev P x = pev P y + (x - y) * pev (pdl P) y + (x - y) * (x - y) * e
  | [] => ⟨0, by show rb 0 0; constructor <;> grind, by
    show (0 : Rat) = 0 + (x - y) * 0 + _
    grind⟩
  | a :: p => by
    obtain ⟨e, h1, h2⟩ := pev_t2 hx hy p
    obtain ⟨d, h3, h4⟩ := pev_t1 hx hy p
    refine ⟨d + y * e, rb_add h3 (rb_mul hy h1), ?_⟩
    rw [pdl_cons]
    show (a : Rat) + x * pev p x = (a : Rat) + y * pev p y + _ + _
    have h5 : pev p x = pev p y + (x - y) * d := by grind
    have h6 : x * pev p x = y * pev p x + (x - y) * pev p x := by grind
    rw [h6]
    have h7 : y * pev p x = y * (pev p y + (x - y) * pev (pdl p) y + (x - y) * (x - y) * e) := by rw [h2]
    have h8 : (x - y) * pev p x = (x - y) * (pev p y + (x - y) * d) := by rw [← h5]
    rw [h7, h8]
    grind
/-! signs -/
def rsg (x : Rat) : Int := if x < 0 then -1 else if x = 0 then 0 else 1
theorem rsg_c (x : Rat) : (x = 0 ∧ rsg x = 0) ∨ (0 < x ∧ rsg x = 1) ∨ (x < 0 ∧ rsg x = -1) := by
  unfold rsg
  by_cases h : x < 0
  · rw [if_pos h]; exact Or.inr (Or.inr ⟨h, rfl⟩)
  · rw [if_neg h]
    by_cases h2 : x = 0
    · rw [if_pos h2]; exact Or.inl ⟨h2, rfl⟩
    · rw [if_neg h2]; exact Or.inr (Or.inl ⟨by grind, rfl⟩)
theorem rsg_int (X : Int) : sg X = rsg (X : Rat) := by
  have a := sg_c X
  have b := rsg_c (X : Rat)
  rcases a with ⟨h, e⟩ | ⟨h, e⟩ | ⟨h, e⟩
  · rcases b with ⟨h2, e2⟩ | ⟨h2, e2⟩ | ⟨h2, e2⟩
    · omega
    · rw [h, rat_i0] at h2; grind
    · rw [h, rat_i0] at h2; grind
  · have p := Rat.intCast_pos.2 h
    rcases b with ⟨h2, e2⟩ | ⟨h2, e2⟩ | ⟨h2, e2⟩
    · grind
    · omega
    · grind
  · have p : (X : Rat) < 0 := Rat.intCast_neg_iff.2 h
    rcases b with ⟨h2, e2⟩ | ⟨h2, e2⟩ | ⟨h2, e2⟩
    · grind
    · grind
    · omega
theorem rsg_mul {a x : Rat} (ha : 0 < a) : rsg (a * x) = rsg x := by
  have p := rsg_c x
  have q := rsg_c (a * x)
  rcases p with ⟨h, e⟩ | ⟨h, e⟩ | ⟨h, e⟩
  · rcases q with ⟨h2, e2⟩ | ⟨h2, e2⟩ | ⟨h2, e2⟩
    · omega
    · rw [h] at h2; grind
    · rw [h] at h2; grind
  · have m := Rat.mul_pos ha h
    rcases q with ⟨h2, e2⟩ | ⟨h2, e2⟩ | ⟨h2, e2⟩
    · grind
    · omega
    · grind
  · have m : 0 < a * (-x) := Rat.mul_pos ha (by grind)
    rcases q with ⟨h2, e2⟩ | ⟨h2, e2⟩ | ⟨h2, e2⟩
    · grind
    · grind
    · omega
theorem phm_ev {P : List Int} {p q : Int} {n : Nat} (hq : (q : Rat) ≠ 0) : ∀ j : Nat, j ≤ n → (phm P p q n j : Rat) = (q : Rat) ^ j * pev (pmk (j + 1) (fun i => pgt P (n - j + i))) ((p : Rat) / (q : Rat))
  | 0, _ => by
    show (pgt P n : Rat) = _
    have e : pev (pmk (0 + 1) (fun i => pgt P (n - 0 + i))) ((p : Rat) / (q : Rat)) = (pgt P n : Rat) + ((p : Rat) / (q : Rat)) * 0 := rfl
    rw [e]
    grind
  | j + 1, h => by
    have ih := phm_ev (P := P) (p := p) (n := n) hq j (by omega)
    show ((phm P p q n j * p + pgt P (n - (j + 1)) * q ^ (j + 1) : Int) : Rat) = _
    have e2 : pev (pmk (j + 1 + 1) (fun i => pgt P (n - (j + 1) + i))) ((p : Rat) / (q : Rat)) = (pgt P (n - (j + 1)) : Rat) + (p : Rat) / (q : Rat) * pev (pmk (j + 1) (fun i => pgt P (n - j + i))) ((p : Rat) / (q : Rat)) := by
      rw [pev_mks (j + 1), pmk_co (n := j + 1) (f := fun i => pgt P (n - (j + 1) + (i + 1))) (g := fun i => pgt P (n - j + i)) (fun i _ => by rw [show n - (j + 1) + (i + 1) = n - j + i by omega])]
      rfl
    rw [Rat.intCast_add, Rat.intCast_mul, Rat.intCast_mul, Rat.intCast_pow, ih, e2, Rat.pow_succ]
    have e : (p : Rat) / (q : Rat) * (q : Rat) = p := Rat.div_mul_cancel hq
    generalize pev (pmk (j + 1) (fun i => pgt P (n - j + i))) ((p : Rat) / (q : Rat)) = Z
    generalize (p : Rat) / (q : Rat) = x at e ⊢
    rw [← e]
    grind
theorem psg_ev {P : List Int} {p q : Int} (h1 : 1 ≤ P.length) (hq : 0 < q) : psg P p q = rsg (pev P ((p : Rat) / (q : Rat))) := by
  unfold psg
  obtain ⟨n, hn⟩ : ∃ n, P.length = n + 1 := ⟨P.length - 1, by omega⟩
  have q0 : (0 : Rat) < (q : Rat) := Rat.intCast_pos.2 hq
  have qn : (q : Rat) ≠ 0 := by grind
  rw [show P.length - 1 = n by omega, rsg_int, phm_ev qn n (Nat.le_refl _), rsg_mul (Rat.pow_pos q0), Nat.sub_self]
  have e : pmk (n + 1) (fun i => pgt P (0 + i)) = P := by
    rw [pmk_co (g := pgt P) (fun i _ => by rw [Nat.zero_add]), ← hn]
    exact pmk_self P
  rw [e]
