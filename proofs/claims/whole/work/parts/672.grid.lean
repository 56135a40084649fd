/-! STURM'S CHAIN: any interval in narrow cells -/
def dcn (P : List Int) (a h : Rat) : Nat → Int
  | 0 => 0
  | j + 1 => dcn P a h j + (if pev P (a + (j : Rat) * h) ≠ 0 ∧ pev P (a + (j : Rat) * h) * pev P (a + ((j + 1 : Nat) : Rat) * h) ≤ 0 then 1 else 0)
theorem dcn_nn (P : List Int) (a h : Rat) : ∀ j, 0 ≤ dcn P a h j
  | 0 => Int.le_refl 0
  | j + 1 => by
    have := dcn_nn P a h j
    show 0 ≤ dcn P a h j + _
    split <;> omega
theorem rat_s (j : Nat) : ((j + 1 : Nat) : Rat) = (j : Rat) + 1 := by
  rw [Rat.natCast_add]; rfl
theorem rat_nn (j : Nat) : (0 : Rat) ≤ (j : Rat) := Rat.natCast_nonneg
theorem rat_le {i j : Nat} (h : i ≤ j) : (i : Rat) ≤ (j : Rat) := Rat.natCast_le_natCast.2 h
theorem sturm_grid {c : Nat → List Int} {m : Nat} (hs : stu c m) (X : Rat) (hX : 0 ≤ X) : ∃ d : Rat, 0 < d ∧ ∀ (a h : Rat) (K : Nat), 0 < h → h ≤ d → rb a X → rb (a + (K : Rat) * h) X → (∀ j, j ≤ K → vst c m a - vst c m (a + (j : Rat) * h) = dcn (c 0) a h j) ∧ ∀ j, j < K → ¬ (pev (c 0) (a + (j : Rat) * h) = 0 ∧ pev (c 0) (a + ((j + 1 : Nat) : Rat) * h) = 0) := by
  obtain ⟨d, d0, hd⟩ := sturm_cell hs X hX
  refine ⟨d, d0, fun a h K h0 hh ha hb => ?_⟩
  have inb : ∀ j : Nat, j ≤ K → rb (a + (j : Rat) * h) X := fun j hj => by
    have p1 : 0 ≤ (j : Rat) * h := Rat.mul_nonneg (rat_nn j) (by grind)
    have p2 : 0 ≤ ((K : Rat) - (j : Rat)) * h := Rat.mul_nonneg (by have := rat_le hj; grind) (by grind)
    have q1 := ha.1
    have q2 := hb.2
    constructor
    · grind
    · grind
  have ce : ∀ j : Nat, j < K → cell X d (a + (j : Rat) * h) (a + ((j + 1 : Nat) : Rat) * h) := fun j hj => by
    refine ⟨inb j (by omega), inb (j + 1) hj, ?_, ?_⟩
    · rw [rat_s]; grind
    · rw [rat_s]; grind
  refine ⟨fun j => ?_, fun j hj => (hd _ _ (ce j hj)).2⟩
  induction j with
  | zero =>
    intro _
    have e : a + ((0 : Nat) : Rat) * h = a := by
      have : ((0 : Nat) : Rat) = 0 := rfl
      rw [this]; grind
    rw [e]
    show vst c m a - vst c m a = 0
    omega
  | succ j ih =>
    intro hj
    have i1 := ih (by omega)
    have i2 := (hd _ _ (ce j (by omega))).1
    show _ = dcn (c 0) a h j + (if pev (c 0) (a + (j : Rat) * h) ≠ 0 ∧ pev (c 0) (a + (j : Rat) * h) * pev (c 0) (a + ((j + 1 : Nat) : Rat) * h) ≤ 0 then 1 else 0)
    omega
/-- as many steps as one likes -/
theorem steps {a b d : Rat} (hab : a < b) (hd : 0 < d) : ∃ (K : Nat) (h : Rat), 1 ≤ K ∧ 0 < h ∧ h ≤ d ∧ a + (K : Rat) * h = b := by
  have q0 : 0 < (b - a) / d := by
    rw [Rat.div_def]
    exact Rat.mul_pos (by grind) (Rat.inv_pos.2 hd)
  have q1 : ((b - a) / d).ceil ≥ 1 := by
    have z : (b - a) / d ≤ (((b - a) / d).ceil : Rat) := Rat.le_ceil
    have z2 : (0 : Rat) < (((b - a) / d).ceil : Rat) := by grind
    have := Rat.intCast_pos.1 z2
    omega
  obtain ⟨K, hK⟩ : ∃ K : Nat, (K : Int) = ((b - a) / d).ceil := ⟨((b - a) / d).ceil.toNat, by omega⟩
  have K1 : 1 ≤ K := by omega
  have z : (b - a) / d ≤ ((K : Int) : Rat) := by rw [hK]; exact Rat.le_ceil
  have zK : ((K : Int) : Rat) = (K : Rat) := Rat.intCast_natCast K
  rw [zK] at z
  have Kp : (0 : Rat) < (K : Rat) := Rat.natCast_pos.2 (by omega)
  have e1 : (b - a) / d * d = b - a := Rat.div_mul_cancel (by grind)
  have le : b - a ≤ (K : Rat) * d := by
    have : 0 ≤ ((K : Rat) - (b - a) / d) * d := Rat.mul_nonneg (by grind) (by grind)
    grind
  have e2 : (b - a) / (K : Rat) * (K : Rat) = b - a := Rat.div_mul_cancel (by grind)
  refine ⟨K, (b - a) / (K : Rat), K1, ?_, ?_, ?_⟩
  · rw [Rat.div_def]
    exact Rat.mul_pos (by grind) (Rat.inv_pos.2 Kp)
  · refine Classical.byContradiction fun q => ?_
    have : 0 < ((b - a) / (K : Rat) - d) * (K : Rat) := Rat.mul_pos (by grind) Kp
    grind
  · grind
theorem sq_rb (a b : Rat) : rb a (a * a + b * b + 1) ∧ rb b (a * a + b * b + 1) ∧ 0 ≤ a * a + b * b + 1 := by
  have sq : ∀ x : Rat, 0 ≤ x * x := fun x => by
    rcases rsg_c x with ⟨w, _⟩ | ⟨w, _⟩ | ⟨w, _⟩
    · rw [w]; grind
    · have := Rat.mul_pos w w; grind
    · have : 0 < (-x) * (-x) := Rat.mul_pos (by grind) (by grind)
      grind
  have h1 := sq a
  have h2 := sq b
  have h3 := sq (a - 1)
  have h4 := sq (a + 1)
  have h5 := sq (b - 1)
  have h6 := sq (b + 1)
  refine ⟨⟨?_, ?_⟩, ⟨?_, ?_⟩, ?_⟩ <;> grind
/-- V falls from left to right -/
theorem sturm_mono {c : Nat → List Int} {m : Nat} (hs : stu c m) {a b : Rat} (h : a ≤ b) : vst c m b ≤ vst c m a := by
  by_cases e : a = b
  · rw [e]; exact Int.le_refl _
  obtain ⟨q1, q2, q3⟩ := sq_rb a b
  obtain ⟨d, d0, hd⟩ := sturm_grid hs _ q3
  obtain ⟨K, h', K1, h0, hh, eb⟩ := steps (a := a) (b := b) (by grind) d0
  have w := (hd a h' K h0 hh q1 (by rw [eb]; exact q2)).1 K (Nat.le_refl _)
  rw [eb] at w
  have := dcn_nn (c 0) a h' K
  omega
/-- a root makes it fall -/
theorem sturm_root {c : Nat → List Int} {m : Nat} (hs : stu c m) {a b r : Rat} (h1 : a < r) (h2 : r ≤ b) (hr : pev (c 0) r = 0) : vst c m b + 1 ≤ vst c m a := by
  obtain ⟨q1, q2, q3⟩ := sq_rb a r
  obtain ⟨d, d0, hd⟩ := sturm_grid hs _ q3
  obtain ⟨K, h', K1, h0, hh, eb⟩ := steps (a := a) (b := r) h1 d0
  have w := hd a h' K h0 hh q1 (by rw [eb]; exact q2)
  obtain ⟨j, hj⟩ : ∃ j, K = j + 1 := ⟨K - 1, by omega⟩
  subst hj
  have w1 := w.1 (j + 1) (Nat.le_refl _)
  have w2 := w.2 j (by omega)
  rw [eb] at w1 w2
  have w3 : dcn (c 0) a h' (j + 1) = dcn (c 0) a h' j + 1 := by
    show dcn (c 0) a h' j + (if pev (c 0) (a + (j : Rat) * h') ≠ 0 ∧ pev (c 0) (a + (j : Rat) * h') * pev (c 0) (a + ((j + 1 : Nat) : Rat) * h') ≤ 0 then 1 else 0) = _
    rw [eb, hr, if_pos ⟨fun q => w2 ⟨q, hr⟩, by grind⟩]
  have := dcn_nn (c 0) a h' j
  have := sturm_mono hs h2
  omega
theorem cont {f : List Int} {a X : Rat} (hf : pev f a ≠ 0) (ha : rb a X) : ∃ d : Rat, 0 < d ∧ ∀ x : Rat, a < x → x - a ≤ d → rb x X → 0 < pev f a * pev f x := by
  have hX := rb_0 ha
  obtain ⟨s, s0, hs⟩ : ∃ s : Rat, 0 < s ∧ (pev f a = s ∨ pev f a = -s) := by
    rcases rsg_c (pev f a) with ⟨w, _⟩ | ⟨w, _⟩ | ⟨w, _⟩
    · exact absurd w hf
    · exact ⟨_, w, Or.inl rfl⟩
    · exact ⟨-pev f a, by grind, Or.inr (by grind)⟩
  have i0 : 0 < s⁻¹ := Rat.inv_pos.2 s0
  have i1 : s * s⁻¹ = 1 := Rat.mul_inv_cancel _ (by grind)
  have L0 := b1_nn hX f
  obtain ⟨d, d0, hd⟩ := narrow (T := b1 f X * s⁻¹) (Rat.mul_nonneg L0 (by grind))
  refine ⟨d, d0, fun x h1 h2 h3 => ?_⟩
  obtain ⟨e, e1, e2⟩ := pev_t1 h3 ha f
  have w := hd (x - a) (by grind) h2
  have w2 : b1 f X * (x - a) < s := by
    have : 0 < (1 - b1 f X * s⁻¹ * (x - a)) * s := Rat.mul_pos (by grind) s0
    have e3 : b1 f X * s⁻¹ * (x - a) * s = b1 f X * (x - a) * (s * s⁻¹) := by grind
    rw [i1] at e3
    grind
  have w3 : rb ((x - a) * e) (b1 f X * (x - a)) := by
    have := rb_mul (x := x - a) (A := x - a) ⟨by grind, by grind⟩ e1
    refine rb_mono this ?_
    grind
  have w4 := w3.1
  have w5 := w3.2
  have fx : pev f x = pev f a + (x - a) * e := by grind
  rcases hs with q | q
  · rw [q] at fx ⊢
    exact Rat.mul_pos s0 (by grind)
  · rw [q] at fx ⊢
    have : 0 < s * (-pev f x) := Rat.mul_pos s0 (by grind)
    grind
/-- where V falls by one and no fraction is a root, the sign turns -/
theorem sturm_flip {c : Nat → List Int} {m : Nat} (hs : stu c m) {f Pi : List Int} (hP : ∀ x : Rat, pev (c 0) x = pev f x * pev Pi x) {a b : Rat} (hab : a < b) (hf : ∀ x : Rat, a ≤ x → x ≤ b → pev f x ≠ 0) (hPi : ∀ x y : Rat, a < x → x ≤ b → a < y → y ≤ b → 0 < pev Pi x * pev Pi y) (hPa : pev Pi a = 0 ∨ ∀ y : Rat, a < y → y ≤ b → 0 < pev Pi a * pev Pi y) (hV : vst c m a - vst c m b = 1) : pev f a * pev f b < 0 := by
  obtain ⟨q1, q2, q3⟩ := sq_rb a b
  obtain ⟨d1, d10, hd1⟩ := sturm_grid hs _ q3
  obtain ⟨d2, d20, hd2⟩ := cont (f := f) (hf a (by grind) (by grind)) q1
  obtain ⟨d, d0, l1, l2⟩ : ∃ d : Rat, 0 < d ∧ d ≤ d1 ∧ d ≤ d2 := by
    by_cases c1 : d1 ≤ d2
    · exact ⟨d1, d10, by grind, c1⟩
    · exact ⟨d2, d20, by grind, by grind⟩
  obtain ⟨K, h, K1, h0, hh, eb⟩ := steps (a := a) (b := b) hab d0
  have w := hd1 a h K h0 (by grind) q1 (by rw [eb]; exact q2)
  have wK := w.1 K (Nat.le_refl _)
  rw [eb] at wK
  have pos : ∀ j : Nat, 1 ≤ j → j ≤ K → a < a + (j : Rat) * h ∧ a + (j : Rat) * h ≤ b := fun j j1 jK => by
    have p1 : 0 < (j : Rat) * h := Rat.mul_pos (Rat.natCast_pos.2 j1) h0
    have p2 : 0 ≤ ((K : Rat) - (j : Rat)) * h := Rat.mul_nonneg (by have := rat_le jK; grind) (by grind)
    constructor
    · grind
    · grind
  have mul_sg : ∀ x y u v : Rat, 0 < u * v → (((x * u) * (y * v) ≤ 0) ↔ x * y ≤ 0) := fun x y u v huv => by
    have e : (x * u) * (y * v) = (x * y) * (u * v) := by grind
    rw [e]
    constructor
    · intro q
      refine Classical.byContradiction fun n => ?_
      have : 0 < (x * y) * (u * v) := Rat.mul_pos (by grind) huv
      grind
    · intro q
      have : 0 ≤ (-(x * y)) * (u * v) := Rat.mul_nonneg (by grind) (by grind)
      grind
  have go : ∀ j : Nat, 1 ≤ j → j ≤ K → (dcn (c 0) a h j = 0 → 0 < pev f a * pev f (a + (j : Rat) * h)) ∧ (dcn (c 0) a h j = 1 → pev f a * pev f (a + (j : Rat) * h) < 0) := by
    intro j
    induction j with
    | zero => intro q; omega
    | succ j ih =>
      intro _ jK
      by_cases j0 : j = 0
      · subst j0
        have p1 := pos 1 (by omega) jK
        have e1 : ((0 + 1 : Nat) : Rat) = 1 := rfl
        have c1 : 0 < pev f a * pev f (a + ((0 + 1 : Nat) : Rat) * h) := by
          refine hd2 _ p1.1 ?_ ?_
          · rw [e1]; grind
          · have := p1.2
            have := q1.1
            have := q2.2
            constructor
            · have := p1.1; grind
            · grind
        have e0 : a + ((0 : Nat) : Rat) * h = a := by
          have : ((0 : Nat) : Rat) = 0 := rfl
          rw [this]; grind
        have z : dcn (c 0) a h (0 + 1) = 0 := by
          show 0 + (if pev (c 0) (a + ((0 : Nat) : Rat) * h) ≠ 0 ∧ pev (c 0) (a + ((0 : Nat) : Rat) * h) * pev (c 0) (a + ((0 + 1 : Nat) : Rat) * h) ≤ 0 then 1 else 0) = 0
          rw [e0, if_neg ?_]
          · rfl
          · rintro ⟨n1, n2⟩
            rw [hP a] at n1
            rw [hP a, hP (a + ((0 + 1 : Nat) : Rat) * h)] at n2
            rcases hPa with q | q
            · rw [q] at n1; exact n1 (by grind)
            · have := (mul_sg _ _ _ _ (q _ p1.1 p1.2)).1 n2
              grind
        exact ⟨fun _ => c1, fun q => by omega⟩
      · have i1 := ih (by omega) (by omega)
        have pj := pos j (by omega) (by omega)
        have pk := pos (j + 1) (by omega) jK
        have fj := hf (a + (j : Rat) * h) (by have := pj.1; grind) pj.2
        have fk := hf (a + ((j + 1 : Nat) : Rat) * h) (by have := pk.1; grind) pk.2
        have fa := hf a (by grind) (by grind)
        have pp := hPi _ _ pj.1 pj.2 pk.1 pk.2
        have Pj : pev (c 0) (a + (j : Rat) * h) ≠ 0 := by
          rw [hP]
          intro q
          rcases Rat.mul_eq_zero.1 q with w1 | w1
          · exact fj w1
          · rw [w1] at pp; grind
        have nn := dcn_nn (c 0) a h j
        have st : dcn (c 0) a h (j + 1) = dcn (c 0) a h j + (if pev (c 0) (a + (j : Rat) * h) ≠ 0 ∧ pev (c 0) (a + (j : Rat) * h) * pev (c 0) (a + ((j + 1 : Nat) : Rat) * h) ≤ 0 then 1 else 0) := rfl
        generalize hxj : pev f (a + (j : Rat) * h) = xj at *
        generalize hxk : pev f (a + ((j + 1 : Nat) : Rat) * h) = xk at *
        generalize hxa : pev f a = xa at *
        have three : ∀ x y z : Rat, x ≠ 0 → y ≠ 0 → z ≠ 0 → (0 < x * y → 0 < y * z → 0 < x * z) ∧ (0 < x * y → y * z < 0 → x * z < 0) ∧ (x * y < 0 → 0 < y * z → x * z < 0) := by
          intro x y z hx hy hz
          have hy2 : 0 < y * y := by
            rcases rsg_c y with ⟨w, _⟩ | ⟨w, _⟩ | ⟨w, _⟩
            · exact absurd w hy
            · exact Rat.mul_pos w w
            · have : 0 < (-y) * (-y) := Rat.mul_pos (by grind) (by grind)
              grind
          refine ⟨fun a1 a2 => ?_, fun a1 a2 => ?_, fun a1 a2 => ?_⟩
          · have : 0 < (x * y) * (y * z) := Rat.mul_pos a1 a2
            refine Classical.byContradiction fun n => ?_
            have : 0 ≤ (-(x * z)) * (y * y) := Rat.mul_nonneg (by grind) (by grind)
            grind
          · have : 0 < (x * y) * (-(y * z)) := Rat.mul_pos a1 (by grind)
            refine Classical.byContradiction fun n => ?_
            have : 0 ≤ (x * z) * (y * y) := Rat.mul_nonneg (by grind) (by grind)
            grind
          · have : 0 < (-(x * y)) * (y * z) := Rat.mul_pos (by grind) a2
            refine Classical.byContradiction fun n => ?_
            have : 0 ≤ (x * z) * (y * y) := Rat.mul_nonneg (by grind) (by grind)
            grind
        have t3 := three xa xj xk fa fj fk
        by_cases cc : pev (c 0) (a + (j : Rat) * h) * pev (c 0) (a + ((j + 1 : Nat) : Rat) * h) ≤ 0
        · rw [if_pos ⟨Pj, cc⟩] at st
          rw [hP, hP, hxj, hxk] at cc
          have c2 := (mul_sg _ _ _ _ pp).1 cc
          have c3 : xj * xk < 0 := by
            have : xj * xk ≠ 0 := fun q => by
              rcases Rat.mul_eq_zero.1 q with w1 | w1
              · exact fj w1
              · exact fk w1
            grind
          refine ⟨fun q => by omega, fun q => t3.2.1 (i1.1 (by omega)) c3⟩
        · rw [if_neg (fun q => cc q.2)] at st
          rw [hP, hP, hxj, hxk] at cc
          have c3 : 0 < xj * xk := by
            refine Classical.byContradiction fun q => cc ((mul_sg _ _ _ _ pp).2 (by grind))
          exact ⟨fun q => t3.1 (i1.1 (by omega)) c3, fun q => t3.2.2 (i1.2 (by omega)) c3⟩
  have g := (go K K1 (Nat.le_refl _)).2 (by omega)
  rw [eb] at g
  exact g
