/-! WHERE THE TURNS OF A PIECE LIE -/
theorem cnt_ge {c : Rat → Int} (h : cut c) {x y : Rat} (hx : c x ≠ -1) (hy : c y = -1) : x < y := by
  refine Rat.not_le.1 fun q => hx (cut_ge1 h hy q)
theorem cnt_le {c : Rat → Int} (h : cut c) {x y : Rat} (hx : c x = 1) (hy : c y ≠ 1) : x < y := by
  refine Rat.not_le.1 fun q => hy (cut_le1 h hx q)
/-- near a turn the values are as small as one likes -/
theorem turn_small {F : List Int} {c : Rat → Int} (hc : cut c) (ht : rtc F c) {u0 v0 e : Rat} (hu : c u0 = 1) (hv : c v0 = -1) (e0 : 0 < e) : ∃ u v : Rat, c u = 1 ∧ c v = -1 ∧ u0 ≤ u ∧ v ≤ v0 ∧ rb (pev F u) e ∧ rb (pev F v) e := by
  obtain ⟨u1, v1, a1, a2, a3⟩ := rtc_neg ht
  obtain ⟨u2, g1, g2, g3⟩ := cut_mx hu a1
  obtain ⟨v2, d1, d2, d3⟩ := cut_mn hv a2
  obtain ⟨ra, rb', X0⟩ := sq_rb u2 v2
  obtain ⟨X, hX⟩ : ∃ X, X = u2 * u2 + v2 * v2 + 1 := ⟨_, rfl⟩
  rw [← hX] at ra rb' X0
  have B0 := b1_nn X0 F
  have i0 : 0 < e⁻¹ := Rat.inv_pos.2 e0
  have i1 : e * e⁻¹ = 1 := Rat.mul_inv_cancel _ (by grind)
  obtain ⟨d, p0, hd⟩ := narrow (T := b1 F X * e⁻¹) (Rat.mul_nonneg B0 (Rat.le_of_lt i0))
  obtain ⟨u, v, q1, q2, q3, q4, q5⟩ := cut_near2 hc p0 g1 d1
  have uv := cut_lt hc q1 q2
  have ru : rb u X := ⟨by have := ra.1; grind, by have := rb'.2; grind⟩
  have rv : rb v X := ⟨by have := ra.1; grind, by have := rb'.2; grind⟩
  obtain ⟨y, y1, y2⟩ := pev_t1 rv ru F
  have w := hd (v - u) (by grind) q5
  have w2 : b1 F X * (v - u) < e := by
    have m := Rat.mul_lt_mul_of_pos_left w e0
    have : e * (b1 F X * e⁻¹ * (v - u)) = b1 F X * (v - u) * (e * e⁻¹) := by grind
    rw [this, i1] at m
    grind
  have rd : rb (pev F v - pev F u) e := by
    rw [y2]
    refine rb_mono (rb_mul (A := v - u) ⟨by grind, Rat.le_refl⟩ y1) ?_
    grind
  have neg := a3 u v (Rat.le_trans g3 q3) q1 (Rat.le_trans q4 d3) q2
  refine ⟨u, v, q1, q2, Rat.le_trans g2 q3, Rat.le_trans q4 d2, ?_, ?_⟩
  · refine small (y := pev F v) (Rat.le_of_lt neg) ?_
    have := rb_neg rd
    rw [show -(pev F v - pev F u) = pev F u - pev F v by grind] at this
    exact this
  · exact small (y := pev F u) (by rw [Rat.mul_comm]; exact Rat.le_of_lt neg) rd
/-- beyond R either way the values are not small -/
def farc (P : List Int) (R : Rat) : Prop := ∀ X : Rat, ∃ e : Rat, 0 < e ∧ ∀ x : Rat, rb x X → (R ≤ x ∨ x ≤ -R) → ¬ rb (pev P x) e
theorem turn_in {P : List Int} {R : Rat} (hf : farc P R) {c : Rat → Int} (hc : cut c) (ht : rtc P c) : c (-R) = 1 ∧ c R = -1 := by
  obtain ⟨⟨u0, hu⟩, v0, hv⟩ := hc.2.2.1
  obtain ⟨ra, rb', X0⟩ := sq_rb u0 v0
  obtain ⟨X, hX⟩ : ∃ X, X = u0 * u0 + v0 * v0 + 1 := ⟨_, rfl⟩
  rw [← hX] at ra rb' X0
  obtain ⟨e, e0, he⟩ := hf X
  obtain ⟨u, v, q1, q2, q3, q4, q5, q6⟩ := turn_small hc ht hu hv e0
  have uv := cut_lt hc q1 q2
  have ru : rb u X := ⟨by have := ra.1; grind, by have := rb'.2; grind⟩
  have rv : rb v X := ⟨by have := ra.1; grind, by have := rb'.2; grind⟩
  constructor
  · refine Classical.byContradiction fun n => ?_
    have : u < -R := cnt_le hc q1 n
    exact he u ru (Or.inr (Rat.le_of_lt this)) q5
  · refine Classical.byContradiction fun n => ?_
    have : R < v := cnt_ge hc n q2
    exact he v rv (Or.inl (Rat.le_of_lt this)) q6
theorem rcl_far {L : Nat} {z : Rat} (hz : 1 ≤ z ∨ z ≤ -1) : ∀ B : List Int, rcl L B → ∃ V : Rat, 0 ≤ V ∧ (pev B z = V ∨ pev B z = -V) ∧ (L : Rat) ≤ 2 ^ (B.length - 1) * V
  | [], h => h.elim
  | [a], h => by
    have h' : a.natAbs = L := h
    obtain ⟨V, V0, hV⟩ := abs_ex (a : Rat)
    have ea : pev [a] z = (a : Rat) := by show (a : Rat) + z * 0 = _; grind
    refine ⟨V, V0, by rw [ea]; exact hV, ?_⟩
    have : ((a.natAbs : Nat) : Rat) ≤ V := nab_rb (by rcases hV with q | q <;> rw [q] <;> constructor <;> grind)
    rw [h'] at this
    show (L : Rat) ≤ 2 ^ 0 * V
    rw [show (2 : Rat) ^ 0 = 1 by grind, Rat.one_mul]
    exact this
  | x :: y :: p, h => by
    obtain ⟨V, V0, hV, hL⟩ := rcl_far hz (y :: p) h.2
    have h1 := h.1
    obtain ⟨W, W0, hW⟩ := abs_ex (pev (x :: y :: p) z)
    refine ⟨W, W0, hW, ?_⟩
    have h1q : ((x.natAbs * 2 ^ (p.length + 1) : Nat) : Rat) < ((L : Nat) : Rat) := Rat.natCast_lt_natCast.2 h1
    rw [Rat.natCast_mul, Rat.natCast_pow, show ((2 : Nat) : Rat) = 2 from rfl] at h1q
    have rx := rb_int x
    show (L : Rat) ≤ 2 ^ (p.length + 1) * W
    have hL' : (L : Rat) ≤ 2 ^ p.length * V := hL
    rw [Rat.pow_succ] at h1q ⊢
    have T := q2p p.length
    rw [pev_c] at hW
    -- W ≥ V - |x|
    have key : V - (x.natAbs : Rat) ≤ W := by
      obtain ⟨r1, r2⟩ := rx
      have zv : ∃ Z : Rat, V ≤ Z ∧ (z * pev (y :: p) z = Z ∨ z * pev (y :: p) z = -Z) := by
        rcases hz with q | q
        · have m := Rat.mul_le_mul_of_nonneg_right q V0
          refine ⟨z * V, by grind, ?_⟩
          rcases hV with w | w <;> rw [w]
          · exact Or.inl rfl
          · right; grind
        · have m := Rat.mul_le_mul_of_nonneg_right (show 1 ≤ -z by grind) V0
          refine ⟨(-z) * V, by grind, ?_⟩
          rcases hV with w | w <;> rw [w]
          · right; grind
          · left; grind
      obtain ⟨Z, Z1, Z2⟩ := zv
      generalize z * pev (y :: p) z = zz at Z2 hW
      rcases Z2 with w | w <;> rcases hW with w' | w' <;> rw [w] at w' <;> grind
    have m := Rat.mul_le_mul_of_nonneg_left key (Rat.le_of_lt T)
    generalize (2 : Rat) ^ p.length = G at hL' h1q m T ⊢
    generalize (x.natAbs : Rat) = N at h1q m
    grind
theorem far30 {x : Rat} (hx : 1073741824 ≤ x ∨ x ≤ -1073741824) : ∀ P : List Int, pab P 1000000000 → (∃ k, pgt P k ≠ 0) → 1 ≤ pev P x ∨ pev P x ≤ -1
  | [], _, h => by obtain ⟨k, hk⟩ := h; exact absurd rfl hk
  | a :: p, hp, h0 => by
    have ba : a.natAbs ≤ 1000000000 := hp 0
    have ra := rb_mono (rb_int a) (show (a.natAbs : Rat) ≤ 1000000000 from rat_le ba)
    rw [pev_c]
    by_cases c : ∃ k, pgt p k ≠ 0
    · have ih := far30 hx p (fun k => hp (k + 1)) c
      obtain ⟨r1, r2⟩ := ra
      generalize pev p x = v at ih ⊢
      rcases hx with q | q <;> rcases ih with w | w
      · left
        have m := Rat.mul_le_mul_of_nonneg_right q (show 0 ≤ v by grind)
        grind
      · right
        have m := Rat.mul_le_mul_of_nonneg_right q (show 0 ≤ -v by grind)
        grind
      · right
        have m := Rat.mul_le_mul_of_nonneg_right (show 1073741824 ≤ -x by grind) (show 0 ≤ v by grind)
        grind
      · left
        have m := Rat.mul_le_mul_of_nonneg_right (show 1073741824 ≤ -x by grind) (show 0 ≤ -v by grind)
        grind
    · have z : ∀ k, pgt p k = 0 := fun k => Classical.byContradiction fun q => c ⟨k, q⟩
      rw [pev_eq (R := []) z x, show pev [] x = 0 from rfl, Rat.mul_zero, Rat.add_zero]
      have an : a ≠ 0 := fun q => by
        obtain ⟨k, hk⟩ := h0
        cases k with
        | zero => exact hk q
        | succ k => exact hk (z k)
      rcases Int.lt_or_gt_of_ne an with q | q
      · right
        have : (a : Rat) ≤ ((-1 : Int) : Rat) := Rat.intCast_le_intCast.2 (by omega)
        exact this
      · left
        have : ((1 : Int) : Rat) ≤ (a : Rat) := Rat.intCast_le_intCast.2 (by omega)
        exact this
theorem farc_pat {P : List Int} (hp : pat P) : farc P 1073741824 := by
  obtain ⟨A, Q, e, a9, a0, ab⟩ := hp
  intro X
  by_cases cx : 0 ≤ X
  · have B0 := b0_nn cx Q
    obtain ⟨d, d0, hd⟩ := narrow B0
    refine ⟨d, d0, fun x rx hx rP => ?_⟩
    have fa := far30 (x := x) (by rcases hx with q | q <;> first | (left; exact q) | (right; grind)) A ab a0
    have r := rb_mul rP (pev_rb rx Q)
    rw [← e x] at r
    have w := hd d (Rat.le_of_lt d0) Rat.le_refl
    obtain ⟨r1, r2⟩ := r
    rcases fa with q | q <;> grind
  · refine ⟨1, by decide, fun x rx _ => ?_⟩
    have := rb_0 rx
    exact absurd this cx
theorem farc_dv {P F K : List Int} {R : Rat} (h : farc P R) (e : ∀ x : Rat, pev P x = pev K x * pev F x) : farc F R := by
  intro X
  by_cases cx : 0 ≤ X
  · obtain ⟨e1, e10, he⟩ := h X
    have B0 := b0_nn cx K
    have i0 : 0 < e1⁻¹ := Rat.inv_pos.2 e10
    have i1 : e1 * e1⁻¹ = 1 := Rat.mul_inv_cancel _ (by grind)
    obtain ⟨d, d0, hd⟩ := narrow (T := b0 K X * e1⁻¹) (Rat.mul_nonneg B0 (Rat.le_of_lt i0))
    refine ⟨d, d0, fun x rx hx rF => he x rx hx ?_⟩
    have r := rb_mul (pev_rb rx K) rF
    rw [← e x] at r
    refine rb_mono r ?_
    have w := hd d (Rat.le_of_lt d0) Rat.le_refl
    have m := Rat.mul_lt_mul_of_pos_left w e10
    have : e1 * (b0 K X * e1⁻¹ * d) = b0 K X * d * (e1 * e1⁻¹) := by grind
    rw [this, i1] at m
    grind
  · refine ⟨1, by decide, fun x rx _ => ?_⟩
    have := rb_0 rx
    exact absurd this cx
