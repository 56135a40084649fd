/-! NUMBERS TOLD BY WHERE FRACTIONS LIE: 1 below, 0 equal, -1 above -/
def cut (c : Rat → Int) : Prop := (∀ x, c x = -1 ∨ c x = 0 ∨ c x = 1) ∧ (∀ x y, x < y → c y ≠ -1 → c x = 1) ∧ ((∃ x, c x = 1) ∧ ∃ x, c x = -1) ∧ (∀ x, c x = 1 → ∃ y, x < y ∧ c y = 1) ∧ ∀ x, c x = -1 → ∃ y, y < x ∧ c y = -1
theorem cut_lt {c : Rat → Int} (h : cut c) {u v : Rat} (hu : c u = 1) (hv : c v = -1) : u < v := by
  refine Rat.not_le.1 fun q => ?_
  rcases Rat.le_iff_lt_or_eq.1 q with q | q
  · have := h.2.1 v u q (by rw [hu]; decide)
    omega
  · rw [q] at hv; omega
theorem cut_le1 {c : Rat → Int} (h : cut c) {u v : Rat} (hv : c v = 1) (huv : u ≤ v) : c u = 1 := by
  rcases Rat.le_iff_lt_or_eq.1 huv with q | q
  · exact h.2.1 u v q (by rw [hv]; decide)
  · rw [q]; exact hv
theorem cut_ge1 {c : Rat → Int} (h : cut c) {u v : Rat} (hu : c u = -1) (huv : u ≤ v) : c v = -1 := by
  rcases Rat.le_iff_lt_or_eq.1 huv with q | q
  · refine Classical.byContradiction fun n => ?_
    have := h.2.1 u v q n
    omega
  · rw [← q]; exact hu
/-- fractions on both sides, as near as one likes -/
theorem cut_near {c : Rat → Int} (h : cut c) {d : Rat} (hd : 0 < d) : ∃ u v, c u = 1 ∧ c v = -1 ∧ v - u ≤ d := by
  obtain ⟨⟨a, ha⟩, b, hb⟩ := h.2.2.1
  have ab := cut_lt h ha hb
  obtain ⟨K, e, K1, e0, ed, eb⟩ := steps ab (show 0 < d / 2 by grind)
  have key : ∀ k : Nat, c (a + (k : Rat) * e) = 1 → ∀ n : Nat, k + n = K → ∃ j : Nat, c (a + (j : Rat) * e) = 1 ∧ c (a + ((j + 1 : Nat) : Rat) * e) ≠ 1 := fun k hk n => by
    induction n generalizing k with
    | zero =>
      intro ek
      have : k = K := by omega
      rw [this, eb] at hk
      omega
    | succ n ih =>
      intro ek
      by_cases q : c (a + ((k + 1 : Nat) : Rat) * e) = 1
      · exact ih (k + 1) q (by omega)
      · exact ⟨k, hk, q⟩
  obtain ⟨j, j1, j2⟩ := key 0 (by rw [show ((0 : Nat) : Rat) = 0 from rfl, Rat.zero_mul, Rat.add_zero]; exact ha) K (by omega)
  refine ⟨a + (j : Rat) * e, a + ((j + 1 : Nat) : Rat) * e + e, j1, ?_, ?_⟩
  · refine Classical.byContradiction fun n => ?_
    have := h.2.1 (a + ((j + 1 : Nat) : Rat) * e) (a + ((j + 1 : Nat) : Rat) * e + e) (by grind) n
    exact j2 this
  · rw [rat_s]
    grind
/-- the sign of F on the left of c, near it; and on the right -/
def gml (F : List Int) (c : Rat → Int) (sg' : Int) : Prop := ∃ u0, c u0 = 1 ∧ ∀ u, u0 ≤ u → c u = 1 → rsg (pev F u) = sg'
def gmr (F : List Int) (c : Rat → Int) (sg' : Int) : Prop := ∃ v0, c v0 = -1 ∧ ∀ v, v ≤ v0 → c v = -1 → rsg (pev F v) = sg'
def nzp (F : List Int) : Prop := ∃ k, pgt F k ≠ 0
theorem gml_u {F : List Int} {c : Rat → Int} {x y : Int} (h : cut c) (hx : gml F c x) (hy : gml F c y) : x = y := by
  obtain ⟨u, u1, u2⟩ := hx
  obtain ⟨v, v1, v2⟩ := hy
  by_cases q : u ≤ v
  · rw [← u2 v q v1, v2 v (Rat.le_refl) v1]
  · have q := Rat.not_le.1 q
    rw [← u2 u (Rat.le_refl) u1, v2 u (Rat.le_of_lt q) u1]
theorem gmr_u {F : List Int} {c : Rat → Int} {x y : Int} (h : cut c) (hx : gmr F c x) (hy : gmr F c y) : x = y := by
  obtain ⟨u, u1, u2⟩ := hx
  obtain ⟨v, v1, v2⟩ := hy
  by_cases q : u ≤ v
  · rw [← v2 u q u1, u2 u (Rat.le_refl) u1]
  · have q := Rat.not_le.1 q
    rw [← v2 v (Rat.le_refl) v1, u2 v (Rat.le_of_lt q) v1]
theorem rsg_m (x y : Rat) : rsg (x * y) = rsg x * rsg y := by
  rcases rsg_c x with ⟨a, b⟩ | ⟨a, b⟩ | ⟨a, b⟩ <;> rcases rsg_c y with ⟨a', b'⟩ | ⟨a', b'⟩ | ⟨a', b'⟩ <;> rw [b, b'] <;> rcases rsg_c (x * y) with ⟨a2, b2⟩ | ⟨a2, b2⟩ | ⟨a2, b2⟩ <;> rw [b2] <;> first | rfl | skip
  all_goals exfalso
  all_goals first | (rw [a, Rat.zero_mul] at a2; grind) | (rw [a', Rat.mul_zero] at a2; grind) | skip
  · have := Rat.mul_pos a a'; grind
  · have := Rat.mul_pos a a'; grind
  · have := Rat.mul_pos a (show 0 < -y by grind); grind
  · have := Rat.mul_pos a (show 0 < -y by grind); grind
  · have := Rat.mul_pos (show 0 < -x by grind) a'; grind
  · have := Rat.mul_pos (show 0 < -x by grind) a'; grind
  · have := Rat.mul_pos (show 0 < -x by grind) (show 0 < -y by grind); grind
  · have := Rat.mul_pos (show 0 < -x by grind) (show 0 < -y by grind); grind
theorem gml_mul {F G H : List Int} {c : Rat → Int} {x y : Int} (hc : cut c) (e : ∀ z : Rat, pev H z = pev F z * pev G z) (hx : gml F c x) (hy : gml G c y) : gml H c (x * y) := by
  obtain ⟨u, u1, u2⟩ := hx
  obtain ⟨v, v1, v2⟩ := hy
  by_cases q : u ≤ v
  · exact ⟨v, v1, fun z h1 h2 => by rw [e, rsg_m, u2 z (Rat.le_trans q h1) h2, v2 z h1 h2]⟩
  · have q := Rat.le_of_lt (Rat.not_le.1 q)
    exact ⟨u, u1, fun z h1 h2 => by rw [e, rsg_m, u2 z h1 h2, v2 z (Rat.le_trans q h1) h2]⟩
theorem gmr_mul {F G H : List Int} {c : Rat → Int} {x y : Int} (hc : cut c) (e : ∀ z : Rat, pev H z = pev F z * pev G z) (hx : gmr F c x) (hy : gmr G c y) : gmr H c (x * y) := by
  obtain ⟨u, u1, u2⟩ := hx
  obtain ⟨v, v1, v2⟩ := hy
  by_cases q : u ≤ v
  · exact ⟨u, u1, fun z h1 h2 => by rw [e, rsg_m, u2 z h1 h2, v2 z (Rat.le_trans h1 q) h2]⟩
  · have q := Rat.le_of_lt (Rat.not_le.1 q)
    exact ⟨v, v1, fun z h1 h2 => by rw [e, rsg_m, u2 z (Rat.le_trans h1 q) h2, v2 z h1 h2]⟩
