/-! a fraction within a root's interval: the interval isn't narrow -/
theorem opp_le {a b B : Rat} (h : a * b < 0) (hd : rb (a - b) B) : rb a B := by
  obtain ⟨d1, d2⟩ := hd
  have a0 : a ≠ 0 := fun q => by
    rw [q, Rat.zero_mul] at h
    grind
  rcases rsg_c a with ⟨q, _⟩ | ⟨q, _⟩ | ⟨q, _⟩
  · exact absurd q a0
  · have b0 : b < 0 := Rat.not_le.1 (fun w => by
      have := Rat.mul_nonneg (Rat.le_of_lt q) w
      grind)
    exact ⟨by grind, by grind⟩
  · have b0 : 0 < b := Rat.not_le.1 (fun w => by
      have := Rat.mul_nonneg (show 0 ≤ -a by grind) (show 0 ≤ -b by grind)
      rw [Rat.mul_neg, Rat.neg_mul, Rat.neg_neg] at this
      grind)
    exact ⟨by grind, by grind⟩
theorem near_b {F : List Int} {l r x X W : Rat} (hl : rb l X) (hr : rb r X) (hx : rb x X) (h1 : l ≤ x) (h2 : x ≤ r) (hw : r - l = W) (hs : pev F l * pev F r < 0) (hz : pev F x ≠ 0) : rb (pev F x) (W * b1 F X) := by
  have zl : pev F l ≠ 0 := fun q => by
    rw [q, Rat.zero_mul] at hs
    grind
  have zr : pev F r ≠ 0 := fun q => by
    rw [q, Rat.mul_zero] at hs
    grind
  by_cases q : pev F x * pev F l < 0
  · obtain ⟨d, d1, d2⟩ := pev_t1 hx hl F
    refine opp_le q ?_
    rw [d2]
    exact rb_mul ⟨by grind, by grind⟩ d1
  · obtain ⟨d, d1, d2⟩ := pev_t1 hx hr F
    have e1 : rsg (pev F x) = rsg (pev F l) := Classical.byContradiction fun w => q ((flip2 hz zl).1 w)
    have e2 := (flip2 zl zr).2 hs
    refine opp_le ((flip2 hz zr).1 (by rw [e1]; exact e2)) ?_
    rw [d2]
    exact rb_mul ⟨by grind, by grind⟩ d1
theorem frac_ge {F : List Int} {p q : Int} {n : Nat} {B : Rat} (hq : 0 < q) (hn : F.length = n + 1) (hz : pev F ((p : Rat) / (q : Rat)) ≠ 0) (hb : rb (pev F ((p : Rat) / (q : Rat))) B) : 1 ≤ (q : Rat) ^ n * B := by
  have q0 : (0 : Rat) < (q : Rat) := Rat.intCast_pos.2 hq
  have qn : (q : Rat) ≠ 0 := by grind
  have e : pmk (n + 1) (fun i => pgt F (0 + i)) = F := by
    rw [pmk_co (g := pgt F) (fun i _ => by rw [Nat.zero_add]), ← hn]
    exact pmk_self F
  have w := phm_ev (P := F) (p := p) qn n (Nat.le_refl _)
  rw [Nat.sub_self, e] at w
  have qp : (0 : Rat) < (q : Rat) ^ n := Rat.pow_pos q0
  have nz : phm F p q n n ≠ 0 := fun z => by
    rw [z] at w
    rcases Rat.mul_eq_zero.1 w.symm with k | k
    · grind
    · exact hz k
  have m1 : (q : Rat) ^ n * pev F ((p : Rat) / (q : Rat)) ≤ (q : Rat) ^ n * B := Rat.mul_le_mul_of_nonneg_left hb.2 (Rat.le_of_lt qp)
  have m2 : (q : Rat) ^ n * (-B) ≤ (q : Rat) ^ n * pev F ((p : Rat) / (q : Rat)) := Rat.mul_le_mul_of_nonneg_left hb.1 (Rat.le_of_lt qp)
  rw [← w] at m1 m2
  rw [Rat.mul_neg] at m2
  by_cases k : 1 ≤ phm F p q n n
  · have := Rat.intCast_le_intCast.2 k
    exact Rat.le_trans this m1
  · have := Rat.intCast_le_intCast.2 (show phm F p q n n ≤ -1 by omega)
    have o : ((-1 : Int) : Rat) = -1 := rfl
    rw [o] at this
    have t := Rat.le_trans m2 this
    grind
