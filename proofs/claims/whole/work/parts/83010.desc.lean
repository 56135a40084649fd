/-! DESCARTES FOR NO CHANGE AND FOR ONE -/
theorem ti_nn {a b : Int} (h : 0 ≤ a * b) : 0 ≤ (a : Rat) * (b : Rat) := by
  rw [← Rat.intCast_mul]
  exact Rat.intCast_nonneg.2 h
theorem ti_p {a b : Int} (h : 0 < a * b) : 0 < (a : Rat) * (b : Rat) := by
  rw [← Rat.intCast_mul]
  exact Rat.intCast_pos.2 h
theorem dsc_s {t l x : Int} (ht : t = 1 ∨ t = -1) (hl : 0 < t * l) (h : ¬ l * x < 0) : 0 ≤ t * x := by
  rw [mul_neg_iff] at h
  rcases ht with q | q <;> subst q <;> omega
theorem dsc0 : ∀ (r : List Int) (l t : Int), (t = 1 ∨ t = -1) → 0 < t * l → vr l r = 0 → ∀ s : Rat, 0 ≤ s → 0 ≤ (t : Rat) * pev r s
  | [], l, t, _, _, _, s, _ => by
    show 0 ≤ (t : Rat) * 0
    rw [Rat.mul_zero]
    exact Rat.le_refl
  | x :: r, l, t, ht, hl, h, s, hs => by
    rw [vr_cons] at h
    have h1 : ¬ l * x < 0 := fun q => by rw [if_pos q] at h; omega
    have h2 : vr (if x = 0 then l else x) r = 0 := by omega
    have tx := dsc_s ht hl h1
    have ih : 0 ≤ (t : Rat) * pev r s := by
      by_cases c : x = 0
      · rw [if_pos c] at h2
        exact dsc0 r l t ht hl h2 s hs
      · rw [if_neg c] at h2
        refine dsc0 r x t ht ?_ h2 s hs
        rcases ht with q | q <;> subst q <;> omega
    have a := ti_nn tx
    have b := Rat.mul_nonneg hs ih
    rw [pev_c]
    generalize pev r s = V at b ⊢
    grind
theorem dsc1 : ∀ (q : List Int) (t : Int), (t = 1 ∨ t = -1) → 0 < t * lst1 q → vr 0 q ≤ 1 → ∀ s1 s2 : Rat, 0 < s1 → s1 < s2 → 0 ≤ (t : Rat) * pev q s1 → (t : Rat) * pev q s1 ≤ (t : Rat) * pev q s2 ∧ 0 < (t : Rat) * pev q s2
  | [], t, _, h, _, _, _, _, _, _ => by
    rw [show lst1 [] = 0 from rfl, Int.mul_zero] at h
    omega
  | [a], t, _, h, _, s1, s2, _, _, _ => by
    have e : ∀ s : Rat, pev [a] s = (a : Rat) := fun s => by
      show (a : Rat) + s * 0 = _
      grind
    rw [e, e]
    exact ⟨Rat.le_refl, ti_p h⟩
  | a :: b :: r, t, ht, h, hv, s1, s2, s0, s12, hq => by
    have hl : 0 < t * lst1 (b :: r) := h
    have hv' : vr 0 (b :: r) ≤ 1 := Nat.le_trans (@vr_del1 0 a (b :: r)) hv
    rw [pev_c] at hq
    have Rn : 0 ≤ (t : Rat) * pev (b :: r) s1 := by
      by_cases c : t * a ≤ 0
      · have c' : (t : Rat) * (a : Rat) ≤ 0 := by
          rw [← Rat.intCast_mul]
          exact Rat.intCast_nonpos.2 c
        refine Rat.not_lt.1 fun z => ?_
        have := Rat.mul_pos s0 (show 0 < -((t : Rat) * pev (b :: r) s1) by grind)
        generalize pev (b :: r) s1 = V at hq this
        grind
      · have an : a ≠ 0 := fun z => by rw [z, Int.mul_zero] at c; omega
        have ta : 0 < t * a := by omega
        have ln : lst1 (a :: b :: r) ≠ 0 := fun z => by rw [z, Int.mul_zero] at h; omega
        rw [vr_cons, if_neg an, Int.zero_mul, if_neg (by omega), Nat.zero_add] at hv
        have v := vr_01 (b :: r) a an ln
        have v0 : vr a (b :: r) = 0 := by
          by_cases q : vr a (b :: r) = 1
          · have w := v.2 q
            have w2 : lst1 (a :: b :: r) = lst1 (b :: r) := rfl
            rw [w2, mul_neg_iff] at w
            rcases ht with p | p <;> subst p <;> omega
          · omega
        exact dsc0 (b :: r) a t ht ta v0 s1 (Rat.le_of_lt s0)
    obtain ⟨i1, i2⟩ := dsc1 (b :: r) t ht hl hv' s1 s2 s0 s12 Rn
    have m1 := Rat.mul_le_mul_of_nonneg_left i1 (Rat.le_of_lt s0)
    have m2 := Rat.mul_lt_mul_of_pos_right s12 i2
    rw [pev_c a (b :: r) s1, pev_c a (b :: r) s2]
    generalize pev (b :: r) s1 = V at hq Rn i1 m1 ⊢
    generalize pev (b :: r) s2 = W at i1 i2 m1 m2 ⊢
    have f : (t : Rat) * ((a : Rat) + s1 * V) < (t : Rat) * ((a : Rat) + s2 * W) := by grind
    exact ⟨Rat.le_of_lt f, by grind⟩
theorem dsc2 : ∀ (q : List Int) (t : Int), (t = 1 ∨ t = -1) → 0 < t * lst1 q → vr 0 q = 0 → ∀ s : Rat, 0 < s → 0 < (t : Rat) * pev q s
  | [], t, _, h, _, _, _ => by
    rw [show lst1 [] = 0 from rfl, Int.mul_zero] at h
    omega
  | [a], t, _, h, _, s, _ => by
    have e : pev [a] s = (a : Rat) := by
      show (a : Rat) + s * 0 = _
      grind
    rw [e]
    exact ti_p h
  | a :: b :: r, t, ht, h, hv, s, s0 => by
    have hl : 0 < t * lst1 (b :: r) := h
    have hv' : vr 0 (b :: r) = 0 := by
      have := @vr_del1 0 a (b :: r)
      omega
    have ih := dsc2 (b :: r) t ht hl hv' s s0
    have ms := Rat.mul_pos s0 ih
    have ta : 0 ≤ t * a := by
      by_cases c : a = 0
      · rw [c, Int.mul_zero]; exact Int.le_refl _
      · have ln : lst1 (a :: b :: r) ≠ 0 := fun z => by rw [z, Int.mul_zero] at h; omega
        rw [vr_cons, if_neg c, Int.zero_mul, if_neg (by omega), Nat.zero_add] at hv
        have w := (vr_01 (b :: r) a c ln).1 hv
        have w2 : lst1 (a :: b :: r) = lst1 (b :: r) := rfl
        rw [w2] at w
        rcases Int.lt_trichotomy a 0 with p | p | p
        · have : lst1 (b :: r) < 0 := by
            refine Int.lt_of_not_ge fun z => ?_
            have := Int.mul_nonpos_of_nonpos_of_nonneg (Int.le_of_lt p) z
            omega
          rcases ht with z | z <;> subst z <;> omega
        · exact absurd p c
        · have : 0 < lst1 (b :: r) := by
            refine Int.lt_of_not_ge fun z => ?_
            have := Int.mul_nonpos_of_nonneg_of_nonpos (Int.le_of_lt p) z
            omega
          rcases ht with z | z <;> subst z <;> omega
    have a1 := ti_nn ta
    rw [pev_c]
    generalize pev (b :: r) s = V at ms ⊢
    grind
/-- the row that is counted, at 1 / y - 1 -/
theorem pT_ev (m : List Int) {y : Rat} (y0 : 0 < y) : ∃ k : Rat, 0 < k ∧ pev (pT m) (1 / y - 1) = k * pev m y := by
  have yn : y ≠ 0 := by grind
  have iy : (1 / y) * y = 1 := Rat.div_mul_cancel yn
  have sp : 0 < 1 / y := by
    refine Rat.not_le.1 fun q => ?_
    have := Rat.mul_le_mul_of_nonneg_right q (Rat.le_of_lt y0)
    grind
  have sn : (1 / y : Rat) ≠ 0 := by grind
  have rv := rev_ev sn m
  rw [show (1 : Rat) / (1 / y) = y by grind] at rv
  have kp := rp_pos sp m.length
  refine ⟨(1 / y) ^ m.length * y, Rat.mul_pos kp y0, ?_⟩
  rw [pT, pS_ev, show (1 : Rat) + (1 / y - 1) = 1 / y by grind]
  generalize pev m.reverse (1 / y) = V at rv ⊢
  generalize (1 / y) ^ m.length = S at rv ⊢
  generalize pev m y = U at rv ⊢
  generalize (1 / y : Rat) = z at iy rv
  have : y * (z * V) = y * (S * U) := by rw [rv]
  grind
theorem leaf_one {m : List Int} {t : Int} (ht : t = 1 ∨ t = -1) (hs : 0 < t * pgt m 0) (h1 : pV m ≤ 1) {x y : Rat} (x0 : 0 ≤ x) (xy : x < y) (y1 : y < 1) (hy : 0 ≤ (t : Rat) * pev m y) : 0 < (t : Rat) * pev m x := by
  by_cases c : x = 0
  · rw [c, pev_0]
    exact ti_p hs
  · have xp : 0 < x := by grind
    have yp : 0 < y := by grind
    obtain ⟨k1, k10, e1⟩ := pT_ev m yp
    obtain ⟨k2, k20, e2⟩ := pT_ev m xp
    have ix : (1 / x) * x = 1 := Rat.div_mul_cancel c
    have iy : (1 / y) * y = 1 := Rat.div_mul_cancel (by grind)
    have s0 : 0 < 1 / y - 1 := by
      have : 1 < 1 / y := (Rat.lt_div_iff yp).2 (by grind)
      grind
    have s12 : 1 / y - 1 < 1 / x - 1 := by
      have : 1 / y < 1 / x := by
        rw [Rat.lt_div_iff xp]
        have p : 0 < 1 / y := by
          refine Rat.not_le.1 fun q => ?_
          have := Rat.mul_le_mul_of_nonneg_right q (Rat.le_of_lt yp)
          grind
        have := Rat.mul_lt_mul_of_pos_left xy p
        grind
      grind
    have q1 : 0 ≤ (t : Rat) * pev (pT m) (1 / y - 1) := by
      rw [e1]
      have := Rat.mul_nonneg (Rat.le_of_lt k10) hy
      generalize pev m y = V at this ⊢
      grind
    have d := (dsc1 (pT m) t ht (by rw [lst1_T]; exact hs) h1 _ _ s0 s12 q1).2
    rw [e2] at d
    refine Rat.not_le.1 fun z => ?_
    have := Rat.mul_le_mul_of_nonneg_left z (Rat.le_of_lt k20)
    generalize pev m x = V at this d
    grind
theorem leaf_zero {m : List Int} {t : Int} (ht : t = 1 ∨ t = -1) (hs : 0 < t * pgt m 0) (h1 : pV m = 0) {x : Rat} (x0 : 0 ≤ x) (x1 : x < 1) : 0 < (t : Rat) * pev m x := by
  by_cases c : x = 0
  · rw [c, pev_0]
    exact ti_p hs
  · have xp : 0 < x := by grind
    obtain ⟨k2, k20, e2⟩ := pT_ev m xp
    have s0 : 0 < 1 / x - 1 := by
      have : 1 < 1 / x := (Rat.lt_div_iff xp).2 (by grind)
      grind
    have d := dsc2 (pT m) t ht (by rw [lst1_T]; exact hs) h1 _ s0
    rw [e2] at d
    refine Rat.not_le.1 fun z => ?_
    have := Rat.mul_le_mul_of_nonneg_left z (Rat.le_of_lt k20)
    generalize pev m x = V at this d
    grind
/-- the values of a node's row -/
theorem node_ev {P : List Int} {d t : Nat} {c st : Int} (hP : pdb P (d + 1)) (b1 : -(2 ^ t) ≤ c) (b2 : c ≤ 2 ^ t) : ∃ K : Rat, 0 < K ∧ ∀ z : Rat, pev (nM (Af P d st) t c) z = K * pev P (xv c (st + t) + wR (st + t) * z) := by
  obtain ⟨ka, k0, h⟩ := Af_P (st := st) hP
  have tp := q2p t
  refine ⟨2 ^ (t * ((Af P d st).length - 1)) * ka, Rat.mul_pos (q2p _) k0, fun z => ?_⟩
  have ev := nM_ev (Af P d st) ((c : Rat) / 2 ^ t + z / 2 ^ t) t c b1 b2
  have e1 : (2 : Rat) ^ t * ((c : Rat) / 2 ^ t + z / 2 ^ t) - c = z := by grind
  rw [e1, h, show (c : Rat) / 2 ^ t + z / 2 ^ t + 1 - 1 = (c : Rat) / 2 ^ t + z / 2 ^ t by grind] at ev
  have e2 : wR st * ((c : Rat) / 2 ^ t + z / 2 ^ t) = xv c (st + t) + wR (st + t) * z := by
    rw [Rat.mul_add, node_x]
    have := wR_t st t
    have e3 : wR st * (z / 2 ^ t) = wR (st + t) * z := by
      rw [this]
      generalize wR (st + t) = W
      grind
    rw [e3]
  rw [e2] at ev
  rw [ev, Rat.mul_assoc]
theorem wR_256 : wR 256 = w256 := rfl
