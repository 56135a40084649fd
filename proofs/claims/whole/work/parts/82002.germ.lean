theorem nzp_ev {F : List Int} (h : nzp F) : ∃ x : Rat, pev F x ≠ 0 := by
  refine Classical.byContradiction fun n => ?_
  obtain ⟨k, hk⟩ := h
  exact hk (pev_zero (fun x => Classical.byContradiction fun q => n ⟨x, q⟩) k)
theorem pdl_ln {F : List Int} {n : Nat} (h : pdb F (n + 1)) : pdb (pdl F) n := fun k hk => by rw [pdl_gt, h (k + 1) (by omega), Int.zero_mul]
theorem const_ev {F : List Int} (h : ∀ k, pgt F (k + 1) = 0) (x : Rat) : pev F x = (pgt F 0 : Rat) := by
  have e : pev F x = pev [pgt F 0] x := pev_eq (fun k => by
    cases k with
    | zero => rfl
    | succ k => rw [h k]; cases k <;> rfl) x
  rw [e]
  show (pgt F 0 : Rat) + x * pev [] x = _
  show (pgt F 0 : Rat) + x * 0 = _
  grind
theorem rsg_pos {x : Rat} (h : 0 < x) : rsg x = 1 := by rcases rsg_c x with ⟨a, b⟩ | ⟨a, b⟩ | ⟨a, b⟩ <;> grind
theorem rsg_neg {x : Rat} (h : x < 0) : rsg x = -1 := by rcases rsg_c x with ⟨a, b⟩ | ⟨a, b⟩ | ⟨a, b⟩ <;> grind
theorem rsg_p {x : Rat} (h : rsg x = 1) : 0 < x := by rcases rsg_c x with ⟨a, b⟩ | ⟨a, b⟩ | ⟨a, b⟩ <;> grind
theorem rsg_n {x : Rat} (h : rsg x = -1) : x < 0 := by rcases rsg_c x with ⟨a, b⟩ | ⟨a, b⟩ | ⟨a, b⟩ <;> grind
theorem rsg_ng (x : Rat) : rsg (-x) = - rsg x := by
  rcases rsg_c x with ⟨a, b⟩ | ⟨a, b⟩ | ⟨a, b⟩
  · rw [b, a]; decide
  · rw [b, rsg_neg (by grind)]
  · rw [b, rsg_pos (by grind)]; rfl
theorem psm_m1 (F : List Int) (x : Rat) : pev (psm (-1) F) x = - pev F x := by
  rw [psm_ev]
  show ((-1 : Int) : Rat) * _ = _
  rw [show ((-1 : Int) : Rat) = -1 from rfl]
  grind
theorem pdl_m1 (F : List Int) (x : Rat) : pev (pdl (psm (-1) F)) x = - pev (pdl F) x := by
  rw [pdl_sm]
  rw [show ((-1 : Int) : Rat) = -1 from rfl]
  grind
/-- F rises on the left of c, near it: so its sign is told there -/
theorem germ_up {F : List Int} {c : Rat → Int} (h : cut c) {u0 : Rat} (hu : c u0 = 1) (hd : ∀ u, u0 ≤ u → c u = 1 → 0 < pev (pdl F) u) : ∃ t, (t = 1 ∨ t = -1) ∧ gml F c t := by
  have up : ∀ x y, u0 ≤ x → x < y → c y = 1 → pev F x < pev F y := fun x y h1 h2 h3 => mono_s h2 (fun z z1 z2 => hd z (Rat.le_trans h1 z1) (cut_le1 h h3 z2))
  by_cases q : ∃ u1, u0 ≤ u1 ∧ c u1 = 1 ∧ 0 ≤ pev F u1
  · obtain ⟨u1, a1, a2, a3⟩ := q
    obtain ⟨u2, b1, b2⟩ := h.2.2.2.1 u1 a2
    have f2 := up u1 u2 a1 b1 b2
    refine ⟨1, Or.inl rfl, u2, b2, fun u h1 h2 => rsg_pos ?_⟩
    rcases Rat.le_iff_lt_or_eq.1 h1 with z | z
    · have := up u2 u (by grind) z h2
      grind
    · rw [← z]; grind
  · refine ⟨-1, Or.inr rfl, u0, hu, fun u h1 h2 => rsg_neg (Rat.not_le.1 fun z => q ⟨u, h1, h2, z⟩)⟩
theorem germ_upr {F : List Int} {c : Rat → Int} (h : cut c) {v0 : Rat} (hv : c v0 = -1) (hd : ∀ v, v ≤ v0 → c v = -1 → 0 < pev (pdl F) v) : ∃ t, (t = 1 ∨ t = -1) ∧ gmr F c t := by
  have up : ∀ x y, y ≤ v0 → x < y → c x = -1 → pev F x < pev F y := fun x y h1 h2 h3 => mono_s h2 (fun z z1 z2 => hd z (Rat.le_trans z2 h1) (cut_ge1 h h3 z1))
  by_cases q : ∃ v1, v1 ≤ v0 ∧ c v1 = -1 ∧ pev F v1 ≤ 0
  · obtain ⟨v1, a1, a2, a3⟩ := q
    obtain ⟨v2, b1, b2⟩ := h.2.2.2.2 v1 a2
    have f2 := up v2 v1 a1 b1 b2
    refine ⟨-1, Or.inr rfl, v2, b2, fun v h1 h2 => rsg_neg ?_⟩
    rcases Rat.le_iff_lt_or_eq.1 h1 with z | z
    · have := up v v2 (by grind) z h2
      grind
    · rw [z]; grind
  · refine ⟨1, Or.inl rfl, v0, hv, fun v h1 h2 => rsg_pos (Rat.not_le.1 fun z => q ⟨v, h1, h2, z⟩)⟩
theorem gml_m1 {F : List Int} {c : Rat → Int} {t : Int} (h : gml (psm (-1) F) c t) : gml F c (-t) := by
  obtain ⟨u, u1, u2⟩ := h
  exact ⟨u, u1, fun z h1 h2 => by
    have := u2 z h1 h2
    rw [psm_m1, rsg_ng] at this
    omega⟩
theorem gmr_m1 {F : List Int} {c : Rat → Int} {t : Int} (h : gmr (psm (-1) F) c t) : gmr F c (-t) := by
  obtain ⟨u, u1, u2⟩ := h
  exact ⟨u, u1, fun z h1 h2 => by
    have := u2 z h1 h2
    rw [psm_m1, rsg_ng] at this
    omega⟩
/-- every polynomial that is not 0 has a sign on each side of a number, near it -/
theorem germ {c : Rat → Int} (h : cut c) : ∀ (n : Nat) (F : List Int), pdb F n → nzp F → (∃ t, (t = 1 ∨ t = -1) ∧ gml F c t) ∧ ∃ t, (t = 1 ∨ t = -1) ∧ gmr F c t
  | 0, F, hn, ⟨k, hk⟩ => absurd (hn k (by omega)) hk
  | n + 1, F, hn, hz => by
    by_cases q : nzp (pdl F)
    · obtain ⟨⟨t, t1, u0, hu, hd⟩, w, w1, v0, hv, he⟩ := germ h n (pdl F) (pdl_ln hn) q
      constructor
      · rcases t1 with t1 | t1
        · subst t1
          exact germ_up h hu (fun u h1 h2 => rsg_p (hd u h1 h2))
        · subst t1
          obtain ⟨t, a, b⟩ := germ_up (F := psm (-1) F) h hu (fun u h1 h2 => by rw [pdl_m1]; have := rsg_n (hd u h1 h2); grind)
          exact ⟨-t, by omega, gml_m1 b⟩
      · rcases w1 with w1 | w1
        · subst w1
          exact germ_upr h hv (fun u h1 h2 => rsg_p (he u h1 h2))
        · subst w1
          obtain ⟨t, a, b⟩ := germ_upr (F := psm (-1) F) h hv (fun u h1 h2 => by rw [pdl_m1]; have := rsg_n (he u h1 h2); grind)
          exact ⟨-t, by omega, gmr_m1 b⟩
    · have z : ∀ k, pgt F (k + 1) = 0 := fun k => by
        have : pgt (pdl F) k = 0 := Classical.byContradiction fun w => q ⟨k, w⟩
        rw [pdl_gt] at this
        rcases Int.mul_eq_zero.1 this with w | w
        · exact w
        · omega
      have f0 : pgt F 0 ≠ 0 := by
        obtain ⟨k, hk⟩ := hz
        cases k with
        | zero => exact hk
        | succ k => exact absurd (z k) hk
      obtain ⟨⟨a, ha⟩, b, hb⟩ := h.2.2.1
      have cs : ∀ x, rsg (pev F x) = rsg (pgt F 0 : Rat) := fun x => by rw [const_ev z]
      have s1 : rsg (pgt F 0 : Rat) = 1 ∨ rsg (pgt F 0 : Rat) = -1 := by
        rcases rsg_c (pgt F 0 : Rat) with ⟨p, _⟩ | ⟨_, p⟩ | ⟨_, p⟩
        · exact absurd (Rat.intCast_inj.1 (p.trans rat_i0.symm)) f0
        · exact Or.inl p
        · exact Or.inr p
      exact ⟨⟨_, s1, a, ha, fun u _ _ => cs u⟩, _, s1, b, hb, fun u _ _ => cs u⟩
