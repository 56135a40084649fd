/-! refine -/
theorem mul_ng {a b : Rat} (ha : 0 < a) (hb : b < 0) : a * b < 0 := by
  have h := Rat.mul_pos ha (show 0 < -b by grind)
  rw [Rat.mul_neg] at h
  grind
theorem flip2 {a b : Rat} (ha : a ≠ 0) (hb : b ≠ 0) : rsg a ≠ rsg b ↔ a * b < 0 := by
  rcases rsg_c a with ⟨q, _⟩ | ⟨q, q'⟩ | ⟨q, q'⟩
  · exact absurd q ha
  · rcases rsg_c b with ⟨w, _⟩ | ⟨w, w'⟩ | ⟨w, w'⟩
    · exact absurd w hb
    · have := Rat.mul_pos q w
      exact ⟨fun h => absurd (q'.trans w'.symm) h, fun h => by grind⟩
    · exact ⟨fun _ => mul_ng q w, fun _ h => by rw [q', w'] at h; omega⟩
  · rcases rsg_c b with ⟨w, _⟩ | ⟨w, w'⟩ | ⟨w, w'⟩
    · exact absurd w hb
    · exact ⟨fun _ => by rw [Rat.mul_comm]; exact mul_ng w q, fun _ h => by rw [q', w'] at h; omega⟩
    · have := Rat.mul_pos (show 0 < -a by grind) (show 0 < -b by grind)
      rw [Rat.mul_neg, Rat.neg_mul, Rat.neg_neg] at this
      exact ⟨fun h => absurd (q'.trans w'.symm) h, fun h => by grind⟩
/-- a root that is no fraction, at any fineness -/
def rfi (s : im_S) (R f : Int) (F : List Int) (h : Int) (E : Nat) : Prop := wga s 610 R = f ∧ wga s 611 R = 700000 - 200 * (R + 1) ∧ wga s 612 R = (E : Int) ∧ num s (700000 - 200 * (R + 1)) h ∧ h.natAbs + 1 ≤ 2 ^ (E + 94) ∧ (∀ x : Rat, (h : Rat) * wd E ≤ x → x ≤ ((h : Rat) + 1) * wd E → pev F x ≠ 0) ∧ pev F ((h : Rat) * wd E) * pev F (((h : Rat) + 1) * wd E) < 0 ∧ wga s 613 R = rsg (pev F ((h : Rat) * wd E))
theorem rti_rfi {s : im_S} {R f : Int} {F : List Int} {lo hi : Rat} (h : rti s R f F lo hi) : ∃ (h : Int) (E : Nat), E ≤ 650 ∧ rfi s R f F h E ∧ lo ≤ (h : Rat) * wd E ∧ ((h : Rat) + 1) * wd E ≤ hi := by
  obtain ⟨z1, z2, h, e, z3, z4, z5, z6, z7, z8, z9, z10, z11, z12, z13⟩ := h
  obtain ⟨E, rfl⟩ : ∃ E : Nat, e = E := ⟨e.toNat, by omega⟩
  refine ⟨h, E, by omega, ⟨z1, z2, z3, z4, ?_, z11, z12, z13⟩, z9, z10⟩
  have w := z7.2.2
  rw [show ((E : Int) + 93).toNat = E + 93 by omega] at w
  have o : 1 ≤ 2 ^ (E + 93) := Nat.one_le_two_pow
  have d : 2 ^ (E + 94) = 2 ^ (E + 93) * 2 := Nat.pow_succ _ _
  omega
theorem rfi_lim {h : Int} {E : Nat} (w : h.natAbs + 1 ≤ 2 ^ (E + 94)) : lim h ≤ (E + 94) / 29 + 1 := by
  have a := lim_lt (2 ^ (E + 94))
  have b := lim_p2 (E + 94)
  rw [Int.natAbs_pow] at a
  have c : lim h ≤ lim (2 ^ (E + 94)) := lim_le (Nat.lt_of_lt_of_le (Nat.lt_of_succ_le w) (Nat.le_of_lt a))
  omega
def rfr (R : Int) (s s' : im_S) : Prop := (∀ c f : Nat, ¬ (c = 582 ∧ f = 25) → s'.1 c f = s.1 c f) ∧ (∀ c i : Nat, ¬ (c = 597 ∧ wgf s 24 ≤ (i : Int) ∧ (i : Int) < 684000) → ¬ (c = 597 ∧ 700000 - 200 * (R + 1) ≤ (i : Int) ∧ (i : Int) < 700000 - 200 * R) → ¬ (c = 612 ∧ (i : Int) = R) → s'.2 c i = s.2 c i)
theorem mid_ev (h : Int) (E : Nat) : ((h * 2 : Int) : Rat) * wd ((E + 1 : Nat) : Int) = (h : Rat) * wd E ∧ (((h * 2 + 1 : Int) : Rat) + 1) * wd ((E + 1 : Nat) : Int) = ((h : Rat) + 1) * wd E := by
  have z := wd_2 h E
  refine ⟨z.1, ?_⟩
  have w := z.2
  rw [Rat.intCast_add] at w
  exact w
theorem refine_106 {s0 s : im_S} {R f : Int} {F : List Int} {h' x : Int} {E : Nat} {Q : im_S → Prop} (hR : 0 ≤ R ∧ R ≤ 79) (hE : E ≤ 2400) (hr : wga s 611 R = 700000 - 200 * (R + 1)) (h10 : wga s 610 R = f) (h12 : wga s 612 R = ((E + 1 : Nat) : Int)) (h13 : wga s 613 R = rsg (pev F ((h' : Rat) * wd ((E + 1 : Nat) : Int)))) (hn : nm s x h') (hlo : wgf s 24 ≤ 684000) (hb : h'.natAbs + 1 ≤ 2 ^ (E + 1 + 94)) (hz : ∀ x : Rat, (h' : Rat) * wd ((E + 1 : Nat) : Int) ≤ x → x ≤ ((h' : Rat) + 1) * wd ((E + 1 : Nat) : Int) → pev F x ≠ 0) (hs : pev F ((h' : Rat) * wd ((E + 1 : Nat) : Int)) * pev F (((h' : Rat) + 1) * wd ((E + 1 : Nat) : Int)) < 0) (hfr : rfr R s0 (wpf s 24 (wgf s0 24))) (hQ : ∀ s', rfr R s0 s' → rfi s' R f F h' (E + 1) → Q s') : W_refine_106 R (wgf s0 24) x s Q := by
  unfold W_refine_106
  have lh := rfi_lim hb
  have n0 := hn.1.1
  have n2 := hn.2
  rw [hr]
  refine ⟨⟨hR.1, by omega⟩, copyTo_ok hn.1 (by omega) (by omega) (Or.inr (by omega)) (fun s1 a1 a2 a3 s2 e2 => ?_)⟩
  have rr : ∀ (c : Nat) (i : Int), c ≠ 597 → wga s2 c i = wga s c i := fun c i hc => by rw [e2, wg_pf, ag_r a1 hc]
  refine hQ s2 ⟨fun c g q => ?_, fun c i q1 q2 q3 => ?_⟩ ⟨by rw [rr _ _ (by decide)]; exact h10, by rw [rr _ _ (by decide)]; exact hr, by rw [rr _ _ (by decide)]; exact h12, ?_, hb, hz, hs, by rw [rr _ _ (by decide)]; exact h13⟩
  · rw [← hfr.1 c g q, e2]
    by_cases w : c = 582 ∧ g = 24
    · rw [w.1, w.2]
      exact (wf_same (s := s1) (f := 24)).trans (wf_same (s := s) (f := 24)).symm
    · have u1 : (wpf s1 24 (wgf s0 24)).1 c g = s1.1 c g := im_up_ne w
      have u2 : (wpf s 24 (wgf s0 24)).1 c g = s.1 c g := im_up_ne w
      rw [u1, u2]
      exact a1.1 c g (fun z => by rcases z.2 with k | k; exact w ⟨z.1, k⟩; exact q ⟨z.1, k⟩)
  · rw [← hfr.2 c i q1 q2 q3, e2]
    show s1.2 c i = s.2 c i
    exact a1.2 c i (fun z => q2 ⟨z.1, by omega, by omega⟩)
  · rw [e2]
    exact num_co a2 a2.1 a2.2.1 (fun _ _ _ => rfl)
