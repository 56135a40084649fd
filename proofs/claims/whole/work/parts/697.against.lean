/-! against: frames -/
theorem le_of_q {a b q : Rat} (hq : 0 < q) (h : a * q ≤ b * q) : a ≤ b := by
  refine Rat.not_lt.1 (fun w => ?_)
  have := Rat.mul_pos (show 0 < a - b by grind) hq
  grind
theorem rfr_rfl {R : Int} {s : im_S} : rfr R s s := ⟨fun _ _ _ => rfl, fun _ _ _ _ _ => rfl⟩
theorem rfr_24 {R : Int} {s s' : im_S} (h : rfr R s s') : wgf s' 24 = wgf s 24 := h.1 582 24 (by decide)
theorem rfr_tr {R : Int} {s s1 s2 : im_S} (h1 : rfr R s s1) (h2 : rfr R s1 s2) : rfr R s s2 := ⟨fun c f q => (h2.1 c f q).trans (h1.1 c f q), fun c i q1 q2 q3 => (h2.2 c i (by rw [rfr_24 h1]; exact q1) q2 q3).trans (h1.2 c i q1 q2 q3)⟩
theorem sb_rfr {R : Int} {s s' : im_S} (h : sb s s') : rfr R s s' := by
  refine ⟨fun c f q => ?_, fun c i q1 _ _ => h.1.1.2 c i q1⟩
  by_cases w : c = 582 ∧ f = 24
  · rw [w.1, w.2]; exact h.2
  · exact h.1.1.1 c f (fun z => by rcases z.2 with k | k; exact w ⟨z.1, k⟩; exact q ⟨z.1, k⟩)
theorem rfr_pol {R f : Int} {F : List Int} {s s' : im_S} (h : rfr R s s') (hR : R ≤ 79) (hl : wgf s 24 ≤ 684000) (hf : pol s f F) : pol s' f F := by
  obtain ⟨f1, f2, f3, f4, f5, f6⟩ := hf
  have e24 := rfr_24 h
  have e28 : wgf s' 28 = wgf s 28 := h.1 582 28 (by decide)
  have rr : ∀ (c : Nat) (i : Int), c ≠ 597 → c ≠ 612 → wga s' c i = wga s c i := fun c i h1 h2 => h.2 c i.toNat (fun z => h1 z.1) (fun z => h1 z.1) (fun z => h2 z.1)
  refine ⟨f1, by omega, by omega, f4, by rw [rr _ _ (by decide) (by decide)]; exact f5, fun i hi => ?_⟩
  rw [rr _ _ (by decide) (by decide)]
  obtain ⟨n1, n2⟩ := f6 i hi
  have z0 := n1.1
  refine ⟨num_co n1 n1.1 n1.2.1 (fun t t1 t2 => ?_), by omega⟩
  exact h.2 597 (wga s 599 (9 * f + i) + t).toNat (by omega) (by omega) (by omega)
theorem st_rfi {s s' : im_S} {R f h : Int} {F : List Int} {E : Nat} (a : st s s') (hR : R ≤ 79) (hi : rfi s R f F h E) : rfi s' R f F h E := by
  obtain ⟨i1, i2, i3, i4, i5, i6, i7, i8⟩ := hi
  exact ⟨by rw [st_row a (by decide)]; exact i1, by rw [st_row a (by decide)]; exact i2, by rw [st_row a (by decide)]; exact i3, num_ag i4 a.1 (Or.inr (by omega)), i5, i6, i7, by rw [st_row a (by decide)]; exact i8⟩
theorem cmp_le {p q h : Int} {E : Nat} (hq : 0 < q) (a : p * 2 ^ E ≤ h * q) : (p : Rat) / (q : Rat) ≤ (h : Rat) * wd E := by
  have c := Rat.intCast_le_intCast.2 a
  rw [Rat.intCast_mul, Rat.intCast_mul, Rat.intCast_pow] at c
  have two : ((2 : Int) : Rat) = 2 := rfl
  rw [two] at c
  have wE := wd_nat E
  have wp := wd_pos (E : Int)
  have d := Rat.mul_le_mul_of_nonneg_right c (Rat.le_of_lt wp)
  have q0 : (0 : Rat) < (q : Rat) := Rat.intCast_pos.2 hq
  refine le_of_q q0 ?_
  rw [Rat.div_mul_cancel (by grind)]
  generalize (2 : Rat) ^ E = T at wE d
  generalize wd (E : Int) = w at wE d ⊢
  rw [show (p : Rat) * T * w = p * (w * T) by grind, wE] at d
  grind
theorem cmp_ge {p q h : Int} {E : Nat} (hq : 0 < q) (a : h * q ≤ p * 2 ^ E) : (h : Rat) * wd E ≤ (p : Rat) / (q : Rat) := by
  have c := Rat.intCast_le_intCast.2 a
  rw [Rat.intCast_mul, Rat.intCast_mul, Rat.intCast_pow] at c
  have two : ((2 : Int) : Rat) = 2 := rfl
  rw [two] at c
  have wE := wd_nat E
  have wp := wd_pos (E : Int)
  have d := Rat.mul_le_mul_of_nonneg_right c (Rat.le_of_lt wp)
  have q0 : (0 : Rat) < (q : Rat) := Rat.intCast_pos.2 hq
  refine le_of_q q0 ?_
  rw [Rat.div_mul_cancel (by grind)]
  generalize (2 : Rat) ^ E = T at wE d
  generalize wd (E : Int) = w at wE d ⊢
  rw [show (p : Rat) * T * w = p * (w * T) by grind, wE] at d
  grind
