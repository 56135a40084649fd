/-! refine, its walk -/
theorem rfr_st {R : Int} {s0 s : im_S} (hfs : ∀ c f : Nat, ¬ (c = 582 ∧ (f = 24 ∨ f = 25)) → s.1 c f = s0.1 c f) (hrs : ∀ c i : Nat, ¬ (c = 597 ∧ wgf s0 24 ≤ (i : Int) ∧ (i : Int) < 684000) → ¬ (c = 612 ∧ (i : Int) = R) → s.2 c i = s0.2 c i) : rfr R s0 (wpf s 24 (wgf s0 24)) := by
  refine ⟨fun c f q => ?_, fun c i q1 _ q3 => hrs c i q1 q3⟩
  by_cases w : c = 582 ∧ f = 24
  · rw [w.1, w.2]
    exact wf_same (s := s) (f := 24)
  · have u : (wpf s 24 (wgf s0 24)).1 c f = s.1 c f := im_up_ne w
    rw [u]
    exact hfs c f (fun z => by rcases z.2 with k | k; exact w ⟨z.1, k⟩; exact q ⟨z.1, k⟩)
theorem refine_ok {s : im_S} {R f h : Int} {F : List Int} {E : Nat} {Q : im_S → Prop} (hR : 0 ≤ R ∧ R ≤ 79) (hE : E ≤ 2400) (hf : pol s f F) (fF : fct F) (hi : rfi s R f F h E) (h0 : 0 ≤ wgf s 24) (hm : wgf s 24 + 300000 ≤ 684000) (hQ : ∀ (s' : im_S) (h' : Int), h' = h * 2 ∨ h' = h * 2 + 1 → rfr R s s' → rfi s' R f F h' (E + 1) → Q s') : W_refine R s Q := by
  unfold W_refine
  obtain ⟨i1, i2, i3, i4, i5, i6, i7, i8⟩ := hi
  have lh := rfi_lim i5
  have R9 : 0 ≤ R ∧ R < 90 := ⟨hR.1, by omega⟩
  have l2 : lim 2 ≤ 2 := lim_b9 (by decide) (by decide)
  have l1 := lim_one
  have lm := lim_mul h 2
  have la := lim_add (h * 2) 1
  have nh : na s (700000 - 200 * (R + 1)) h := ⟨i4, Or.inr (by omega)⟩
  refine ⟨R9, whole_ok ⟨by decide, by decide⟩ h0 (by omega) (fun s1 a1 a2 a3 => ?_)⟩
  have a12 := a1.2
  rw [i2]
  refine by_ka (st_na a1 nh) (nm_na a2) (by omega) (by omega) (fun s2 b1 b2' b3 => ?_)
  have b2 : nm s2 (wgf s1 24) (h * 2) := ⟨b2'.1, by omega⟩
  have b12 := b1.2
  refine whole_ok ⟨by decide, by decide⟩ (by omega) (by omega) (fun s3 c1 c2 c3 => ?_)
  have c12 := c1.2
  refine plus_ok (st_nm c1 b2) c2 (by omega) (by omega) (fun s4 d1 d2 d3 => ?_)
  have d12 := d1.2
  have t4 : st s s4 := st_tr a1 (st_tr b1 (st_tr c1 d1))
  have e12 : wga s4 612 R = (E : Int) := by rw [st_row t4 (by decide)]; exact i3
  refine ⟨R9, by rw [e12]; exact ⟨by omega, by omega⟩, R9, fun s5 e5 => ⟨R9, ?_⟩⟩
  rw [e12] at e5
  have r512 : wga s5 612 R = ((E + 1 : Nat) : Int) := by rw [e5]; exact wg_same
  have r5 : ∀ (c : Nat) (i : Int), c ≠ 597 → c ≠ 612 → wga s5 c i = wga s c i := fun c i h1 h2 => by rw [e5, wg_row h2, st_row t4 h1]
  have t5 : wgf s5 24 = wgf s4 24 := by rw [e5]; rfl
  rw [r512, r5 610 R (by decide) (by decide), i1]
  have q1 : lim (2 ^ (E + 1)) ≤ 84 := by
    have := lim_p2 (E + 1)
    omega
  have q2 : (((E + 1 : Nat) : Int) + 40) * (lim (2 ^ (E + 1)) + 3) ≤ 2441 * 87 := by
    have b' : (E + 1 + 40) * (lim (2 ^ (E + 1)) + 3) ≤ 2441 * 87 := Nat.mul_le_mul (by omega) (by omega)
    exact Int.ofNat_le.2 b'
  have p5 : pol s5 f F := by rw [e5]; exact pol_pa (by decide) (by decide) (by decide) (st_pol t4 hf)
  have n5 : nm s5 (wgf s3 24) (h * 2 + 1) := by rw [e5]; exact nm_pc (by decide) d2
  refine powerOfTwo_ok (by omega) (by omega) (by omega) (fun s6 g1 g2 g3 => ?_)
  have g12 := g1.2
  refine signAt2_na (K := 90) (st_pol g1 p5) (pab_lb (fct_pab fF)) fF.1.1 (nm_na (st_nm g1 n5)) g2 (by omega) (by omega) (by omega) (by omega) (fun s7 k1 => ⟨R9, fun v ev => ?_⟩)
  have k12 := k1.2
  have t7 : st s5 s7 := st_tr g1 k1.1
  have r7 : ∀ (c : Nat) (i : Int), c ≠ 597 → wga s7 c i = wga s5 c i := fun c i h1 => st_row t7 h1
  have e13 : wga s7 613 R = rsg (pev F ((h : Rat) * wd E)) := by rw [r7 _ _ (by decide), r5 _ _ (by decide) (by decide)]; exact i8
  have sgn : psg F (h * 2 + 1) (2 ^ (E + 1)) = rsg (pev F (((h * 2 + 1 : Int) : Rat) * wd ((E + 1 : Nat) : Int))) := by
    have hv := hf_ev (h * 2 + 1) ((E + 1 : Nat) : Int)
    unfold hfp hfq at hv
    rw [if_neg (by omega), if_neg (by omega), Int.toNat_natCast] at hv
    rw [psg_ev fF.1.1 hv.2, hv.1]
  rw [sgn, e13] at ev
  obtain ⟨m1, m2⟩ := mid_ev h E
  have wp := wd_pos ((E + 1 : Nat) : Int)
  have c2a : ((h * 2 + 1 : Int) : Rat) = ((h * 2 : Int) : Rat) + 1 := by rw [Rat.intCast_add]; rfl
  have d1' : (h : Rat) * wd E ≤ ((h * 2 + 1 : Int) : Rat) * wd ((E + 1 : Nat) : Int) := by rw [← m1, c2a]; grind
  have d2' : ((h * 2 + 1 : Int) : Rat) * wd ((E + 1 : Nat) : Int) ≤ ((h : Rat) + 1) * wd E := by rw [← m2]; grind
  have le : (h : Rat) * wd E ≤ ((h : Rat) + 1) * wd E := Rat.le_trans d1' d2'
  have zl := i6 _ Rat.le_refl le
  have zm := i6 _ d1' d2'
  have zr := i6 _ le Rat.le_refl
  have pw2 : 2 ^ (E + 1 + 94) = 2 ^ (E + 94) * 2 := Nat.pow_succ _ _
  have n7 : nm s7 (wgf s3 24) (h * 2 + 1) := st_nm t7 n5
  have fs7 : ∀ c f : Nat, ¬ (c = 582 ∧ (f = 24 ∨ f = 25)) → s7.1 c f = s.1 c f := fun c f q => by
    rw [t7.1.1 c f q, e5]
    exact t4.1.1 c f q
  have rs7 : ∀ c i : Nat, ¬ (c = 597 ∧ wgf s 24 ≤ (i : Int) ∧ (i : Int) < 684000) → ¬ (c = 612 ∧ (i : Int) = R) → s7.2 c i = s.2 c i := fun c i q1 q2 => by
    rw [t7.1.2 c i (fun z => q1 ⟨z.1, by omega, z.2.2⟩), e5]
    have u : (wpa s4 612 R ((E : Int) + 1)).2 c i = s4.2 c i := im_up_ne (fun z => q2 ⟨z.1, by have := z.2; omega⟩)
    rw [u]
    exact t4.1.2 c i q1
  refine ⟨fun w => ⟨R9, ?_⟩, fun w => ?_⟩
  · have ne : rsg (pev F (((h * 2 + 1 : Int) : Rat) * wd ((E + 1 : Nat) : Int))) ≠ rsg (pev F ((h : Rat) * wd E)) := fun q => by
      rw [if_neg (fun z => z q)] at ev
      omega
    refine whole_ok ⟨by decide, by decide⟩ (by omega) (by omega) (fun s8 u1 u2 u3 => ?_)
    have u12 := u1.2
    rw [r7 _ _ (by decide), r5 611 R (by decide) (by decide), i2]
    have n8 : na s8 (700000 - 200 * (R + 1)) h := by
      refine st_na (st_tr t7 u1) ⟨?_, Or.inr (by omega)⟩
      rw [e5]
      exact num_co (st_na t4 nh).1 i4.1 i4.2.1 (fun t _ _ => wg_row (by decide))
    refine by_ka n8 (nm_na u2) (by omega) (by omega) (fun s9 v1 v2' v3 => ?_)
    have v12 := v1.2
    have t9 : st s7 s9 := st_tr u1 v1
    have r9 : ∀ (c : Nat) (i : Int), c ≠ 597 → wga s9 c i = wga s5 c i := fun c i h1 => by rw [st_row t9 h1, r7 c i h1]
    refine refine_106 (s0 := s) (h' := h * 2) hR hE (by rw [r9 _ _ (by decide), r5 _ _ (by decide) (by decide)]; exact i2) (by rw [r9 _ _ (by decide), r5 _ _ (by decide) (by decide)]; exact i1) (by rw [r9 _ _ (by decide)]; exact r512) ?_ ⟨v2'.1, by omega⟩ (by omega) (by omega) (fun x x1 x2 => ?_) ?_ (rfr_st (fun c f q => by rw [t9.1.1 c f q]; exact fs7 c f q) (fun c i q1 q2 => by rw [t9.1.2 c i (fun z => q1 ⟨z.1, by omega, z.2.2⟩)]; exact rs7 c i q1 q2)) (fun s' y1 y2 => hQ s' _ (Or.inl rfl) y1 y2)
    · rw [st_row t9 (by decide), e13, m1]
    · rw [m1] at x1
      rw [← c2a] at x2
      exact i6 x x1 (Rat.le_trans x2 d2')
    · rw [m1, ← c2a]
      exact (flip2 zl zm).1 (fun q => ne q.symm)
  · have eq : rsg (pev F (((h * 2 + 1 : Int) : Rat) * wd ((E + 1 : Nat) : Int))) = rsg (pev F ((h : Rat) * wd E)) := Classical.byContradiction fun q => by
      rw [if_pos q] at ev
      exact w ev
    refine refine_106 (s0 := s) (h' := h * 2 + 1) hR hE (by rw [r7 _ _ (by decide), r5 _ _ (by decide) (by decide)]; exact i2) (by rw [r7 _ _ (by decide), r5 _ _ (by decide) (by decide)]; exact i1) (by rw [r7 _ _ (by decide)]; exact r512) (by rw [e13, eq]) n7 (by omega) (by omega) (fun x x1 x2 => ?_) ?_ (rfr_st fs7 rs7) (fun s' y1 y2 => hQ s' _ (Or.inr rfl) y1 y2)
    · rw [m2] at x2
      exact i6 x (Rat.le_trans d1' x1) x2
    · rw [m2]
      refine (flip2 zm zr).1 (fun q => ?_)
      exact (flip2 zl zr).2 i7 (eq.symm.trans q)
