/-! isBefore -/
theorem cmp2 {a b : Int} {E1 E2 : Nat} (h : a * 2 ^ E1 < b * 2 ^ E2) : (a : Rat) * wd E2 < (b : Rat) * wd E1 := by
  have c := Rat.intCast_lt_intCast.2 h
  rw [Rat.intCast_mul, Rat.intCast_mul, Rat.intCast_pow, Rat.intCast_pow] at c
  have two : ((2 : Int) : Rat) = 2 := rfl
  rw [two] at c
  have w1 := wd_nat E1
  have w2 := wd_nat E2
  have p1 := wd_pos (E1 : Int)
  have p2 := wd_pos (E2 : Int)
  have pp := Rat.mul_pos p1 p2
  generalize (2 : Rat) ^ E1 = T1 at *
  generalize (2 : Rat) ^ E2 = T2 at *
  generalize wd (E1 : Int) = v1 at *
  generalize wd (E2 : Int) = v2 at *
  have d := Rat.mul_lt_mul_of_pos_right c pp
  rw [show (a : Rat) * T1 * (v1 * v2) = (v1 * T1) * (a * v2) by grind, show (b : Rat) * T2 * (v1 * v2) = (v2 * T2) * (b * v1) by grind, w1, w2] at d
  grind
theorem wd_1960 {E T : Nat} (hT : T = 2 ^ 1960) (h : 1960 ≤ E) : wd E * (T : Rat) ≤ 1 ∧ wd E ≤ 1 := by
  have wE := wd_nat E
  have wp := wd_pos (E : Int)
  have T1 : (T : Rat) ≤ (2 : Rat) ^ E := by
    have := nat_rle (show T ≤ 2 ^ E by rw [hT]; exact Nat.pow_le_pow_right (show 0 < 2 by decide) h)
    rw [Rat.natCast_pow (a := 2) (b := E)] at this
    exact this
  have T2 : (1 : Rat) ≤ (T : Rat) := nat_rle (show 1 ≤ T by rw [hT]; exact Nat.one_le_two_pow)
  clear hT
  generalize (T : Rat) = T at *
  generalize (2 : Rat) ^ E = S at *
  generalize wd (E : Int) = w at *
  have a := Rat.mul_le_mul_of_nonneg_left T1 (Rat.le_of_lt wp)
  have b := Rat.mul_le_mul_of_nonneg_left T2 (Rat.le_of_lt wp)
  exact ⟨by grind, by grind⟩
theorem lap_no {s : im_S} {R1 R2 f1 f2 h1 h2 : Int} {F1 F2 : List Int} {E1 E2 : Nat} {lo1 hi1 lo2 hi2 : Rat} (c1 : fct F1) (c2 : fct F2) (i1 : rfi s R1 f1 F1 h1 E1) (i2 : rfi s R2 f2 F2 h2 E2) (a1 : lo1 ≤ (h1 : Rat) * wd E1) (a2 : ((h1 : Rat) + 1) * wd E1 ≤ hi1) (b1 : lo2 ≤ (h2 : Rat) * wd E2) (b2 : ((h2 : Rat) + 1) * wd E2 ≤ hi2) (hp : hi1 ≤ lo2 ∨ hi2 ≤ lo1 ∨ cop F1 F2) (o1 : (h2 : Rat) * wd E2 < ((h1 : Rat) + 1) * wd E1) (o2 : (h1 : Rat) * wd E1 < ((h2 : Rat) + 1) * wd E2) (g1 : 1960 ≤ E1) (g2 : 1960 ≤ E2) : False := by
  rcases hp with q | q | q
  · grind
  · grind
  · obtain ⟨T, hT⟩ : ∃ T : Nat, T = 2 ^ 1960 := ⟨_, rfl⟩
    obtain ⟨u1, u2⟩ := wd_1960 hT g1
    obtain ⟨v1, v2⟩ := wd_1960 hT g2
    have p1 := wd_pos (E1 : Int)
    have p2 := wd_pos (E2 : Int)
    obtain ⟨l1, r1⟩ := rfi_rb i1.2.2.2.2.1
    obtain ⟨l2, r2⟩ := rfi_rb i2.2.2.2.2.1
    have e1 : ((h1 : Rat) + 1) * wd E1 - (h1 : Rat) * wd E1 = wd E1 := by grind
    have e2 : ((h2 : Rat) + 1) * wd E2 - (h2 : Rat) * wd E2 = wd E2 := by grind
    exact far_no c1 c2 q (by grind) (by grind) hT (by rw [e1]; exact u1) (by rw [e2]; exact v1) (by rw [e1]; exact u2) (by rw [e2]; exact v2) l1 r1 l2 r2 i1.2.2.2.2.2.1 i2.2.2.2.2.2.1 i1.2.2.2.2.2.2.1 i2.2.2.2.2.2.2.1 (Rat.le_of_lt o2) (Rat.le_of_lt o1)
theorem isBefore_74 {s : im_S} {n : Nat} {f : Nat → Int} {F : Nat → List Int} {lo hi : Nat → Rat} {R1 R2 : Nat} {Q : Int → im_S → Prop} (hk : rkl s n f F lo hi) (hR1 : R1 < n) (hR2 : R2 < n) (hne : R1 ≠ R2) (z1 : wga s 609 (R1 : Int) = 0) (z2 : wga s 609 (R2 : Int) = 0) (hp : hi R1 ≤ lo R2 ∨ hi R2 ≤ lo R1 ∨ cop (F R1) (F R2)) (h0 : 0 ≤ wgf s 24) (hm : wgf s 24 + 300000 ≤ 684000) (hQ : ∀ (v : Int) (s' : im_S), rfq s s' → rkl s' n f F lo hi → Q v s') : wloop (fun (K : im_S → Prop) (a : im_S) => W_isBefore_74 K (R1 : Int) (R2 : Int) a Q) s := by
  refine ⟨fun a => rfq s a ∧ rkl a n f F lo hi, fun a => (5000 - wga a 612 (R1 : Int) - wga a 612 (R2 : Int)).toNat, ⟨rfq_rfl, hk⟩, ?_⟩
  rintro s2 ⟨q1, q2⟩
  have e24 := rfq_24 q1
  have n80 := hk.1
  have y1 : wga s2 609 (R1 : Int) = 0 := by rw [rfq_row q1 _ _ (by decide) (by decide)]; exact z1
  have y2 : wga s2 609 (R2 : Int) = 0 := by rw [rfq_row q1 _ _ (by decide) (by decide)]; exact z2
  obtain ⟨_, f1, p1, h1, E1, g1, i1, a1, b1⟩ : _ ∧ fct (F R1) ∧ pol s2 (f R1) (F R1) ∧ _ := (q2.2 R1 hR1).resolve_left (fun k => by omega)
  obtain ⟨_, f2, p2, h2, E2, g2, i2, a2, b2⟩ : _ ∧ fct (F R2) ∧ pol s2 (f R2) (F R2) ∧ _ := (q2.2 R2 hR2).resolve_left (fun k => by omega)
  have R19 : 0 ≤ (R1 : Int) ∧ (R1 : Int) < 90 := by omega
  have R29 : 0 ≤ (R2 : Int) ∧ (R2 : Int) < 90 := by omega
  have lh1 := rfi_lim i1.2.2.2.2.1
  have lh2 := rfi_lim i2.2.2.2.2.1
  have l1 := lim_one
  have cE : ∀ E : Nat, E ≤ 2000 → lim (2 ^ E) ≤ 70 ∧ ((E : Int) + 40) * (lim (2 ^ E) + 3) ≤ 2040 * 73 := fun E hE => by
    have q0 := lim_p2 E
    have q1 : lim (2 ^ E) ≤ 70 := by omega
    have b' : (E + 40) * (lim (2 ^ E) + 3) ≤ 2040 * 73 := Nat.mul_le_mul (by omega) (by omega)
    exact ⟨q1, Int.ofNat_le.2 b'⟩
  obtain ⟨cE1, dE1⟩ := cE E1 g1
  obtain ⟨cE2, dE2⟩ := cE E2 g2
  have lm1 := lim_mul h1 (2 ^ E2)
  have lm2 := lim_mul h2 (2 ^ E1)
  have la1 := lim_add (h1 * 2 ^ E2) (2 ^ E2)
  have la2 := lim_add (h2 * 2 ^ E1) (2 ^ E1)
  have nh1 : ∀ s' : im_S, st s2 s' → wga s' 611 (R1 : Int) = 700000 - 200 * ((R1 : Int) + 1) ∧ wga s' 612 (R1 : Int) = (E1 : Int) ∧ na s' (700000 - 200 * ((R1 : Int) + 1)) h1 := fun s' a => by
    have z := st_rfi a (by omega) i1
    exact ⟨z.2.1, z.2.2.1, z.2.2.2.1, Or.inr (by omega)⟩
  have nh2 : ∀ s' : im_S, st s2 s' → wga s' 611 (R2 : Int) = 700000 - 200 * ((R2 : Int) + 1) ∧ wga s' 612 (R2 : Int) = (E2 : Int) ∧ na s' (700000 - 200 * ((R2 : Int) + 1)) h2 := fun s' a => by
    have z := st_rfi a (by omega) i2
    exact ⟨z.2.1, z.2.2.1, z.2.2.2.1, Or.inr (by omega)⟩
  unfold W_isBefore_74
  refine ⟨R19, R29, ?_⟩
  rw [i2.2.2.1, i1.2.1]
  refine powerOfTwo_ok (by omega) (by omega) (by omega) (fun s3 A1 A2 A3 => ?_)
  have A12 := A1.2
  refine by_ka (nh1 s3 A1).2.2 (nm_na A2) (by omega) (by omega) (fun s4 B1 B2 B3 => ⟨R29, R19, ?_⟩)
  have B12 := B1.2
  have t4 := st_tr A1 B1
  rw [(nh1 s4 t4).2.1, (nh2 s4 t4).1]
  refine powerOfTwo_ok (by omega) (by omega) (by omega) (fun s5 C1 C2 C3 => ?_)
  have C12 := C1.2
  have t5 := st_tr t4 C1
  refine by_ka (nh2 s5 t5).2.2 (nm_na C2) (by omega) (by omega) (fun s6 D1 D2 D3 => ⟨R29, ?_⟩)
  have D12 := D1.2
  have t6 := st_tr t5 D1
  rw [(nh2 s6 t6).2.1]
  refine powerOfTwo_ok (by omega) (by omega) (by omega) (fun s7 G1 G2 G3 => ?_)
  have G12 := G1.2
  have t7 := st_tr t6 G1
  have B7 := st_na (st_tr C1 (st_tr D1 G1)) B2
  refine plus_ka B7 (nm_na G2) (by omega) (by omega) (fun s8 H1 H2 H3 => ⟨R19, ?_⟩)
  have H12 := H1.2
  have t8 := st_tr t7 H1
  rw [(nh1 s8 t8).2.1]
  refine powerOfTwo_ok (by omega) (by omega) (by omega) (fun s9 I1 I2 I3 => ?_)
  have I12 := I1.2
  have t9 := st_tr t8 I1
  have t69 : st s6 s9 := st_tr G1 (st_tr H1 I1)
  refine plus_ka (st_na t69 D2) (nm_na I2) (by omega) (by omega) (fun s10 J1 J2 J3 => ?_)
  have t10 := st_tr t9 J1
  have t810 := st_tr I1 J1
  refine compare_ok (st_na t810 H2).1 (st_na (st_tr t69 J1) D2).1 ?_
  refine compare_ok J2.1 (st_na (st_tr H1 t810) B7).1 (fun s11 e11 => ?_)
  have sb11 : sb s2 s11 := by rw [e11]; exact sb_back t10
  have r11 := rkl_sb sb11 (by omega) q2
  have f11 := rfq_tr q1 (sb_rfq sb11 (by omega))
  have x1 : wga s11 612 (R1 : Int) = E1 := (nh1 s11 sb11.1).2.1
  have x2 : wga s11 612 (R2 : Int) = E2 := (nh2 s11 sb11.1).2.1
  have w1 : wga s2 612 (R1 : Int) = E1 := i1.2.2.1
  have w2 : wga s2 612 (R2 : Int) = E2 := i2.2.2.1
  have u1 : wga s11 609 (R1 : Int) = 0 := by rw [rfq_row f11 _ _ (by decide) (by decide)]; exact z1
  have u2 : wga s11 609 (R2 : Int) = 0 := by rw [rfq_row f11 _ _ (by decide) (by decide)]; exact z2
  have s24 := sb11.2
  have sc1 := sg_c (h1 * 2 ^ E2 + 2 ^ E2 - h2 * 2 ^ E1)
  have sc2 := sg_c (h2 * 2 ^ E1 + 2 ^ E1 - h1 * 2 ^ E2)
  have c1a : ((h1 + 1 : Int) : Rat) = (h1 : Rat) + 1 := by rw [Rat.intCast_add]; rfl
  have c2a : ((h2 + 1 : Int) : Rat) = (h2 : Rat) + 1 := by rw [Rat.intCast_add]; rfl
  refine ⟨fun c => ⟨fun c' => ⟨R19, R29, fun v hv => ?_⟩, fun _ => hQ 0 s11 f11 r11⟩, fun _ => hQ 1 s11 f11 r11⟩
  have m1 : h2 * 2 ^ E1 < (h1 + 1) * 2 ^ E2 := by rw [Int.add_mul, Int.one_mul]; omega
  have m2 : h1 * 2 ^ E2 < (h2 + 1) * 2 ^ E1 := by rw [Int.add_mul, Int.one_mul]; omega
  have o1 := cmp2 m1
  have o2 := cmp2 m2
  rw [c1a] at o1
  rw [c2a] at o2
  have no : ¬ (1960 ≤ E1 ∧ 1960 ≤ E2) := fun w => lap_no f1 f2 i1 i2 a1 b1 a2 b2 hp o1 o2 w.1 w.2
  rw [x1, x2] at hv
  by_cases q : (E2 : Int) < E1
  · rw [if_pos q] at hv
    subst hv
    refine refine_rk r11 hR2 u2 (by omega) (by omega) (by omega) (fun s12 k1 k2 k3 k4 => ⟨⟨rfq_tr f11 k1, k2⟩, ?_⟩)
    have := k4 R1 hne
    dsimp only
    omega
  · rw [if_neg q] at hv
    subst hv
    refine refine_rk r11 hR1 u1 (by omega) (by omega) (by omega) (fun s12 k1 k2 k3 k4 => ⟨⟨rfq_tr f11 k1, k2⟩, ?_⟩)
    have := k4 R2 (Ne.symm hne)
    dsimp only
    omega
theorem isBefore_ok {s : im_S} {n : Nat} {f : Nat → Int} {F : Nat → List Int} {lo hi : Nat → Rat} {R1 R2 : Nat} {Q : Int → im_S → Prop} (hk : rkl s n f F lo hi) (hR1 : R1 < n) (hR2 : R2 < n) (hne : R1 ≠ R2) (hp : wga s 609 (R1 : Int) = 0 → wga s 609 (R2 : Int) = 0 → hi R1 ≤ lo R2 ∨ hi R2 ≤ lo R1 ∨ cop (F R1) (F R2)) (h0 : 0 ≤ wgf s 24) (hm : wgf s 24 + 300000 ≤ 684000) (hQ : ∀ (v : Int) (s' : im_S), rfq s s' → rkl s' n f F lo hi → Q v s') : W_isBefore (R1 : Int) (R2 : Int) s Q := by
  have n80 := hk.1
  have R19 : 0 ≤ (R1 : Int) ∧ (R1 : Int) < 90 := by omega
  have R29 : 0 ≤ (R2 : Int) ∧ (R2 : Int) < 90 := by omega
  have K1 := hk.2 R1 hR1
  have K2 := hk.2 R2 hR2
  unfold W_isBefore
  refine ⟨R19, fun c1 => ⟨R29, fun c2 => ?_, fun c2 => ⟨R29, ?_⟩⟩, fun c1 => ⟨R19, ?_⟩⟩
  · have y1 : wga s 609 (R1 : Int) = 0 := (K1.resolve_left (fun k => by omega)).1
    have y2 : wga s 609 (R2 : Int) = 0 := (K2.resolve_left (fun k => by omega)).1
    exact isBefore_74 hk hR1 hR2 hne y1 y2 (hp y1 y2) h0 hm hQ
  · rcases K2 with k | k
    · exact against_ok hk hR1 (by omega) (by omega) h0 hm (fun v s' _ a b w _ => hQ w s' a b)
    · exact absurd k.1 (by omega)
  · rcases K1 with k | k
    · exact against_ok hk hR2 (by omega) (by omega) h0 hm (fun v s' _ a b w _ => hQ w s' a b)
    · exact absurd k.1 (by omega)
