/-! against, isBefore, floorOf BY VALUE -/
theorem rfi_c {s : im_S} {R f h : Int} {F : List Int} {E : Nat} {lo hi : Rat} {c : Rat → Int} (hc : cut c) (hi' : rfi s R f F h E) (hp : pfc F lo hi c) (a : lo ≤ (h : Rat) * wd E) (b : ((h : Rat) + 1) * wd E ≤ hi) : c ((h : Rat) * wd E) = 1 ∧ c (((h : Rat) + 1) * wd E) = -1 := by
  obtain ⟨_, t, ht, e⟩ := hp
  have wp := wd_pos (E : Int)
  have LR : (h : Rat) * wd E < ((h : Rat) + 1) * wd E := by
    generalize wd (E : Int) = w at wp
    grind
  have e1 := e _ a (Rat.le_trans (Rat.le_of_lt LR) b)
  have e2 := e _ (Rat.le_trans a (Rat.le_of_lt LR)) b
  have p := rsg_neg hi'.2.2.2.2.2.2.1
  rw [rsg_m] at p
  have mo := hc.2.1 _ _ LR
  rcases rsg_3 (pev F ((h : Rat) * wd E)) with q | q | q <;> rcases rsg_3 (pev F (((h : Rat) + 1) * wd E)) with q' | q' | q' <;> rw [q] at e1 p <;> rw [q'] at e2 p <;> rcases ht with w | w <;> subst w <;> first | (exfalso; revert p; decide) | skip
  · rw [e1, e2] at mo
    exact absurd (mo (by decide)) (by decide)
  · rw [e1, e2]; decide
  · rw [e1, e2]; decide
  · rw [e1, e2] at mo
    exact absurd (mo (by decide)) (by decide)
theorem sg_qct {x : Rat} {p q : Int} (hq : 0 < q) : sg (x.num * q - p * (x.den : Int)) = qct x ((p : Rat) / (q : Rat)) := by
  obtain ⟨nd, dp⟩ := rat_nd x
  have q0 : (0 : Rat) < (q : Rat) := Rat.intCast_pos.2 hq
  have pq : (p : Rat) / (q : Rat) * (q : Rat) = (p : Rat) := Rat.div_mul_cancel (by grind)
  have key : ((x.num * q - p * (x.den : Int) : Int) : Rat) = (x - (p : Rat) / (q : Rat)) * (((x.den : Int) : Rat) * (q : Rat)) := by
    rw [Rat.intCast_sub, Rat.intCast_mul, Rat.intCast_mul, ← nd]
    generalize (p : Rat) / (q : Rat) = y at *
    rw [← pq]
    grind
  have pos := Rat.mul_pos dp q0
  have r := rsg_m (x - (p : Rat) / (q : Rat)) (((x.den : Int) : Rat) * (q : Rat))
  rw [← key, rsg_pos pos, Int.mul_one] at r
  unfold qct
  rw [← r]
  rcases sg_c (x.num * q - p * (x.den : Int)) with ⟨a, b⟩ | ⟨a, b⟩ | ⟨a, b⟩
  · rw [b, a]; decide
  · rw [b, rsg_pos (Rat.intCast_pos.2 a)]
  · rw [b, rsg_neg]
    have := Rat.intCast_lt_intCast.2 a
    exact this
theorem against_v {s : im_S} {n : Nat} {f : Nat → Int} {F : Nat → List Int} {lo hi : Nat → Rat} {R : Nat} {p q : Int} {c : Rat → Int} {Q : Int → im_S → Prop} (hk : rkl s n f F lo hi) (hR : R < n) (hc : cut c) (hrc : rkc s R (F R) (lo R) (hi R) c) (hp : -1000000000 ≤ p ∧ p ≤ 1000000000) (hq : 0 < q ∧ q ≤ 1000000000) (h0 : 0 ≤ wgf s 24) (hm : wgf s 24 + 300000 ≤ 684000) (hQ : ∀ s' : im_S, rfq s s' → rkl s' n f F lo hi → Q (c ((p : Rat) / (q : Rat))) s') : W_against (R : Int) p q s Q := by
  have n80 := hk.1
  rcases hk.2 R hR with k | ⟨k1, k2, k3, hh, E, k4, k5, k6, k7⟩
  · obtain ⟨x, x1, x2, x3⟩ := hrc.resolve_right (fun w => by have := w.1; omega)
    have z := sg_qct (x := x) (p := p) hq.1
    rw [← x3] at z
    rw [← z] at hQ
    refine against_fr (by omega) x1 x2 (by omega) (by omega) (by omega) (by omega) h0 (by omega) (fun s' a => hQ s' (sb_rfq a (by omega)) (rkl_sb a (by omega) hk))
  · have pf := (hrc.resolve_left (fun ⟨x, _, x2, _⟩ => by have := x.den_pos; omega)).2.2
    unfold W_against
    refine ⟨by omega, fun _ => ?_, fun c => absurd c (by omega)⟩
    refine against_71 (by omega) k2 k3 k4 k5 k6 k7 (by omega) (by omega) h0 hm (fun s' v h E a1 a2 a3 a4 a5 a6 => ?_)
    obtain ⟨u1, u2⟩ := rfi_c hc a3 pf a4 a5
    have ev : v = c ((p : Rat) / (q : Rat)) := by
      rcases a6 with ⟨w1, w2⟩ | ⟨w1, w2⟩
      · rw [w1, cut_le1 hc u1 w2]
      · rw [w1, cut_ge1 hc u2 w2]
    rw [ev]
    refine hQ s' (rfr_rfq a1 (by omega) (by omega)) (rkl_up a1 hR (by omega) hk (Or.inr ⟨?_, k2, rfr_pol a1 (by omega) (by omega) k3, h, E, a2, a3, a4, a5⟩))
    rw [rfr_row a1 609 _ (by decide) (fun z => by omega)]; exact k1
theorem cmp2e {a b : Int} {E1 E2 : Nat} (h : a * 2 ^ E1 ≤ b * 2 ^ E2) : (a : Rat) * wd E2 ≤ (b : Rat) * wd E1 := by
  have c := Rat.intCast_le_intCast.2 h
  rw [Rat.intCast_mul, Rat.intCast_mul, Rat.intCast_pow, Rat.intCast_pow] at c
  have two : ((2 : Int) : Rat) = 2 := rfl
  rw [two] at c
  have w1 := wd_nat E1
  have w2 := wd_nat E2
  have p1 := wd_pos (E1 : Int)
  have p2 := wd_pos (E2 : Int)
  have pp := Rat.mul_pos p1 p2
  generalize (2 : Rat) ^ E1 = T1 at *
  generalize (2 : Rat) ^ E2 = T2 at *
  generalize wd (E1 : Int) = v1 at *
  generalize wd (E2 : Int) = v2 at *
  have d := Rat.mul_le_mul_of_nonneg_right c (Rat.le_of_lt pp)
  rw [show (a : Rat) * T1 * (v1 * v2) = (v1 * T1) * (a * v2) by grind, show (b : Rat) * T2 * (v1 * v2) = (v2 * T2) * (b * v1) by grind, w1, w2] at d
  grind
theorem isBefore_74v {s : im_S} {n : Nat} {f : Nat → Int} {F : Nat → List Int} {lo hi : Nat → Rat} {R1 R2 : Nat} {Q : Int → im_S → Prop} (hk : rkl s n f F lo hi) (hR1 : R1 < n) (hR2 : R2 < n) (hne : R1 ≠ R2) (z1 : wga s 609 (R1 : Int) = 0) (z2 : wga s 609 (R2 : Int) = 0) (hp : hi R1 ≤ lo R2 ∨ hi R2 ≤ lo R1 ∨ cop (F R1) (F R2)) (h0 : 0 ≤ wgf s 24) (hm : wgf s 24 + 300000 ≤ 684000) {d1 d2 : Rat → Int} (hc1 : cut d1) (hc2 : cut d2) (pf1 : pfc (F R1) (lo R1) (hi R1) d1) (pf2 : pfc (F R2) (lo R2) (hi R2) d2) (hQ : ∀ (v : Int) (s' : im_S), rfq s s' → rkl s' n f F lo hi → (v = 1 ∧ lft9 d1 d2) ∨ (v = 0 ∧ lft9 d2 d1) → Q v s') : wloop (fun (K : im_S → Prop) (a : im_S) => W_isBefore_74 K (R1 : Int) (R2 : Int) a Q) s := by
  refine ⟨fun a => rfq s a ∧ rkl a n f F lo hi, fun a => (5000 - wga a 612 (R1 : Int) - wga a 612 (R2 : Int)).toNat, ⟨rfq_rfl, hk⟩, ?_⟩
  rintro s2 ⟨q1, q2⟩
  have e24 := rfq_24 q1
  have n80 := hk.1
  have y1 : wga s2 609 (R1 : Int) = 0 := by rw [rfq_row q1 _ _ (by decide) (by decide)]; exact z1
  have y2 : wga s2 609 (R2 : Int) = 0 := by rw [rfq_row q1 _ _ (by decide) (by decide)]; exact z2
  obtain ⟨_, f1, p1, h1, E1, g1, i1, a1, b1⟩ : _ ∧ fct (F R1) ∧ pol s2 (f R1) (F R1) ∧ _ := (q2.2 R1 hR1).resolve_left (fun k => by omega)
  obtain ⟨_, f2, p2, h2, E2, g2, i2, a2, b2⟩ : _ ∧ fct (F R2) ∧ pol s2 (f R2) (F R2) ∧ _ := (q2.2 R2 hR2).resolve_left (fun k => by omega)
  have R19 : 0 ≤ (R1 : Int) ∧ (R1 : Int) < 90 := by omega
  have R29 : 0 ≤ (R2 : Int) ∧ (R2 : Int) < 90 := by omega
  have lh1 := rfi_lim i1.2.2.2.2.1
  have lh2 := rfi_lim i2.2.2.2.2.1
  have l1 := lim_one
  have cE : ∀ E : Nat, E ≤ 2000 → lim (2 ^ E) ≤ 70 ∧ ((E : Int) + 40) * (lim (2 ^ E) + 3) ≤ 2040 * 73 := fun E hE => by
    have q0 := lim_p2 E
    have q1 : lim (2 ^ E) ≤ 70 := by omega
    have b' : (E + 40) * (lim (2 ^ E) + 3) ≤ 2040 * 73 := Nat.mul_le_mul (by omega) (by omega)
    exact ⟨q1, Int.ofNat_le.2 b'⟩
  obtain ⟨cE1, dE1⟩ := cE E1 g1
  obtain ⟨cE2, dE2⟩ := cE E2 g2
  have lm1 := lim_mul h1 (2 ^ E2)
  have lm2 := lim_mul h2 (2 ^ E1)
  have la1 := lim_add (h1 * 2 ^ E2) (2 ^ E2)
  have la2 := lim_add (h2 * 2 ^ E1) (2 ^ E1)
  have nh1 : ∀ s' : im_S, st s2 s' → wga s' 611 (R1 : Int) = 700000 - 200 * ((R1 : Int) + 1) ∧ wga s' 612 (R1 : Int) = (E1 : Int) ∧ na s' (700000 - 200 * ((R1 : Int) + 1)) h1 := fun s' a => by
    have z := st_rfi a (by omega) i1
    exact ⟨z.2.1, z.2.2.1, z.2.2.2.1, Or.inr (by omega)⟩
  have nh2 : ∀ s' : im_S, st s2 s' → wga s' 611 (R2 : Int) = 700000 - 200 * ((R2 : Int) + 1) ∧ wga s' 612 (R2 : Int) = (E2 : Int) ∧ na s' (700000 - 200 * ((R2 : Int) + 1)) h2 := fun s' a => by
    have z := st_rfi a (by omega) i2
    exact ⟨z.2.1, z.2.2.1, z.2.2.2.1, Or.inr (by omega)⟩
  unfold W_isBefore_74
  refine ⟨R19, R29, ?_⟩
  rw [i2.2.2.1, i1.2.1]
  refine powerOfTwo_ok (by omega) (by omega) (by omega) (fun s3 A1 A2 A3 => ?_)
  have A12 := A1.2
  refine by_ka (nh1 s3 A1).2.2 (nm_na A2) (by omega) (by omega) (fun s4 B1 B2 B3 => ⟨R29, R19, ?_⟩)
  have B12 := B1.2
  have t4 := st_tr A1 B1
  rw [(nh1 s4 t4).2.1, (nh2 s4 t4).1]
  refine powerOfTwo_ok (by omega) (by omega) (by omega) (fun s5 C1 C2 C3 => ?_)
  have C12 := C1.2
  have t5 := st_tr t4 C1
  refine by_ka (nh2 s5 t5).2.2 (nm_na C2) (by omega) (by omega) (fun s6 D1 D2 D3 => ⟨R29, ?_⟩)
  have D12 := D1.2
  have t6 := st_tr t5 D1
  rw [(nh2 s6 t6).2.1]
  refine powerOfTwo_ok (by omega) (by omega) (by omega) (fun s7 G1 G2 G3 => ?_)
  have G12 := G1.2
  have t7 := st_tr t6 G1
  have B7 := st_na (st_tr C1 (st_tr D1 G1)) B2
  refine plus_ka B7 (nm_na G2) (by omega) (by omega) (fun s8 H1 H2 H3 => ⟨R19, ?_⟩)
  have H12 := H1.2
  have t8 := st_tr t7 H1
  rw [(nh1 s8 t8).2.1]
  refine powerOfTwo_ok (by omega) (by omega) (by omega) (fun s9 I1 I2 I3 => ?_)
  have I12 := I1.2
  have t9 := st_tr t8 I1
  have t69 : st s6 s9 := st_tr G1 (st_tr H1 I1)
  refine plus_ka (st_na t69 D2) (nm_na I2) (by omega) (by omega) (fun s10 J1 J2 J3 => ?_)
  have t10 := st_tr t9 J1
  have t810 := st_tr I1 J1
  refine compare_ok (st_na t810 H2).1 (st_na (st_tr t69 J1) D2).1 ?_
  refine compare_ok J2.1 (st_na (st_tr H1 t810) B7).1 (fun s11 e11 => ?_)
  have sb11 : sb s2 s11 := by rw [e11]; exact sb_back t10
  have r11 := rkl_sb sb11 (by omega) q2
  have f11 := rfq_tr q1 (sb_rfq sb11 (by omega))
  have x1 : wga s11 612 (R1 : Int) = E1 := (nh1 s11 sb11.1).2.1
  have x2 : wga s11 612 (R2 : Int) = E2 := (nh2 s11 sb11.1).2.1
  have w1 : wga s2 612 (R1 : Int) = E1 := i1.2.2.1
  have w2 : wga s2 612 (R2 : Int) = E2 := i2.2.2.1
  have u1 : wga s11 609 (R1 : Int) = 0 := by rw [rfq_row f11 _ _ (by decide) (by decide)]; exact z1
  have u2 : wga s11 609 (R2 : Int) = 0 := by rw [rfq_row f11 _ _ (by decide) (by decide)]; exact z2
  have s24 := sb11.2
  have sc1 := sg_c (h1 * 2 ^ E2 + 2 ^ E2 - h2 * 2 ^ E1)
  have sc2 := sg_c (h2 * 2 ^ E1 + 2 ^ E1 - h1 * 2 ^ E2)
  have c1a : ((h1 + 1 : Int) : Rat) = (h1 : Rat) + 1 := by rw [Rat.intCast_add]; rfl
  have c2a : ((h2 + 1 : Int) : Rat) = (h2 : Rat) + 1 := by rw [Rat.intCast_add]; rfl
  refine ⟨fun c => ⟨fun c' => ⟨R19, R29, fun v hv => ?_⟩, fun c'' => hQ 0 s11 f11 r11 (Or.inr ⟨rfl, ?_⟩)⟩, fun c'' => hQ 1 s11 f11 r11 (Or.inl ⟨rfl, ?_⟩)⟩
  rotate_left
  · have le : ((h2 : Rat) + 1) * wd E2 ≤ (h1 : Rat) * wd E1 := by
      rw [← c2a]
      refine cmp2e ?_
      rw [Int.add_mul, Int.one_mul]; omega
    exact ⟨_, Or.inl ⟨(rfi_c hc2 i2 pf2 a2 b2).2, cut_le1 hc1 (rfi_c hc1 i1 pf1 a1 b1).1 le⟩⟩
  · have le : ((h1 : Rat) + 1) * wd E1 ≤ (h2 : Rat) * wd E2 := by
      rw [← c1a]
      refine cmp2e ?_
      rw [Int.add_mul, Int.one_mul]; omega
    exact ⟨_, Or.inl ⟨(rfi_c hc1 i1 pf1 a1 b1).2, cut_le1 hc2 (rfi_c hc2 i2 pf2 a2 b2).1 le⟩⟩
  have m1 : h2 * 2 ^ E1 < (h1 + 1) * 2 ^ E2 := by rw [Int.add_mul, Int.one_mul]; omega
  have m2 : h1 * 2 ^ E2 < (h2 + 1) * 2 ^ E1 := by rw [Int.add_mul, Int.one_mul]; omega
  have o1 := cmp2 m1
  have o2 := cmp2 m2
  rw [c1a] at o1
  rw [c2a] at o2
  have no : ¬ (1960 ≤ E1 ∧ 1960 ≤ E2) := fun w => lap_no f1 f2 i1 i2 a1 b1 a2 b2 hp o1 o2 w.1 w.2
  rw [x1, x2] at hv
  by_cases q : (E2 : Int) < E1
  · rw [if_pos q] at hv
    subst hv
    refine refine_rk r11 hR2 u2 (by omega) (by omega) (by omega) (fun s12 k1 k2 k3 k4 => ⟨⟨rfq_tr f11 k1, k2⟩, ?_⟩)
    have := k4 R1 hne
    try dsimp only
    omega
  · rw [if_neg q] at hv
    subst hv
    refine refine_rk r11 hR1 u1 (by omega) (by omega) (by omega) (fun s12 k1 k2 k3 k4 => ⟨⟨rfq_tr f11 k1, k2⟩, ?_⟩)
    have := k4 R2 (Ne.symm hne)
    try dsimp only
    omega
theorem isBefore_v {s : im_S} {n : Nat} {f : Nat → Int} {F : Nat → List Int} {lo hi : Nat → Rat} {R1 R2 : Nat} {d1 d2 : Rat → Int} {Q : Int → im_S → Prop} (hk : rkl s n f F lo hi) (hR1 : R1 < n) (hR2 : R2 < n) (hne : R1 ≠ R2) (hp : wga s 609 (R1 : Int) = 0 → wga s 609 (R2 : Int) = 0 → hi R1 ≤ lo R2 ∨ hi R2 ≤ lo R1 ∨ cop (F R1) (F R2)) (h0 : 0 ≤ wgf s 24) (hm : wgf s 24 + 300000 ≤ 684000) (hc1 : cut d1) (hc2 : cut d2) (k1 : rkc s R1 (F R1) (lo R1) (hi R1) d1) (k2 : rkc s R2 (F R2) (lo R2) (hi R2) d2) (nd : d1 ≠ d2) (hQ : ∀ (v : Int) (s' : im_S), rfq s s' → rkl s' n f F lo hi → (v = 1 ∧ lft9 d1 d2) ∨ (v = 0 ∧ lft9 d2 d1) → Q v s') : W_isBefore (R1 : Int) (R2 : Int) s Q := by
  have n80 := hk.1
  have R19 : 0 ≤ (R1 : Int) ∧ (R1 : Int) < 90 := by omega
  have R29 : 0 ≤ (R2 : Int) ∧ (R2 : Int) < 90 := by omega
  have K1 := hk.2 R1 hR1
  have K2 := hk.2 R2 hR2
  have fr : ∀ (R : Nat) (d d' : Rat → Int) (F' : List Int) (l h : Rat), rkc s R F' l h d → cut d' → d ≠ d' → wga s 609 (R : Int) ≠ 0 → 0 < wga s 609 (R : Int) ∧ ((d' ((wga s 608 (R : Int) : Rat) / (wga s 609 (R : Int) : Rat)) = 1 ∧ lft9 d d') ∨ (d' ((wga s 608 (R : Int) : Rat) / (wga s 609 (R : Int) : Rat)) = -1 ∧ lft9 d' d)) := fun R d d' F' l h k c' ne z => by
    obtain ⟨x, x1, x2, x3⟩ := k.resolve_right (fun w => z w.1)
    have dp := x.den_pos
    refine ⟨by omega, ?_⟩
    have ex : (wga s 608 (R : Int) : Rat) / (wga s 609 (R : Int) : Rat) = x := by
      rw [x1, x2]
      obtain ⟨e1, e2⟩ := rat_nd x
      rw [← e1]
      grind
    rw [ex]
    have dx : d x = 0 := by rw [x3]; unfold qct; rw [show x - x = 0 by grind]; decide
    rcases c'.1 x with w | w | w
    · exact Or.inr ⟨w, x, Or.inr (Or.inr ⟨w, dx⟩)⟩
    · exfalso
      exact ne (by rw [x3, funext (cut_q c' w)])
    · exact Or.inl ⟨w, x, Or.inr (Or.inl ⟨dx, w⟩)⟩
  unfold W_isBefore
  refine ⟨R19, fun c1 => ⟨R29, fun c2 => ?_, fun c2 => ⟨R29, ?_⟩⟩, fun c1 => ⟨R19, ?_⟩⟩
  · have y1 : wga s 609 (R1 : Int) = 0 := (K1.resolve_left (fun k => by omega)).1
    have y2 : wga s 609 (R2 : Int) = 0 := (K2.resolve_left (fun k => by omega)).1
    exact isBefore_74v hk hR1 hR2 hne y1 y2 (hp y1 y2) h0 hm hc1 hc2 (k1.resolve_left (fun ⟨x, _, x2, _⟩ => by have := x.den_pos; omega)).2.2 (k2.resolve_left (fun ⟨x, _, x2, _⟩ => by have := x.den_pos; omega)).2.2 hQ
  · rcases K2 with k | k
    · obtain ⟨p0, w⟩ := fr R2 d2 d1 _ _ _ k2 hc1 (fun e => nd e.symm) (by omega)
      refine against_v hk hR1 hc1 k1 (by omega) (by omega) h0 hm (fun s' a b w' hw' => hQ w' s' a b ?_)
      rcases w with ⟨w1, w2⟩ | ⟨w1, w2⟩
      · rw [w1] at hw'
        exact Or.inr ⟨by rw [hw']; rfl, w2⟩
      · rw [w1] at hw'
        exact Or.inl ⟨by rw [hw']; rfl, w2⟩
    · exact absurd k.1 (by omega)
  · rcases K1 with k | k
    · obtain ⟨p0, w⟩ := fr R1 d1 d2 _ _ _ k1 hc2 nd (by omega)
      refine against_v hk hR2 hc2 k2 (by omega) (by omega) h0 hm (fun s' a b w' hw' => hQ w' s' a b ?_)
      rcases w with ⟨w1, w2⟩ | ⟨w1, w2⟩
      · rw [w1] at hw'
        exact Or.inl ⟨by rw [hw']; rfl, w2⟩
      · rw [w1] at hw'
        exact Or.inr ⟨by rw [hw']; rfl, w2⟩
    · exact absurd k.1 (by omega)
/-- the greatest whole number that is not above so times the number -/
def flc (c : Rat → Int) (so v : Int) : Prop := c ((v : Rat) / (so : Rat)) ≠ -1 ∧ c (((v + 1 : Int) : Rat) / (so : Rat)) = -1
theorem flc_u {c : Rat → Int} {so v w : Int} (hc : cut c) (hs : 0 < so) (h : flc c so v) (h' : flc c so w) : v = w := by
  have key : ∀ v w : Int, flc c so v → flc c so w → v ≤ w := fun v w h h' => by
    refine Classical.byContradiction fun n => h.1 (cut_ge1 hc h'.2 ?_)
    have s0 : (0 : Rat) < (so : Rat) := Rat.intCast_pos.2 hs
    have a := Rat.intCast_le_intCast.2 (show w + 1 ≤ v by omega)
    refine le_of_q s0 ?_
    rw [Rat.div_mul_cancel (by grind), Rat.div_mul_cancel (by grind)]
    exact a
  exact Int.le_antisymm (key v w h h') (key w v h' h)
theorem floorOf_29v {s : im_S} {n : Nat} {f : Nat → Int} {F : Nat → List Int} {lo hi : Nat → Rat} {R : Nat} {so : Int} {Q : Int → im_S → Prop} (hk : rkl s n f F lo hi) (hR : R < n) (z1 : wga s 609 (R : Int) = 0) (hq : 0 < so ∧ so ≤ 1000000000) (h0 : 0 ≤ wgf s 24) (hm : wgf s 24 + 300000 ≤ 684000) {d : Rat → Int} (hc : cut d) (pf : pfc (F R) (lo R) (hi R) d) (hQ : ∀ (v : Int) (s' : im_S), -3000000000000000000 ≤ v ∧ v ≤ 3000000000000000000 → rfq s s' → rkl s' n f F lo hi → flc d so v → Q v s') : wloop (fun (K : im_S → Prop) (a : im_S) => W_floorOf_29 K (R : Int) so a Q) s := by
  refine ⟨fun a => rfq s a ∧ rkl a n f F lo hi, fun a => (5000 - wga a 612 (R : Int)).toNat, ⟨rfq_rfl, hk⟩, ?_⟩
  rintro s2 ⟨q1, q2⟩
  have e24 := rfq_24 q1
  have n80 := hk.1
  have y1 : wga s2 609 (R : Int) = 0 := by rw [rfq_row q1 _ _ (by decide) (by decide)]; exact z1
  obtain ⟨_, f1, p1, h, E, g1, i1, a1, b1⟩ : _ ∧ fct (F R) ∧ pol s2 (f R) (F R) ∧ _ := (q2.2 R hR).resolve_left (fun k => by omega)
  have R19 : 0 ≤ (R : Int) ∧ (R : Int) < 90 := by omega
  have lh := rfi_lim i1.2.2.2.2.1
  have l1 := lim_one
  have lq : lim so ≤ 3 := lim_le (Nat.lt_of_le_of_lt (show so.natAbs ≤ 1000000000000000000 by omega) (by decide))
  have fl := fl_31 (h_31 f1 i1) hq
  have lf : lim (h * so / 2 ^ E) ≤ 3 := lim_le (Nat.lt_of_le_of_lt (show (h * so / 2 ^ E).natAbs ≤ 3000000000000000000 by omega) (by decide))
  have T0 : (0 : Int) < 2 ^ E := Int.pow_pos (by decide)
  have c0 := lim_p2 E
  have cE : lim (2 ^ E) ≤ 70 := by omega
  have dE : ((E : Int) + 40) * (lim (2 ^ E) + 3) ≤ 2040 * 73 := by
    have b' : (E + 40) * (lim (2 ^ E) + 3) ≤ 2040 * 73 := Nat.mul_le_mul (by omega) (by omega)
    exact Int.ofNat_le.2 b'
  have lm1 := lim_mul h so
  have la1 := lim_add (h * so / 2 ^ E) 1
  have lm2 := lim_mul (h * so / 2 ^ E + 1) (2 ^ E)
  have la2 := lim_add h 1
  have lm3 := lim_mul (h + 1) so
  have nh : ∀ s' : im_S, st s2 s' → wga s' 611 (R : Int) = 700000 - 200 * ((R : Int) + 1) ∧ wga s' 612 (R : Int) = (E : Int) ∧ na s' (700000 - 200 * ((R : Int) + 1)) h := fun s' a => by
    have z := st_rfi a (by omega) i1
    exact ⟨z.2.1, z.2.2.1, z.2.2.2.1, Or.inr (by omega)⟩
  unfold W_floorOf_29
  refine ⟨R19, ?_⟩
  rw [i1.2.2.1]
  refine powerOfTwo_ok (by omega) (by omega) (by omega) (fun s3 A1 A2 A3 => ⟨R19, ?_⟩)
  have A12 := A1.2
  refine whole_ok ⟨by omega, by omega⟩ (by omega) (by omega) (fun s4 B1 B2 B3 => ?_)
  have B12 := B1.2
  have t4 := st_tr A1 B1
  rw [(nh s3 A1).1]
  refine by_ka (nh s4 t4).2.2 (nm_na B2) (by omega) (by omega) (fun s5 C1 C2 C3 => ?_)
  have C12 := C1.2
  have t35 := st_tr B1 C1
  refine over_ka C2 (nm_na (st_nm t35 A2)) T0 (by omega) (by omega) (fun s6 D1 D2 D3 => ?_)
  have D12 := D1.2
  have t36 := st_tr t35 D1
  refine whole_ok ⟨by decide, by decide⟩ (by omega) (by omega) (fun s7 G1 G2 G3 => ?_)
  have G12 := G1.2
  refine plus_ka (st_na G1 D2) (nm_na G2) (by omega) (by omega) (fun s8 H1 H2 H3 => ?_)
  have H12 := H1.2
  have t68 := st_tr G1 H1
  have t38 := st_tr t36 t68
  refine by_ka H2 (nm_na (st_nm t38 A2)) (by omega) (by omega) (fun s9 I1 I2 I3 => ⟨R19, ?_⟩)
  have I12 := I1.2
  have t9 := st_tr A1 (st_tr t38 I1)
  refine whole_ok ⟨by decide, by decide⟩ (by omega) (by omega) (fun s10 J1 J2 J3 => ?_)
  have J12 := J1.2
  rw [(nh s9 t9).1]
  refine plus_ka (nh s10 (st_tr t9 J1)).2.2 (nm_na J2) (by omega) (by omega) (fun s11 K1 K2 K3 => ?_)
  have K12 := K1.2
  refine whole_ok ⟨by omega, by omega⟩ (by omega) (by omega) (fun s12 L1 L2 L3 => ?_)
  have L12 := L1.2
  refine by_ka (st_na L1 K2) (nm_na L2) (by omega) (by omega) (fun s13 M1 M2 M3 => ?_)
  have t913 : st s9 s13 := st_tr J1 (st_tr K1 (st_tr L1 M1))
  have t13 := st_tr t9 t913
  refine compare_ok M2.1 (st_na t913 I2).1 (fun v hv => ?_)
  refine valueOf_ok (st_na (st_tr t68 (st_tr I1 t913)) D2).1 (by omega) (fun s14 e14 => ?_)
  have sb14 : sb s2 s14 := by rw [e14]; exact sb_back t13
  have r14 := rkl_sb sb14 (by omega) q2
  have f14 := rfq_tr q1 (sb_rfq sb14 (by omega))
  have x1 : wga s14 612 (R : Int) = E := (nh s14 sb14.1).2.1
  have w1 : wga s2 612 (R : Int) = E := i1.2.2.1
  have u1 : wga s14 609 (R : Int) = 0 := by rw [rfq_row f14 _ _ (by decide) (by decide)]; exact z1
  have s24 := sb14.2
  refine ⟨fun c => ?_, fun c => hQ _ s14 (by omega) f14 r14 ?_⟩
  rotate_left
  · have sc := sg_c ((h + 1) * so - (h * so / 2 ^ E + 1) * 2 ^ E)
    have c1a : ((h + 1 : Int) : Rat) = (h : Rat) + 1 := by rw [Rat.intCast_add]; rfl
    have ng : ¬ 0 < sg ((h + 1) * so - (h * so / 2 ^ E + 1) * 2 ^ E) := fun w => by
      rw [if_pos w] at hv
      omega
    obtain ⟨u1', u2'⟩ := rfi_c hc i1 pf a1 b1
    refine ⟨?_, cut_ge1 hc u2' ?_⟩
    · rw [cut_le1 hc u1' (cmp_le hq.1 (Int.ediv_mul_le _ (by omega)))]; decide
    · rw [← c1a]; exact cmp_ge hq.1 (by omega)
  have sc := sg_c ((h + 1) * so - (h * so / 2 ^ E + 1) * 2 ^ E)
  have c1a : ((h + 1 : Int) : Rat) = (h : Rat) + 1 := by rw [Rat.intCast_add]; rfl
  have gt : 0 < sg ((h + 1) * so - (h * so / 2 ^ E + 1) * 2 ^ E) := by
    refine Classical.byContradiction fun w => ?_
    rw [if_neg w] at hv
    omega
  have lt : h * so ≤ (h * so / 2 ^ E + 1) * 2 ^ E := Int.le_of_lt (Int.lt_ediv_add_one_mul_self _ T0)
  have v1 : (h : Rat) * wd E ≤ ((h * so / 2 ^ E + 1 : Int) : Rat) / (so : Rat) := cmp_ge hq.1 lt
  have v2 : ((h * so / 2 ^ E + 1 : Int) : Rat) / (so : Rat) ≤ ((h : Rat) + 1) * wd E := by
    rw [← c1a]; exact cmp_le hq.1 (by omega)
  have E13 : E < 1300 := Nat.lt_of_not_le fun w => near_no f1 hq.1 (by omega) i1.2.2.2.2.1 v1 v2 (i1.2.2.2.2.2.1 _ v1 v2) i1.2.2.2.2.2.2.1 w
  refine refine_rk r14 hR u1 (by omega) (by omega) (by omega) (fun s15 k1 k2 k3 k4 => ⟨⟨rfq_tr f14 k1, k2⟩, ?_⟩)
  try dsimp only
  omega
theorem fl_tdiv {a b v : Int} (hb : 0 < b) (hv : v = if 0 ≤ a.tmod b then a.tdiv b else a.tdiv b - 1) : v * b ≤ a ∧ a < (v + 1) * b := by
  have e := Int.mul_tdiv_add_tmod a b
  have l := Int.tmod_lt_of_pos a hb
  have l2 := Int.lt_tmod_of_pos a hb
  rw [hv]
  generalize a.tdiv b = q at *
  generalize a.tmod b = r at *
  have e1 : (q - 1 + 1) * b = b * q := by rw [show q - 1 + 1 = q by omega, Int.mul_comm]
  have e2 : (q - 1) * b = b * q - b := by rw [Int.sub_mul, Int.one_mul, Int.mul_comm]
  have e3 : (q + 1) * b = b * q + b := by rw [Int.add_mul, Int.one_mul, Int.mul_comm]
  have e4 : q * b = b * q := Int.mul_comm _ _
  split
  · rw [e3, e4]; omega
  · rw [e1, e2]; omega
theorem floorOf_v {s : im_S} {n : Nat} {f : Nat → Int} {F : Nat → List Int} {lo hi : Nat → Rat} {R : Nat} {so : Int} {d : Rat → Int} {Q : Int → im_S → Prop} (hk : rkl s n f F lo hi) (hR : R < n) (hc : cut d) (hrc : rkc s R (F R) (lo R) (hi R) d) (hq : 0 < so ∧ so ≤ 1000000000) (h0 : 0 ≤ wgf s 24) (hm : wgf s 24 + 300000 ≤ 684000) (hQ : ∀ (v : Int) (s' : im_S), -3000000000000000000 ≤ v ∧ v ≤ 3000000000000000000 → rfq s s' → rkl s' n f F lo hi → flc d so v → Q v s') : W_floorOf (R : Int) so s Q := by
  have n80 := hk.1
  have R19 : 0 ≤ (R : Int) ∧ (R : Int) < 90 := by omega
  unfold W_floorOf
  refine ⟨R19, fun c => ?_, fun c => ⟨R19, ?_⟩⟩
  · have z := ((hk.2 R hR).resolve_left (fun k => by omega)).1
    exact floorOf_29v hk hR z hq h0 hm hc (hrc.resolve_left (fun ⟨x, _, x2, _⟩ => by have := x.den_pos; omega)).2.2 hQ
  · rcases hk.2 R hR with k | k
    · have t := tmul_b k.2.2 hq
      have d' := tdiv_b (b := wga s 609 (R : Int)) t
      refine ⟨by unfold lR; omega, ?_⟩
      unfold W_floor
      refine ⟨k.1, fun _ => by unfold lR; omega, fun v hv => hQ v s ?_ rfq_rfl hk ?_⟩
      · rw [hv]
        split <;> omega
      · obtain ⟨x, x1, x2, x3⟩ := hrc.resolve_right (fun w => by have := w.1; omega)
        obtain ⟨f1, f2⟩ := fl_tdiv k.1 hv
        rw [x1, x2] at f1 f2
        unfold flc
        rw [x3, ← sg_qct hq.1, ← sg_qct hq.1]
        have a := sg_c (x.num * so - v * (x.den : Int))
        have b := sg_c (x.num * so - (v + 1) * (x.den : Int))
        omega
    · exact absurd k.1 (by omega)
