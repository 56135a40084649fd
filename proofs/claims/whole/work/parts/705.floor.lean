/-! floorOf -/
theorem h_31 {s : im_S} {R f h : Int} {F : List Int} {E : Nat} (fF : fct F) (i : rfi s R f F h E) : -2147483649 * 2 ^ E ≤ h ∧ h ≤ 2147483648 * 2 ^ E := by
  have wE := wd_nat E
  have wp := wd_pos (E : Int)
  obtain ⟨l1, r1⟩ := rfi_rb i.2.2.2.2.1
  have w1 : wd E ≤ 1 := by
    have T2 : (1 : Rat) ≤ (2 : Rat) ^ E := rpow_ge1 (by grind) E
    have b := Rat.mul_le_mul_of_nonneg_left T2 (Rat.le_of_lt wp)
    grind
  obtain ⟨x, x1, x2, x3, x4⟩ := root_31 fF (show (h : Rat) * wd E < ((h : Rat) + 1) * wd E by grind) (by grind) l1 r1 i.2.2.2.2.2.1 i.2.2.2.2.2.2.1
  have T0 : (0 : Rat) < (2 : Rat) ^ E := Rat.pow_pos (by grind)
  have eT : (((2 : Int) ^ E : Int) : Rat) = (2 : Rat) ^ E := by rw [Rat.intCast_pow]; rfl
  have m1 : (-2147483649 : Rat) ≤ (h : Rat) * wd E := by grind
  have m2 : (h : Rat) * wd E ≤ 2147483648 := by grind
  have k1 := Rat.mul_le_mul_of_nonneg_right m1 (Rat.le_of_lt T0)
  have k2 := Rat.mul_le_mul_of_nonneg_right m2 (Rat.le_of_lt T0)
  rw [Rat.mul_assoc, wE, Rat.mul_one, ← eT] at k1 k2
  have a1 : ((-2147483649 : Int) : Rat) = -2147483649 := rfl
  have a2 : ((2147483648 : Int) : Rat) = 2147483648 := rfl
  rw [← a1, ← Rat.intCast_mul] at k1
  rw [← a2, ← Rat.intCast_mul] at k2
  exact ⟨Rat.intCast_le_intCast.1 k1, Rat.intCast_le_intCast.1 k2⟩
theorem fl_31 {h q : Int} {E : Nat} (hh : -2147483649 * 2 ^ E ≤ h ∧ h ≤ 2147483648 * 2 ^ E) (hq : 0 < q ∧ q ≤ 1000000000) : -2147483649000000000 ≤ h * q / 2 ^ E ∧ h * q / 2 ^ E ≤ 2147483648000000000 := by
  have T0 : (0 : Int) < 2 ^ E := Int.pow_pos (by decide)
  generalize (2 : Int) ^ E = T at *
  have a1 := Int.mul_le_mul_of_nonneg_right hh.1 (show 0 ≤ q by omega)
  have a2 := Int.mul_le_mul_of_nonneg_right hh.2 (show 0 ≤ q by omega)
  have b1 := Int.mul_le_mul_of_nonneg_left hq.2 (show 0 ≤ 2147483649 * T by omega)
  have b2 := Int.mul_le_mul_of_nonneg_left hq.2 (show 0 ≤ 2147483648 * T by omega)
  refine ⟨Int.le_ediv_of_mul_le T0 ?_, Int.ediv_le_of_le_mul T0 ?_⟩
  · have e : -2147483649 * T * q = -(2147483649 * T * q) := by rw [Int.neg_mul, Int.neg_mul]
    omega
  · omega
theorem floorOf_29 {s : im_S} {n : Nat} {f : Nat → Int} {F : Nat → List Int} {lo hi : Nat → Rat} {R : Nat} {so : Int} {Q : Int → im_S → Prop} (hk : rkl s n f F lo hi) (hR : R < n) (z1 : wga s 609 (R : Int) = 0) (hq : 0 < so ∧ so ≤ 1000000000) (h0 : 0 ≤ wgf s 24) (hm : wgf s 24 + 300000 ≤ 684000) (hQ : ∀ (v : Int) (s' : im_S), -3000000000000000000 ≤ v ∧ v ≤ 3000000000000000000 → rfq s s' → rkl s' n f F lo hi → Q v s') : wloop (fun (K : im_S → Prop) (a : im_S) => W_floorOf_29 K (R : Int) so a Q) s := by
  refine ⟨fun a => rfq s a ∧ rkl a n f F lo hi, fun a => (5000 - wga a 612 (R : Int)).toNat, ⟨rfq_rfl, hk⟩, ?_⟩
  rintro s2 ⟨q1, q2⟩
  have e24 := rfq_24 q1
  have n80 := hk.1
  have y1 : wga s2 609 (R : Int) = 0 := by rw [rfq_row q1 _ _ (by decide) (by decide)]; exact z1
  obtain ⟨_, f1, p1, h, E, g1, i1, a1, b1⟩ : _ ∧ fct (F R) ∧ pol s2 (f R) (F R) ∧ _ := (q2.2 R hR).resolve_left (fun k => by omega)
  have R19 : 0 ≤ (R : Int) ∧ (R : Int) < 90 := by omega
  have lh := rfi_lim i1.2.2.2.2.1
  have l1 := lim_one
  have lq : lim so ≤ 3 := lim_le (Nat.lt_of_le_of_lt (show so.natAbs ≤ 1000000000000000000 by omega) (by decide))
  have fl := fl_31 (h_31 f1 i1) hq
  have lf : lim (h * so / 2 ^ E) ≤ 3 := lim_le (Nat.lt_of_le_of_lt (show (h * so / 2 ^ E).natAbs ≤ 3000000000000000000 by omega) (by decide))
  have T0 : (0 : Int) < 2 ^ E := Int.pow_pos (by decide)
  have c0 := lim_p2 E
  have cE : lim (2 ^ E) ≤ 70 := by omega
  have dE : ((E : Int) + 40) * (lim (2 ^ E) + 3) ≤ 2040 * 73 := by
    have b' : (E + 40) * (lim (2 ^ E) + 3) ≤ 2040 * 73 := Nat.mul_le_mul (by omega) (by omega)
    exact Int.ofNat_le.2 b'
  have lm1 := lim_mul h so
  have la1 := lim_add (h * so / 2 ^ E) 1
  have lm2 := lim_mul (h * so / 2 ^ E + 1) (2 ^ E)
  have la2 := lim_add h 1
  have lm3 := lim_mul (h + 1) so
  have nh : ∀ s' : im_S, st s2 s' → wga s' 611 (R : Int) = 700000 - 200 * ((R : Int) + 1) ∧ wga s' 612 (R : Int) = (E : Int) ∧ na s' (700000 - 200 * ((R : Int) + 1)) h := fun s' a => by
    have z := st_rfi a (by omega) i1
    exact ⟨z.2.1, z.2.2.1, z.2.2.2.1, Or.inr (by omega)⟩
  unfold W_floorOf_29
  refine ⟨R19, ?_⟩
  rw [i1.2.2.1]
  refine powerOfTwo_ok (by omega) (by omega) (by omega) (fun s3 A1 A2 A3 => ⟨R19, ?_⟩)
  have A12 := A1.2
  refine whole_ok ⟨by omega, by omega⟩ (by omega) (by omega) (fun s4 B1 B2 B3 => ?_)
  have B12 := B1.2
  have t4 := st_tr A1 B1
  rw [(nh s3 A1).1]
  refine by_ka (nh s4 t4).2.2 (nm_na B2) (by omega) (by omega) (fun s5 C1 C2 C3 => ?_)
  have C12 := C1.2
  have t35 := st_tr B1 C1
  refine over_ka C2 (nm_na (st_nm t35 A2)) T0 (by omega) (by omega) (fun s6 D1 D2 D3 => ?_)
  have D12 := D1.2
  have t36 := st_tr t35 D1
  refine whole_ok ⟨by decide, by decide⟩ (by omega) (by omega) (fun s7 G1 G2 G3 => ?_)
  have G12 := G1.2
  refine plus_ka (st_na G1 D2) (nm_na G2) (by omega) (by omega) (fun s8 H1 H2 H3 => ?_)
  have H12 := H1.2
  have t68 := st_tr G1 H1
  have t38 := st_tr t36 t68
  refine by_ka H2 (nm_na (st_nm t38 A2)) (by omega) (by omega) (fun s9 I1 I2 I3 => ⟨R19, ?_⟩)
  have I12 := I1.2
  have t9 := st_tr A1 (st_tr t38 I1)
  refine whole_ok ⟨by decide, by decide⟩ (by omega) (by omega) (fun s10 J1 J2 J3 => ?_)
  have J12 := J1.2
  rw [(nh s9 t9).1]
  refine plus_ka (nh s10 (st_tr t9 J1)).2.2 (nm_na J2) (by omega) (by omega) (fun s11 K1 K2 K3 => ?_)
  have K12 := K1.2
  refine whole_ok ⟨by omega, by omega⟩ (by omega) (by omega) (fun s12 L1 L2 L3 => ?_)
  have L12 := L1.2
  refine by_ka (st_na L1 K2) (nm_na L2) (by omega) (by omega) (fun s13 M1 M2 M3 => ?_)
  have t913 : st s9 s13 := st_tr J1 (st_tr K1 (st_tr L1 M1))
  have t13 := st_tr t9 t913
  refine compare_ok M2.1 (st_na t913 I2).1 (fun v hv => ?_)
  refine valueOf_ok (st_na (st_tr t68 (st_tr I1 t913)) D2).1 (by omega) (fun s14 e14 => ?_)
  have sb14 : sb s2 s14 := by rw [e14]; exact sb_back t13
  have r14 := rkl_sb sb14 (by omega) q2
  have f14 := rfq_tr q1 (sb_rfq sb14 (by omega))
  have x1 : wga s14 612 (R : Int) = E := (nh s14 sb14.1).2.1
  have w1 : wga s2 612 (R : Int) = E := i1.2.2.1
  have u1 : wga s14 609 (R : Int) = 0 := by rw [rfq_row f14 _ _ (by decide) (by decide)]; exact z1
  have s24 := sb14.2
  refine ⟨fun c => ?_, fun _ => hQ _ s14 (by omega) f14 r14⟩
  have sc := sg_c ((h + 1) * so - (h * so / 2 ^ E + 1) * 2 ^ E)
  have c1a : ((h + 1 : Int) : Rat) = (h : Rat) + 1 := by rw [Rat.intCast_add]; rfl
  have gt : 0 < sg ((h + 1) * so - (h * so / 2 ^ E + 1) * 2 ^ E) := by
    refine Classical.byContradiction fun w => ?_
    rw [if_neg w] at hv
    omega
  have lt : h * so ≤ (h * so / 2 ^ E + 1) * 2 ^ E := Int.le_of_lt (Int.lt_ediv_add_one_mul_self _ T0)
  have v1 : (h : Rat) * wd E ≤ ((h * so / 2 ^ E + 1 : Int) : Rat) / (so : Rat) := cmp_ge hq.1 lt
  have v2 : ((h * so / 2 ^ E + 1 : Int) : Rat) / (so : Rat) ≤ ((h : Rat) + 1) * wd E := by
    rw [← c1a]; exact cmp_le hq.1 (by omega)
  have E13 : E < 1300 := Nat.lt_of_not_le fun w => near_no f1 hq.1 (by omega) i1.2.2.2.2.1 v1 v2 (i1.2.2.2.2.2.1 _ v1 v2) i1.2.2.2.2.2.2.1 w
  refine refine_rk r14 hR u1 (by omega) (by omega) (by omega) (fun s15 k1 k2 k3 k4 => ⟨⟨rfq_tr f14 k1, k2⟩, ?_⟩)
  dsimp only
  omega
theorem tmul_b {a b : Int} (ha : -1000000000 ≤ a ∧ a ≤ 1000000000) (hb : 0 < b ∧ b ≤ 1000000000) : -1000000000000000000 ≤ a * b ∧ a * b ≤ 1000000000000000000 := by
  have a1 := Int.mul_le_mul_of_nonneg_right ha.1 (show 0 ≤ b by omega)
  have a2 := Int.mul_le_mul_of_nonneg_right ha.2 (show 0 ≤ b by omega)
  omega
theorem tdiv_b {a b : Int} (ha : -1000000000000000000 ≤ a ∧ a ≤ 1000000000000000000) : -1000000000000000000 ≤ a.tdiv b ∧ a.tdiv b ≤ 1000000000000000000 := by
  have := Int.natAbs_tdiv_le_natAbs a b
  omega
theorem floorOf_ok {s : im_S} {n : Nat} {f : Nat → Int} {F : Nat → List Int} {lo hi : Nat → Rat} {R : Nat} {so : Int} {Q : Int → im_S → Prop} (hk : rkl s n f F lo hi) (hR : R < n) (hq : 0 < so ∧ so ≤ 1000000000) (h0 : 0 ≤ wgf s 24) (hm : wgf s 24 + 300000 ≤ 684000) (hQ : ∀ (v : Int) (s' : im_S), -3000000000000000000 ≤ v ∧ v ≤ 3000000000000000000 → rfq s s' → rkl s' n f F lo hi → Q v s') : W_floorOf (R : Int) so s Q := by
  have n80 := hk.1
  have R19 : 0 ≤ (R : Int) ∧ (R : Int) < 90 := by omega
  unfold W_floorOf
  refine ⟨R19, fun c => floorOf_29 hk hR (((hk.2 R hR).resolve_left (fun k => by omega)).1) hq h0 hm hQ, fun c => ⟨R19, ?_⟩⟩
  rcases hk.2 R hR with k | k
  · have t := tmul_b k.2.2 hq
    have d := tdiv_b (b := wga s 609 (R : Int)) t
    refine ⟨by unfold lR; omega, ?_⟩
    unfold W_floor
    refine ⟨k.1, fun _ => by unfold lR; omega, fun v hv => hQ v s ?_ rfq_rfl hk⟩
    rw [hv]
    split <;> omega
  · exact absurd k.1 (by omega)
theorem mostBelow_ok {s : im_S} {n : Nat} {f : Nat → Int} {F : Nat → List Int} {lo hi : Nat → Rat} {R : Nat} {so : Int} {Q : Int → im_S → Prop} (hk : rkl s n f F lo hi) (hR : R < n) (hq : 0 < so ∧ so ≤ 1000000000) (h0 : 0 ≤ wgf s 24) (hm : wgf s 24 + 300000 ≤ 684000) (hQ : ∀ (v : Int) (s' : im_S), -4000000000000000000 ≤ v ∧ v ≤ 4000000000000000000 → rfq s s' → rkl s' n f F lo hi → Q v s') : W_mostBelow (R : Int) so s Q := by
  have n80 := hk.1
  have R19 : 0 ≤ (R : Int) ∧ (R : Int) < 90 := by omega
  unfold W_mostBelow
  refine floorOf_ok hk hR hq h0 hm (fun v s' v1 a b => ⟨R19, fun c => ?_, fun c => by omega, fun _ _ => by unfold lR; omega, fun w hw => hQ w s' ?_ a b⟩)
  · rcases b.2 R hR with k | k
    · have t := tmul_b k.2.2 hq
      unfold lR; omega
    · exact absurd k.1 (by omega)
  · rw [hw]
    split
    · omega
    · split <;> omega
