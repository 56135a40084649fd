/-! against: a root that is no fraction against p / q -/
theorem against_71 {s : im_S} {R f p q h0' : Int} {F : List Int} {E0 : Nat} {lo hi : Rat} {Q : Int → im_S → Prop} (hR : 0 ≤ R ∧ R ≤ 79) (fF : fct F) (hf : pol s f F) (hE0 : E0 ≤ 2000) (hi0 : rfi s R f F h0' E0) (hlo : lo ≤ (h0' : Rat) * wd E0) (hhi : ((h0' : Rat) + 1) * wd E0 ≤ hi) (hp : -1000000000000000000 ≤ p ∧ p ≤ 1000000000000000000) (hq : 0 < q ∧ q ≤ 1000000000000000000) (h0 : 0 ≤ wgf s 24) (hm : wgf s 24 + 300000 ≤ 684000) (hQ : ∀ (s' : im_S) (v h : Int) (E : Nat), rfr R s s' → E ≤ 2000 → rfi s' R f F h E → lo ≤ (h : Rat) * wd E → ((h : Rat) + 1) * wd E ≤ hi → (v = 1 ∧ (p : Rat) / (q : Rat) ≤ (h : Rat) * wd E) ∨ (v = -1 ∧ ((h : Rat) + 1) * wd E ≤ (p : Rat) / (q : Rat)) → Q v s') : wloop (fun (K : im_S → Prop) (a : im_S) => W_against_71 K R p q a Q) s := by
  refine ⟨fun a => rfr R s a ∧ ∃ (h : Int) (E : Nat), E ≤ 2000 ∧ rfi a R f F h E ∧ lo ≤ (h : Rat) * wd E ∧ ((h : Rat) + 1) * wd E ≤ hi, fun a => (2400 - wga a 612 R).toNat, ⟨rfr_rfl, h0', E0, hE0, hi0, hlo, hhi⟩, ?_⟩
  rintro s2 ⟨i1, h, E, i2, i3, i4, i5⟩
  have e24 := rfr_24 i1
  have R9 : 0 ≤ R ∧ R < 90 := ⟨hR.1, by omega⟩
  have lh := rfi_lim i3.2.2.2.2.1
  have lp : lim p ≤ 3 := lim_le (Nat.lt_of_le_of_lt (show p.natAbs ≤ 1000000000000000000 by omega) (by decide))
  have lq : lim q ≤ 3 := lim_le (Nat.lt_of_le_of_lt (show q.natAbs ≤ 1000000000000000000 by omega) (by decide))
  have l1 := lim_one
  have q1 : lim (2 ^ E) ≤ 70 := by
    have := lim_p2 E
    omega
  have q2 : ((E : Int) + 40) * (lim (2 ^ E) + 3) ≤ 2040 * 73 := by
    have b' : (E + 40) * (lim (2 ^ E) + 3) ≤ 2040 * 73 := Nat.mul_le_mul (by omega) (by omega)
    exact Int.ofNat_le.2 b'
  have lm1 := lim_mul p (2 ^ E)
  have lm2 := lim_mul h q
  have la := lim_add h 1
  have lm3 := lim_mul (h + 1) q
  have nh : ∀ s' : im_S, st s2 s' → wga s' 611 R = 700000 - 200 * (R + 1) ∧ wga s' 612 R = (E : Int) ∧ na s' (700000 - 200 * (R + 1)) h := fun s' a => by
    have z := st_rfi a hR.2 i3
    exact ⟨z.2.1, z.2.2.1, z.2.2.2.1, Or.inr (by omega)⟩
  unfold W_against_71
  refine whole_ok ⟨by omega, by omega⟩ (by omega) (by omega) (fun s3 a1 a2 a3 => ⟨R9, ?_⟩)
  have a12 := a1.2
  rw [(nh s3 a1).2.1]
  refine powerOfTwo_ok (by omega) (by omega) (by omega) (fun s4 b1 b2 b3 => ?_)
  have b12 := b1.2
  refine by_ok (st_nm b1 a2) b2 (by omega) (by omega) (fun s5 c1 c2 c3 => ⟨R9, ?_⟩)
  have c12 := c1.2
  have t5 : st s2 s5 := st_tr a1 (st_tr b1 c1)
  refine whole_ok ⟨by omega, by omega⟩ (by omega) (by omega) (fun s6 d1 d2 d3 => ?_)
  have d12 := d1.2
  rw [(nh s5 t5).1]
  refine by_ka (nh s6 (st_tr t5 d1)).2.2 (nm_na d2) (by omega) (by omega) (fun s7 e1 e2 e3 => ?_)
  have e12 := e1.2
  have t7 : st s5 s7 := st_tr d1 e1
  have n7 := st_nm t7 c2
  refine compare_ok e2.1 n7.1 ⟨R9, whole_ok ⟨by decide, by decide⟩ (by omega) (by omega) (fun s8 f1 f2 f3 => ?_)⟩
  have f12 := f1.2
  have t57 := st_tr t5 t7
  rw [(nh s7 t57).1]
  refine plus_ka (nh s8 (st_tr t57 f1)).2.2 (nm_na f2) (by omega) (by omega) (fun s9 g1 g2 g3 => ?_)
  have g12 := g1.2
  refine whole_ok ⟨by omega, by omega⟩ (by omega) (by omega) (fun s10 k1 k2 k3 => ?_)
  have k12 := k1.2
  refine by_ka (st_na k1 g2) (nm_na k2) (by omega) (by omega) (fun s11 m1 m2 m3 => ?_)
  have m12 := m1.2
  have t11 : st s7 s11 := st_tr f1 (st_tr g1 (st_tr k1 m1))
  refine compare_ok m2.1 (st_nm t11 n7).1 (fun s12 e12' => ?_)
  have sb12 : sb s2 s12 := by rw [e12']; exact sb_back (st_tr t57 t11)
  have fr12 : rfr R s s12 := rfr_tr i1 (sb_rfr sb12)
  have ri12 := st_rfi sb12.1 hR.2 i3
  have t12 := sb12.2
  have sc1 := sg_c (h * q - p * 2 ^ E)
  have sc2 := sg_c ((h + 1) * q - p * 2 ^ E)
  have c1a : ((h + 1 : Int) : Rat) = (h : Rat) + 1 := by rw [Rat.intCast_add]; rfl
  refine ⟨fun c => ⟨fun c' => ?_, fun c' => ?_⟩, fun c => ?_⟩
  · have u1 : (h : Rat) * wd E ≤ (p : Rat) / (q : Rat) := cmp_ge hq.1 (by omega)
    have u2 : (p : Rat) / (q : Rat) ≤ ((h : Rat) + 1) * wd E := by
      rw [← c1a]; exact cmp_le hq.1 (by omega)
    have E13 : E < 1300 := Nat.lt_of_not_le fun w => near_no fF hq.1 hq.2 i3.2.2.2.2.1 u1 u2 (i3.2.2.2.2.2.1 _ u1 u2) i3.2.2.2.2.2.2.1 w
    refine refine_ok hR (by omega) (rfr_pol fr12 hR.2 (by omega) hf) fF ri12 (by omega) (by omega) (fun s13 h' w1 w2 w3 => ⟨⟨rfr_tr fr12 w2, h', E + 1, by omega, w3, ?_, ?_⟩, ?_⟩)
    · obtain ⟨v1, v2⟩ := mid_ev h E
      have wp := wd_pos ((E + 1 : Nat) : Int)
      have c2a : ((h * 2 + 1 : Int) : Rat) = ((h * 2 : Int) : Rat) + 1 := by rw [Rat.intCast_add]; rfl
      rcases w1 with w | w
      · rw [w, v1]; exact i4
      · rw [w, c2a]
        rw [← v1] at i4
        grind
    · obtain ⟨v1, v2⟩ := mid_ev h E
      have wp := wd_pos ((E + 1 : Nat) : Int)
      have c2a : ((h * 2 + 1 : Int) : Rat) = ((h * 2 : Int) : Rat) + 1 := by rw [Rat.intCast_add]; rfl
      rcases w1 with w | w
      · rw [w]
        rw [← v2, c2a] at i5
        grind
      · rw [w, v2]; exact i5
    · have x1 := w3.2.2.1
      have x2 := i3.2.2.1
      dsimp only
      omega
  · exact hQ s12 (-1) h E fr12 i2 ri12 i4 i5 (Or.inr ⟨rfl, by rw [← c1a]; exact cmp_ge hq.1 (by omega)⟩)
  · exact hQ s12 1 h E fr12 i2 ri12 i4 i5 (Or.inl ⟨rfl, cmp_le hq.1 (by omega)⟩)
