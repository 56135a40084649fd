/-! THE REFERENCE'S LONG NUMBERS: over, gcd, powerOfTwo, valueOf, reserve, plus1 -/
theorem num_pos {s : im_S} {x X : Int} (h : num s x X) (hX : 0 ≤ X) : wga s 597 x = lim X := by
  rw [h.2.2.1, if_neg (by omega)]
theorem st_pa {s0 s : im_S} {i w : Int} (h : st s0 s) (h0 : 0 ≤ i) (h1 : wgf s0 24 ≤ i) (h2 : i < 684000) : st s0 (wpa s 597 i w) := ⟨ag_pa h.1 h0 h1 h2, h.2⟩
theorem div_b {X Y : Int} (hY : 0 < Y) : (X / Y).natAbs ≤ X.natAbs := by
  have h1 : X = X % Y + Y * (X / Y) := (Int.emod_add_mul_ediv X Y).symm
  have h2 := Int.emod_nonneg X (b := Y) (by omega)
  have h3 := Int.emod_lt_of_pos X hY
  rcases (show X < 0 ∨ 0 ≤ X by omega) with c | c
  · have q1 : X / Y < 0 := Int.ediv_neg_of_neg_of_pos c hY
    have z : (Y - 1) * (X / Y + 1) ≤ 0 := Int.mul_nonpos_of_nonneg_of_nonpos (by omega) (by omega)
    rw [Int.sub_mul, Int.mul_add] at z
    omega
  · have q1 : 0 ≤ X / Y := Int.ediv_nonneg c (by omega)
    have q2 : X / Y ≤ X := Int.ediv_le_self Y c
    omega
theorem over_ka {s : im_S} {x y X Y : Int} {Q : Int → im_S → Prop} (hx : na s x X) (hy : na s y Y) (hY : 0 < Y) (h0 : 0 ≤ wgf s 24) (hr : wgf s 24 + 3 * lim X + 20 ≤ 684000) (hQ : ∀ s', st s s' → na s' (wgf s 24) (X / Y) → wgf s' 24 = wgf s 24 + lim (X / Y) + 1 → Q (wgf s 24) s') : W_over x y s Q := by
  unfold W_over
  refine divide_ka hx hy (by omega) h0 (by omega) (fun r s4 a1 a2 n1 n2 p1 p2 p3 => ?_)
  have ey : (Y.natAbs : Int) = Y := by omega
  rw [ey] at n1 n2 p1 p3
  refine sgn_ok (st_na a1 hx).1 (sgn_ok (st_na a1 hy).1 ?_)
  have sy : sg Y = 1 := sg_p.2 hY
  have cx := sg_c X
  rw [sy, Int.mul_one, a2]
  have ea : 0 ≤ (X.natAbs : Int) / Y := Int.ediv_nonneg (by omega) (by omega)
  have er : 0 ≤ (X.natAbs : Int) % Y := Int.emod_nonneg _ (by omega)
  have er2 := Int.emod_lt_of_pos (X.natAbs : Int) hY
  have edm := Int.emod_add_mul_ediv (X.natAbs : Int) Y
  have wq := num_pos n1.1 ea
  have wr := num_pos n2.1 er
  have hlr := n2.1.2.1
  have hr0 := n2.1.1
  have hq1 := n1.1.2.1
  have hlim := lim_mono (div_b (X := X) hY)
  have hlim2 : lim ((X.natAbs : Int) / Y) ≤ lim X := by
    refine Nat.le_trans (lim_mono (div_b (X := (X.natAbs : Int)) hY)) ?_
    exact lim_mono (by omega)
  refine ⟨⟨by omega, by omega⟩, fun v hv => ⟨⟨hr0, by omega⟩, fun w hw => ⟨fun _ => ⟨h0, by omega⟩, fun _ => ⟨h0, by omega⟩, fun _ => by rw [wq]; exact ⟨by omega, by omega⟩, fun g hg => ⟨⟨h0, by omega⟩, fun s5 e5 => ?_⟩⟩⟩⟩
  have t5 : wgf s5 24 = wgf s4 24 := by rw [e5]; rfl
  have a5 : st s s5 := by rw [e5]; exact st_pa a1 h0 (Int.le_refl _) (by omega)
  refine ⟨fun c => ?_, fun c => ⟨fun c2 => ?_, fun c2 => ?_⟩⟩
  · have cX : 0 ≤ X := by
      rw [hv] at c
      split at c <;> omega
    have eX : (X.natAbs : Int) = X := by omega
    have n5 : num s5 (wgf s 24) (X / Y) := by
      rw [e5]
      rw [eX] at n1
      refine num_sw n1.1 rfl ?_
      rw [hg, if_pos c, ← n1.1.2.2.1]
    unfold W_over_110
    exact keep_ka a5 n5 rfl h0 (Int.le_refl _) (by omega) hQ
  · have cX : X < 0 := by
      rw [hv] at c
      split at c <;> omega
    have z : (X.natAbs : Int) % Y = 0 := by
      rw [hw, wr] at c2
      have q : lim ((X.natAbs : Int) % Y) = 0 := by split at c2 <;> omega
      by_cases q2 : (X.natAbs : Int) % Y = 0
      · exact q2
      · have := lim_pos q2; omega
    have eX : X / Y = -((X.natAbs : Int) / Y) := by
      refine ((Int.ediv_emod_unique (a := X) (b := Y) (r := 0) (q := -((X.natAbs : Int) / Y)) hY).2 ⟨?_, by decide, hY⟩).1
      rw [Int.mul_neg]; omega
    have n5 : num s5 (wgf s 24) (X / Y) := by
      rw [e5, eX]
      refine num_sw n1.1 (Int.natAbs_neg _) ?_
      rw [hg, if_neg c, wq, lim_neg]
      by_cases q : (X.natAbs : Int) / Y = 0
      · rw [q]; rfl
      · rw [if_pos (by omega)]
    unfold W_over_110
    exact keep_ka a5 n5 rfl h0 (Int.le_refl _) (by omega) hQ
  · have cX : X < 0 := by
      rw [hv] at c
      split at c <;> omega
    have z : (X.natAbs : Int) % Y ≠ 0 := by
      intro q
      rw [hw, wr, q] at c2
      exact c2 (if_pos rfl)
    have eX : X / Y = -((X.natAbs : Int) / Y) - 1 := by
      refine ((Int.ediv_emod_unique (a := X) (b := Y) (r := Y - (X.natAbs : Int) % Y) (q := -((X.natAbs : Int) / Y) - 1) hY).2 ⟨?_, by omega, by omega⟩).1
      rw [Int.mul_sub, Int.mul_neg]; omega
    have n5 : na s5 (wgf s 24) (-((X.natAbs : Int) / Y)) := by
      refine ⟨?_, Or.inl (by rw [lim_neg, t5]; omega)⟩
      rw [e5]
      refine num_sw n1.1 (Int.natAbs_neg _) ?_
      rw [hg, if_neg c, wq, lim_neg]
      by_cases q : (X.natAbs : Int) / Y = 0
      · rw [q]; rfl
      · rw [if_pos (by omega)]
    have l1 := lim_one
    have l2 := lim_neg ((X.natAbs : Int) / Y)
    refine whole_ka ⟨by decide, by decide⟩ (by have := a5.2; omega) (by rw [l1]; omega) (fun s6 a6 n6 t6 => ?_)
    rw [l1] at t6
    refine minus_ka (st_na a6 n5) n6 (by have := a5.2; omega) (by rw [l1, l2]; omega) (fun s7 a7 n7 t7 => ?_)
    rw [← eX] at n7
    unfold W_over_110
    exact keep_ka (st_tr a5 (st_tr a6 a7)) n7.1 rfl h0 (by have := a5.2; have := a6.2; omega) (by omega) hQ
theorem gcd_st {U V : Int} (h1 : 0 ≤ U) (h2 : 0 ≤ V) : Int.gcd V (U % V) = Int.gcd U V := by
  obtain ⟨a, rfl⟩ := Int.eq_ofNat_of_zero_le h1
  obtain ⟨b, rfl⟩ := Int.eq_ofNat_of_zero_le h2
  show Nat.gcd b (a % b) = Nat.gcd a b
  rw [Nat.gcd_comm b, ← Nat.gcd_rec b a, Nat.gcd_comm]
theorem gcd_ka {s : im_S} {x y X Y : Int} {M : Nat} {Q : Int → im_S → Prop} (hx : na s x X) (hy : na s y Y) (hMx : lim X ≤ M) (hMy : lim Y ≤ M) (h0 : 0 ≤ wgf s 24) (hr : wgf s 24 + 6 * M + 12 ≤ 684000) (hQ : ∀ s', st s s' → na s' (wgf s 24) (Int.gcd X Y : Int) → wgf s' 24 = wgf s 24 + lim (Int.gcd X Y : Int) + 1 → lim (Int.gcd X Y : Int) ≤ M → Q (wgf s 24) s') : W_gcd x y s Q := by
  unfold W_gcd
  refine again_ka hx h0 (by omega) (fun s1 a1 n1 t1 => limbs_ok n1.1 ⟨⟨h0, by omega⟩, fun s2 e2 => ?_⟩)
  have lx : lim (X.natAbs : Int) = lim X := lim_abs (by omega)
  have ly : lim (Y.natAbs : Int) = lim Y := lim_abs (by omega)
  have n2 : num s2 (wgf s 24) (X.natAbs : Int) := by
    rw [e2]
    refine num_sw n1.1 (by omega) ?_
    rw [if_neg (by omega), lx]
  have t2 : wgf s2 24 = wgf s1 24 := by rw [e2]; rfl
  have a2 : st s s2 := by rw [e2]; exact st_pa a1 h0 (Int.le_refl _) (by omega)
  refine again_ka (st_na a2 hy) (by omega) (by omega) (fun s3 a3 n3 t3 => limbs_ok n3.1 ⟨⟨by omega, by omega⟩, fun s4 e4 => ?_⟩)
  have n4 : num s4 (wgf s2 24) (Y.natAbs : Int) := by
    rw [e4]
    refine num_sw n3.1 (by omega) ?_
    rw [if_neg (by omega), ly]
  have t4 : wgf s4 24 = wgf s3 24 := by rw [e4]; rfl
  have a4 : st s2 s4 := by rw [e4]; exact st_pa a3 (by omega) (Int.le_refl _) (by omega)
  have n5 : num s4 (wgf s 24) (X.natAbs : Int) := num_ag n2 a4.1 (Or.inl (by omega))
  refine ⟨fun a => a.1 = wgf s 24 ∧ ∃ U V : Int, 0 ≤ U ∧ 0 ≤ V ∧ lim U ≤ M ∧ lim V ≤ M ∧ num a.2.2 (wgf s 24) U ∧ a.2.1 = wgf s 24 + lim U + 1 ∧ num a.2.2 a.2.1 V ∧ wgf a.2.2 24 = a.2.1 + lim V + 1 ∧ st s a.2.2 ∧ Int.gcd U V = Int.gcd X Y, fun a => (dv a.2.2 a.2.1 (wga a.2.2 597 a.2.1).toNat).toNat, ⟨rfl, X.natAbs, Y.natAbs, by omega, by omega, by omega, by omega, n5, by dsimp only; omega, n4, by dsimp only; omega, st_tr a2 a4, ?_⟩, ?_⟩
  · simp [Int.gcd]
  · rintro ⟨u, v, s5⟩ ⟨i0, U, V, i1, i2, i3, i4, i5, i6, i7, i8, i9, i10⟩
    dsimp only at i0 i1 i2 i3 i4 i5 i6 i7 i8 i9 i10 ⊢
    subst i0
    have wv := num_pos i7 i2
    have vv := i7.2.2.2.2
    have b7 := i7.2.1
    have b5 := i5.2.1
    have eV : (V.natAbs : Int) = V := by omega
    have eU : (U.natAbs : Int) = U := by omega
    have ev : dv s5 v (wga s5 597 v).toNat = V := by
      rw [wv, Int.toNat_natCast, vv, eV]
    unfold W_gcd_45
    refine ⟨⟨by omega, by omega⟩, fun c => ?_, fun c => ?_⟩
    · have hV : V = 0 := by
        by_cases q : V = 0
        · exact q
        · have := lim_pos q; omega
      subst hV
      have eg : (Int.gcd X Y : Int) = U := by
        rw [← i10, Int.gcd_zero_right]
        exact eU
      rw [eg] at hQ
      exact keep_ka i9 i5 rfl h0 (Int.le_refl _) (by omega) (fun s' z1 z2 z3 => hQ s' z1 z2 z3 i3)
    · have hV : V ≠ 0 := by
        intro q
        subst q
        rw [wv] at c
        exact c rfl
      have nU : na s5 (wgf s 24) U := ⟨i5, Or.inl (by omega)⟩
      have nV : na s5 v V := ⟨i7, Or.inl (by omega)⟩
      refine divide_ka nU nV hV (by omega) (by omega) (fun r s6 c1 c2 c3 c4 c5 c6 c7 => ?_)
      rw [eU, eV] at c4 c7
      have m1 : 0 ≤ U % V := Int.emod_nonneg _ hV
      have m2 : U % V < V := Int.emod_lt_of_pos _ (by omega)
      have m3 : lim (U % V) ≤ lim V := lim_mono (by omega)
      refine again_ka (st_na c1 nV) (by have := c1.2; omega) (by omega) (fun s7 d1 d2 d3 => ?_)
      refine again_ka (st_na d1 c4) (by have := c1.2; omega) (by omega) (fun s8 f1 f2 f3 => ?_)
      have nV8 := st_na f1 d2
      have c12 := c1.2
      refine copyTo_ok nV8.1 h0 (by omega) (Or.inl (by omega)) (fun s9 g1 g2 g3 => limbs_ok g2 ⟨⟨by omega, by omega⟩, ⟨by omega, by omega⟩, ?_⟩)
      have nR9 := num_ag f2.1 g1 (Or.inr (by omega))
      refine copyTo_ok nR9 (by omega) (by omega) (Or.inl (by omega)) (fun s10 k1 k2 k3 => limbs_ok k2 ⟨⟨by omega, by omega⟩, ⟨by omega, by omega⟩, fun s11 e11 => ?_⟩)
      have nV10 := num_ag g2 k1 (Or.inl (by omega))
      have t11 : wgf s11 24 = wgf s 24 + lim V + 1 + lim (U % V) + 1 := by rw [e11]; exact wf_same
      have nR11 : num s11 (wgf s 24 + lim V + 1) (U % V) := by rw [e11]; exact num_co k2 k2.1 k2.2.1 (fun _ _ _ => rfl)
      have nV11 : num s11 (wgf s 24) V := by rw [e11]; exact num_co nV10 nV10.1 nV10.2.1 (fun _ _ _ => rfl)
      have wr := num_pos nR11 m1
      have vr := nR11.2.2.2.2
      refine ⟨⟨rfl, V, U % V, i2, m1, i4, by omega, nV11, rfl, nR11, t11, ⟨?_, by dsimp only; omega⟩, ?_⟩, ?_⟩
      · have z1 : ag (wgf s 24) 684000 s s8 := (st_tr i9 (st_tr c1 (st_tr d1 f1))).1
        have z2 := ag_tr z1 (ag_mono g1 (Int.le_refl _) (by omega))
        have z3 := ag_tr z2 (ag_mono k1 (by omega) (by omega))
        rw [e11]
        exact ag_pf z3 (Or.inl rfl)
      · rw [← i10]
        exact gcd_st i1 i2
      · dsimp only
        rw [ev, wr, Int.toNat_natCast, vr]
        omega
theorem lim_p2 (k : Nat) : lim (2 ^ k) ≤ k / 29 + 1 := by
  refine lim_le ?_
  rw [Int.natAbs_pow]
  show 2 ^ k < _
  have h1 : 2 ^ k < 2 ^ (29 * (k / 29 + 1)) := Nat.pow_lt_pow_of_lt (by decide) (by omega)
  have h2 : (2 : Nat) ^ (29 * (k / 29 + 1)) = (2 ^ 29) ^ (k / 29 + 1) := Nat.pow_mul _ _ _
  have h3 : (2 ^ 29) ^ (k / 29 + 1) ≤ 1000000000 ^ (k / 29 + 1) := Nat.pow_le_pow_left (by decide) _
  omega
theorem p2_small : ∀ k : Nat, k ≤ 20 → 1 ≤ (2 : Int) ^ k ∧ (2 : Int) ^ k ≤ 1048576 ∧ lim (2 ^ k) = 1 := by decide
theorem powerOfTwo_ka {s : im_S} {E : Nat} {Q : Int → im_S → Prop} (h0 : 0 ≤ wgf s 24) (hE : E ≤ 100000) (hr : wgf s 24 + (E + 40) * (lim (2 ^ E) + 3) ≤ 684000) (hQ : ∀ s', st s s' → na s' (wgf s 24) (2 ^ E) → wgf s' 24 = wgf s 24 + lim (2 ^ E) + 1 → Q (wgf s 24) s') : W_powerOfTwo E s Q := by
  unfold W_powerOfTwo
  have l1 := lim_one
  obtain ⟨L, hL⟩ : ∃ L, lim (2 ^ E) = L := ⟨_, rfl⟩
  rw [hL] at hr hQ
  have hL1 : 1 ≤ L := by
    rw [← hL]
    exact lim_pos (by have : (0 : Int) < 2 ^ E := Int.pow_pos (by decide); omega)
  have hLm : ∀ k : Nat, k ≤ E → lim (2 ^ k) ≤ L := by
    intro k hk
    rw [← hL]
    refine lim_mono ?_
    rw [Int.natAbs_pow, Int.natAbs_pow]
    exact Nat.pow_le_pow_right (by decide) hk
  have hr2 : ∀ k : Nat, k ≤ E + 20 → (k : Int) * (L + 3) + 20 * (L + 3) ≤ (E + 40) * (L + 3) := by
    intro k hk
    rw [← Int.add_mul]
    exact Int.mul_le_mul_of_nonneg_right (by omega) (by omega)
  have hr3 := hr2 0 (by omega)
  refine whole_ka ⟨by decide, by decide⟩ h0 (by rw [l1]; omega) (fun s1 a1 n1 t1 => ?_)
  rw [l1] at t1
  refine ⟨fun a => ∃ t : Nat, a.2.1 = t ∧ t ≤ E + 19 ∧ st s a.2.2 ∧ wgf s 24 ≤ a.1 ∧ na a.2.2 a.1 (2 ^ (min t E)) ∧ wgf a.2.2 24 ≤ wgf s 24 + 2 + (t : Int) * (L + 3), fun a => (E + 20 - a.2.1).toNat, ⟨0, rfl, by omega, a1, Int.le_refl _, ?_, by dsimp only; omega⟩, ?_⟩
  · rw [Nat.zero_min, Int.pow_zero]; exact n1
  · rintro ⟨h, k, s2⟩ ⟨t, i1, i2, i3, i4, i5, i6⟩
    dsimp only at i1 i2 i3 i4 i5 i6 ⊢
    subst i1
    have z0 := hr2 t (by omega)
    unfold W_powerOfTwo_14
    refine ⟨fun c => ?_, fun c => ⟨⟨by omega, by omega⟩, fun v hv => ?_⟩⟩
    · rw [show min t E = E by omega] at i5
      have b := i5.1.2.1
      rw [hL] at b
      exact keep_ka i3 i5.1 rfl h0 i4 (by rw [hL]; omega) (fun s' z1 z2 z3 => hQ s' z1 z2 (by rw [hL] at z3; exact z3))
    · obtain ⟨w, hw⟩ : ∃ w : Nat, w = min 20 (E - t) := ⟨_, rfl⟩
      have ev : v = w := by rw [hv]; split <;> omega
      subst ev
      rw [Int.toNat_natCast]
      have p2 := p2_small w (by omega)
      have lh := hLm (min t E) (by omega)
      have i32 := i3.2
      refine ⟨⟨by omega, by omega⟩, whole_ka ⟨by omega, by omega⟩ (by omega) (by rw [p2.2.2]; omega) (fun s3 a3 n3 t3 => ?_)⟩
      rw [p2.2.2] at t3
      refine by_ka (st_na a3 i5) n3 (by omega) (by rw [p2.2.2]; omega) (fun s4 a4 n4 t4 => ⟨⟨by omega, by omega⟩, ⟨t + 20, by dsimp only; omega, by omega, st_tr i3 (st_tr a3 a4), by dsimp only; omega, ?_, ?_⟩, by dsimp only; omega⟩)
      · rw [← Int.pow_add, show min t E + w = min (t + 20) E by omega] at n4
        exact n4
      · have lm := hLm (min (t + 20) E) (by omega)
        rw [← Int.pow_add, show min t E + w = min (t + 20) E by omega] at t4
        dsimp only
        have e : ((t + 20 : Nat) : Int) * (L + 3) = (t : Int) * (L + 3) + 20 * (L + 3) := by
          rw [← Int.add_mul]; congr 1
        omega
theorem valueOf_ok {s : im_S} {x X : Int} {Q : Int → im_S → Prop} (hx : num s x X) (hb : X.natAbs ≤ 9000000000000000000) (hQ : Q X s) : W_valueOf x s Q := by
  unfold W_valueOf
  refine limbs_ok hx ?_
  have h0 := hx.1
  have h1 := hx.2.1
  have hv := hx.2.2.2.2
  have hd := hx.2.2.2.1
  refine ⟨fun a => a.2.2 = s ∧ 0 ≤ a.1 ∧ ∃ k : Nat, a.2.1 = k ∧ k ≤ lim X ∧ a.1 * 1000000000 ^ k + dv s x k = X.natAbs, fun a => a.2.1.toNat, ⟨rfl, Int.le_refl 0, lim X, rfl, by omega, by dsimp only; omega⟩, ?_⟩
  rintro ⟨v, k0, s1⟩ ⟨i1, i2, k, i3, i4, i5⟩
  dsimp only at i1 i2 i3 i4 i5 ⊢
  subst i1 i3
  unfold W_valueOf_9
  refine ⟨fun c => ⟨⟨h0, by omega⟩, fun _ => ?_, fun w hw => ?_⟩, fun c => ?_⟩
  · have ek : k = 0 := by omega
    subst ek
    rw [Int.pow_zero] at i5
    have : dv s1 x 0 = 0 := rfl
    exact ⟨by omega, by omega⟩
  · have ek : k = 0 := by omega
    subst ek
    rw [Int.pow_zero] at i5
    have z0 : dv s1 x 0 = 0 := rfl
    have ew : w = X := by
      rw [hw, hx.2.2.1]
      by_cases c2 : X < 0
      · have := lim_pos (X := X) (by omega)
        rw [if_pos c2, if_neg (by omega)]; omega
      · rw [if_neg c2, if_pos (by omega)]; omega
    rw [ew]; exact hQ
  · obtain ⟨j, rfl⟩ : ∃ j, k = j + 1 := ⟨k - 1, by omega⟩
    have bd := hd ((j : Int) + 1) (by omega) (by omega)
    have e1 : dv s1 x (j + 1) = dv s1 x j + wga s1 597 (x + ((j : Int) + 1)) * 1000000000 ^ j := rfl
    have z0 := dv_b (s := s1) (x := x) (n := j) (fun i a b => hd i a (by omega))
    have pp := pw_p j
    have e2 : ((j + 1 : Nat) : Int) = (j : Int) + 1 := by omega
    rw [e1, Int.pow_succ] at i5
    rw [e2]
    have e3 : (v * 1000000000 + wga s1 597 (x + ((j : Int) + 1))) * 1000000000 ^ j + dv s1 x j = X.natAbs := by
      rw [← i5]; grind
    obtain ⟨w, hw⟩ : ∃ w, w = v * 1000000000 + wga s1 597 (x + ((j : Int) + 1)) := ⟨_, rfl⟩
    rw [← hw] at e3 ⊢
    have w0 : 0 ≤ w := by omega
    have z1 : w * 1 ≤ w * 1000000000 ^ j := Int.mul_le_mul_of_nonneg_left pp w0
    refine ⟨⟨by omega, by omega⟩, ⟨by omega, by omega⟩, ⟨by omega, by omega⟩, ⟨by omega, by omega⟩, ⟨rfl, w0, j, by dsimp only; omega, by omega, e3⟩, by dsimp only; omega⟩
theorem reserve_ka {s : im_S} {x X : Int} {Q : Int → im_S → Prop} (hx : na s x X) (h52 : 0 ≤ wgf s 52 ∧ wgf s 52 < 80) (ht : wgf s 24 ≤ 684000) (hx2 : x + lim X < 684000) (hl : lim X < 200) (hQ : ∀ s', ag (700000 - 200 * (wgf s 52 + 1)) (700000 - 200 * wgf s 52) (wpf s 52 (wgf s 52 + 1)) s' → num s' (700000 - 200 * (wgf s 52 + 1)) X → wgf s' 24 = wgf s 24 → Q (700000 - 200 * (wgf s 52 + 1)) s') : W_reserve x s Q := by
  unfold W_reserve
  refine ⟨⟨by omega, by omega⟩, ⟨by omega, by omega⟩, ⟨by omega, by omega⟩, fun s1 e1 => ?_⟩
  have n1 : num s1 x X := by rw [e1]; exact num_co hx.1 hx.1.1 hx.1.2.1 (fun _ _ _ => rfl)
  refine copyTo_ok n1 (by omega) (by omega) (Or.inr (by omega)) (fun s2 a2 n2 t2 => ?_)
  refine hQ s2 (ag_mono (by rw [← e1]; exact a2) (by omega) (by omega)) n2 ?_
  rw [t2, e1]
  exact wf_ne (by decide)
theorem plus1_ka {s : im_S} {x y X Y : Int} {Q : Int → im_S → Prop} (hx : na s x X) (hy : na s y Y) (h0 : 0 ≤ wgf s 24) (hr : wgf s 24 + lim X + (max (lim X) (lim Y) : Nat) + 3 ≤ 684000) (hQ : ∀ (z : Int) (s' : im_S), st s s' → na s' z (X.natAbs + Y) → wgf s 24 ≤ z → wgf s' 24 = wgf s 24 + lim X + 1 + lim ((X.natAbs : Int) + Y) + 1 → Q z s') : W_plus1 x y s Q := by
  unfold W_plus1
  have lx : lim (X.natAbs : Int) = lim X := lim_abs (by omega)
  refine again_ka hx h0 (by omega) (fun s1 a1 n1 t1 => limbs_ok n1.1 ⟨⟨h0, by omega⟩, fun s2 e2 => ?_⟩)
  have t2 : wgf s2 24 = wgf s1 24 := by rw [e2]; rfl
  have n2 : na s2 (wgf s 24) (X.natAbs : Int) := by
    refine ⟨?_, Or.inl (by rw [lx]; omega)⟩
    rw [e2]
    refine num_sw n1.1 (by omega) ?_
    rw [if_neg (by omega), lx]
  have a2 : st s s2 := by rw [e2]; exact st_pa a1 h0 (Int.le_refl _) (by omega)
  exact plus_ka n2 (st_na a2 hy) (by omega) (by rw [lx]; omega) (fun s3 a3 n3 t3 => hQ _ s3 (st_tr a2 a3) n3 (by omega) (by omega))
