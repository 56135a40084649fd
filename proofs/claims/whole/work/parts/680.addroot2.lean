/-! addRoot: its loop -/
theorem ws {x w : Rat} (hw : 0 < w) : x * w ≤ (x + 1) * w := by grind
theorem addRoot_ok {s : im_S} {b x R h e : Int} {c : Nat → List Int} {N : Nat} {P : List Int} {Q : im_S → Prop} (hb0 : 0 ≤ b ∧ b < 200) (hf : pol s (wga s 602 b) P) (hfl : ∀ k : Nat, k < P.length → wga s 599 (9 * wga s 602 b + k) + lim (pgt P k) < wgf s 24) (hP : bs P) (hc0 : c 0 = P) (hst : stu c (N - 1)) (hN : 1 ≤ N) (hch : chn s c N 56) (hR : 0 ≤ R ∧ R ≤ 79) (h41 : wgf s 41 = R) (h52 : wgf s 52 = R) (hx : nm s x h) (hxl : x + lim h < wgf s 24) (hb : hbd h e) (hb1 : hbd (h + 1) e) (he : e ≤ 620) (hV : vfall c N h e = 1) (h0 : 0 ≤ wgf s 24) (hm : wgf s 24 + 60000 ≤ 684000) (hQ : ∀ s', ar (wgf s 24) R s s' → wgf s' 41 = R + 1 → wgf s' 52 = R + 1 → wgf s 24 ≤ wgf s' 24 → wgf s' 24 ≤ wgf s 24 + 6000 → rt1 c N s' R b P ((h : Rat) * wd e) (((h : Rat) + 1) * wd e) → Q s') : W_addRoot b x e s Q := by
  unfold W_addRoot
  have f1 := hf.1
  have f2 := hf.2.1
  have f3 := hf.2.2.1
  have f5 := hf.2.2.2.2.1
  have gP := hP.1.1
  have lb := lead_b hP.1
  obtain ⟨n, hn⟩ : ∃ n, P.length = n + 1 := ⟨P.length - 1, by have := gP.1; omega⟩
  have nL := hf.2.2.2.2.2 n (by omega)
  have nLl := hfl n (by omega)
  have P9 := gP.2.1
  rw [show P.length - 1 = n by omega] at lb
  have lL : lim (pgt P n) ≤ 2 := lim_b9 (by omega) (by omega)
  refine ⟨hb0, ⟨f1, by omega⟩, ?_⟩
  rw [f5, show ((P.length : Nat) : Int) - 1 = (n : Int) by omega]
  refine at_ok f1 (by omega) (by omega) (by omega) ?_
  generalize hx6 : wga s 599 (9 * wga s 602 b + (n : Int)) = x6 at nL nLl ⊢
  have l1 := lim_one
  have l2 : lim 2 = 1 := by decide
  refine ⟨fun a => ∃ (h2 : Int), st s a.2.2 ∧ nm a.2.2 a.1 h2 ∧ a.1 + lim h2 < wgf a.2.2 24 ∧ hbd h2 a.2.1 ∧ hbd (h2 + 1) a.2.1 ∧ e ≤ a.2.1 ∧ a.2.1 ≤ 650 ∧ (a.2.1 = e ∨ a.2.1 ≤ 31) ∧ vfall c N h2 a.2.1 = 1 ∧ wgf a.2.2 24 ≤ wgf s 24 + 40 * (a.2.1 - e) ∧ (h : Rat) * wd e ≤ (h2 : Rat) * wd a.2.1 ∧ ((h2 : Rat) + 1) * wd a.2.1 ≤ ((h : Rat) + 1) * wd e ∧ ∀ y : Rat, pev P y = 0 → (h : Rat) * wd e < y → y ≤ ((h : Rat) + 1) * wd e → (h2 : Rat) * wd a.2.1 < y ∧ y ≤ ((h2 : Rat) + 1) * wd a.2.1, fun a => (700 - a.2.1).toNat, ⟨h, st_rfl, hx, hxl, hb, hb1, Int.le_refl _, by dsimp only; omega, Or.inl rfl, hV, by dsimp only; omega, Rat.le_refl, Rat.le_refl, fun y _ y1 y2 => ⟨y1, y2⟩⟩, ?_⟩
  rintro ⟨xp, e2, s2⟩ ⟨h2, i1, i2, i3, i4, i5, i6, i7, i8, i9, i10, i11, i12, i13⟩
  dsimp only at i1 i2 i3 i4 i5 i6 i7 i8 i9 i10 i11 i12 i13 ⊢
  have i12' := i1.2
  have em : -93 ≤ e := hb.1
  have top2 : wgf s2 24 ≤ wgf s 24 + 5000 := by
    rcases i8 with q | q
    · omega
    · omega
  -- one turn
  have turn : ∀ s3 : im_S, st s2 s3 → wgf s3 24 ≤ wgf s2 24 + 5 → e2 ≤ 30 → W_addRoot_49 (fun b => (∃ (h2 : Int), st s b.2.2 ∧ nm b.2.2 b.1 h2 ∧ b.1 + lim h2 < wgf b.2.2 24 ∧ hbd h2 b.2.1 ∧ hbd (h2 + 1) b.2.1 ∧ e ≤ b.2.1 ∧ b.2.1 ≤ 650 ∧ (b.2.1 = e ∨ b.2.1 ≤ 31) ∧ vfall c N h2 b.2.1 = 1 ∧ wgf b.2.2 24 ≤ wgf s 24 + 40 * (b.2.1 - e) ∧ (h : Rat) * wd e ≤ (h2 : Rat) * wd b.2.1 ∧ ((h2 : Rat) + 1) * wd b.2.1 ≤ ((h : Rat) + 1) * wd e ∧ ∀ y : Rat, pev P y = 0 → (h : Rat) * wd e < y → y ≤ ((h : Rat) + 1) * wd e → (h2 : Rat) * wd b.2.1 < y ∧ y ≤ ((h2 : Rat) + 1) * wd b.2.1) ∧ (700 - b.2.1).toNat < (700 - e2).toNat) b xp e2 x6 s3 Q := by
    intro s3 a1 a2 e30
    have a12 := a1.2
    have lh : lim h2 ≤ 5 := by
      have w := lim_2p (k := 123) (Nat.le_trans i4.2.2 (Nat.pow_le_pow_right (by decide) (by omega)))
      omega
    obtain ⟨bd1, bd2⟩ := hbd_2 i4 (by omega)
    have bd2' := bd2 i5
    have bd3 : hbd (h2 * 2 + 1 + 1) (e2 + 1) := by
      have z := (hbd_2 i5 (by omega)).1
      rw [show h2 * 2 + 1 + 1 = (h2 + 1) * 2 by omega]
      exact z
    have lA : lim (h2 * 2) ≤ 6 := by
      have := lim_mul h2 2
      omega
    have lB : lim (h2 * 2 + 1) ≤ 7 := by
      have := lim_add (h2 * 2) 1
      omega
    unfold W_addRoot_49
    refine whole_ok ⟨by decide, by decide⟩ (by omega) (by omega) (fun s4 b1 b2 b3 => ?_)
    have n4 := st_nm (st_tr a1 b1) i2
    have b12 := b1.2
    refine by_ok n4 b2 (by omega) (by omega) (fun s5 c1 c2 c3 => whole_ok ⟨by decide, by decide⟩ (by omega) (by omega) (fun s6 d1 d2 d3 => plus_ok (st_nm d1 c2) d2 (by omega) (by omega) (fun s7 g1 g2 g3 => ⟨⟨by omega, by omega⟩, whole_ok ⟨by decide, by decide⟩ (by omega) (by omega) (fun s8 k1 k2 k3 => ?_)⟩)))
    have st8 := st_tr b1 (st_tr c1 (st_tr d1 (st_tr g1 k1)))
    have st28 := st_tr a1 st8
    refine by_ok (st_nm st28 i2) k2 (by omega) (by omega) (fun s9 m1 m2 m3 => ?_)
    have st29 := st_tr st28 m1
    have ch9 := st_chn st29 (st_chn i1 hch)
    refine half_ok ch9 hN m2 bd1 (by omega) (by omega) (fun s10 o1 => ?_)
    have o12 := o1.2
    have mid10 : nm s10 (wgf s6 24) (h2 * 2 + 1) := st_nm o1.1 (st_nm m1 (st_nm k1 g2))
    have lef10 : nm s10 (wgf s8 24) (h2 * 2) := st_nm o1.1 m2
    refine half_ok (sb_chn o1 ch9) hN mid10 bd2' (by omega) (by omega) (fun s11 p1 => ?_)
    have p12 := p1.2
    have st11 : st s s11 := st_tr i1 (st_tr st29 (st_tr o1.1 p1.1))
    obtain ⟨w1, w2⟩ := wd_2 h2 e2
    have t2 : ((2 : Int) : Rat) = 2 := rfl
    have midv : ((h2 * 2 + 1 : Int) : Rat) * wd (e2 + 1) = (((h2 * 2 : Int) : Rat) + 1) * wd (e2 + 1) := by rw [Rat.intCast_add, rat_i1]
    have ri : (((h2 * 2 + 1 : Int) : Rat) + 1) * wd (e2 + 1) = ((h2 : Rat) + 1) * wd e2 := by
      rw [← w2, Rat.intCast_add (h2 * 2 + 1) 1, rat_i1]
    unfold vfall at i9
    have wp := wd_pos (e2 + 1)
    have o1' : (h2 : Rat) * wd e2 ≤ ((h2 * 2 + 1 : Int) : Rat) * wd (e2 + 1) := by rw [← w1, midv]; exact ws wp
    have o2' : ((h2 * 2 + 1 : Int) : Rat) * wd (e2 + 1) ≤ ((h2 : Rat) + 1) * wd e2 := by rw [← ri]; exact ws wp
    have mo1 := sturm_mono hst o1'
    have mo2 := sturm_mono hst o2'
    have rt : ∀ y : Rat, pev P y = 0 → ∀ a' b' : Rat, a' < y → y ≤ b' → vst c (N - 1) b' + 1 ≤ vst c (N - 1) a' := fun y hy a' b' h1 h2 => sturm_root hst h1 h2 (by rw [hc0]; exact hy)
    rw [w1]
    refine ⟨⟨by omega, by omega⟩, fun v hv => ?_⟩
    by_cases cl : vst c (N - 1) ((h2 : Rat) * wd e2) - vst c (N - 1) (((h2 * 2 + 1 : Int) : Rat) * wd (e2 + 1)) = 1
    · rw [if_neg (fun q => q cl)] at hv
      rw [hv]
      refine ⟨⟨h2 * 2, st11, st_nm p1.1 lef10, ?_, bd1, bd2', by dsimp only; omega, by dsimp only; omega, Or.inr (by dsimp only; omega), ?_, by dsimp only; omega, ?_, ?_, fun y hy y1 y2 => ?_⟩, by dsimp only; omega⟩
      · dsimp only; omega
      · unfold vfall
        dsimp only
        rw [w1, ← midv]; exact cl
      · dsimp only; rw [w1]; exact i11
      · dsimp only; rw [← midv]; exact Rat.le_trans o2' i12
      · dsimp only
        obtain ⟨z1, z2⟩ := i13 y hy y1 y2
        rw [w1, ← midv]
        refine ⟨z1, ?_⟩
        refine Classical.byContradiction fun nle => ?_
        have := rt y hy _ _ (Rat.not_le.1 nle) z2
        omega
    · rw [if_pos cl] at hv
      rw [hv]
      refine ⟨⟨h2 * 2 + 1, st11, st_nm p1.1 mid10, ?_, bd2', bd3, by dsimp only; omega, by dsimp only; omega, Or.inr (by dsimp only; omega), ?_, by dsimp only; omega, ?_, ?_, fun y hy y1 y2 => ?_⟩, by dsimp only; omega⟩
      · dsimp only; omega
      · unfold vfall
        dsimp only
        rw [ri]; omega
      · dsimp only; exact Rat.le_trans i11 o1'
      · dsimp only; rw [ri]; exact i12
      · dsimp only
        obtain ⟨z1, z2⟩ := i13 y hy y1 y2
        rw [ri]
        refine ⟨?_, z2⟩
        refine Classical.byContradiction fun nle => ?_
        have := rt y hy _ _ z1 (Rat.not_lt.1 nle)
        omega
  unfold W_addRoot_29
  refine ⟨fun c1 => turn s2 st_rfl (by omega) (by omega), fun c1 => ?_⟩
  obtain ⟨E, hE⟩ : ∃ E : Nat, e2 = E := ⟨e2.toNat, by omega⟩
  subst hE
  have q1 : lim (2 ^ E) ≤ 25 := by
    have := lim_p2 E
    omega
  have q2 : ((E : Int) + 40) * (lim (2 ^ E) + 3) ≤ 700 * 28 := by
    have b' : (E + 40) * (lim (2 ^ E) + 3) ≤ 700 * 28 := Nat.mul_le_mul (by omega) (by omega)
    exact Int.ofNat_le.2 b'
  have T0 : (0 : Int) < 2 ^ E := Int.pow_pos (by decide)
  refine powerOfTwo_ok (by omega) (by omega) (by omega) (fun s3 a1 a2 a3 => ?_)
  have L3 := st_nm a1 (st_nm i1 nL)
  refine weigh_ok a2.1 L3.1 ?_
  have sgc := sg_c (((2 ^ E : Int).natAbs : Int) - ((pgt P n).natAbs : Int))
  refine ⟨fun c2 => ?_, fun c2 => ?_⟩
  · have big : pgt P n < 2 ^ E := by omega
    have st3 := st_tr i1 a1
    have e41 : wgf s3 41 = R := by rw [ag_f st3.1 (by decide) (by decide)]; exact h41
    have e52 : wgf s3 52 = R := by rw [ag_f st3.1 (by decide) (by decide)]; exact h52
    have lh := hbd_lim i4
    have hx3 := st_nm a1 i2
    have a12 := a1.2
    rw [e41]
    refine ⟨⟨by omega, by omega⟩, fun s4 e4 => ⟨⟨by omega, by omega⟩, fun s5 e5 => ⟨⟨by omega, by omega⟩, fun s6 e6 => ?_⟩⟩⟩
    have t6 : wgf s6 24 = wgf s3 24 := by rw [e6, wf_pa, e5, wf_pa, e4]; exact wf_ne (by decide)
    have u6 : wgf s6 52 = R := by rw [e6, wf_pa, e5, wf_pa, e4, wf_ne (by decide)]; exact e52
    have v6 : wgf s6 41 = R + 1 := by rw [e6, wf_pa, e5, wf_pa, e4]; exact wf_same
    have n6 : ∀ y Y : Int, nm s3 y Y → nm s6 y Y := fun y Y w => by
      rw [e6, e5, e4]; exact nm_row (by decide) (nm_row (by decide) (nm_pf (by decide) w))
    have ar6 : ar (wgf s 24) R s s6 := by
      rw [e6, e5, e4]
      exact ar_pa (ar_pa (ar_pf (st_ar st3 (Int.le_refl _)) (Or.inr (Or.inr (Or.inl rfl)))) hR.1 (by decide)) hR.1 (by decide)
    refine reserve_ok (n6 _ _ hx3) (by omega) (by omega) (by omega) (by omega) (fun s7 r1 r2 r3 => ?_)
    rw [u6] at r1 r2 ⊢
    have t7 : wgf s7 24 = wgf s3 24 := by omega
    have ar7 : ar (wgf s 24) R s s7 := by
      refine ar_tr ar6 ⟨fun c f h' => ?_, fun c i q1 q2 q3 => ?_⟩
      · rw [r1.1 c f (fun z => h' ⟨z.1, by omega⟩)]
        exact im_up_ne (fun z => h' ⟨z.1, by omega⟩)
      · rw [r1.2 c i (fun z => q2 ⟨z.1, by omega, by omega⟩)]
        rfl
    have v7 : wgf s7 41 = R + 1 := by
      rw [ag_f r1 (by decide) (by decide), wf_ne (by decide)]; exact v6
    have w7 : wgf s7 52 = R + 1 := by
      rw [ag_f r1 (by decide) (by decide)]; exact wf_same
    have rows7 : ∀ (r : Nat) (i : Int), r ≠ 597 → wga s7 r i = wga s6 r i := fun r i hr => by
      rw [ag_r r1 hr]; rfl
    have lowm : ∀ y Y : Int, nm s3 y Y → y + lim Y < wgf s3 24 → nm s7 y Y := fun y Y w hl => by
      have z := n6 y Y w
      refine ⟨num_co z.1 z.1.1 z.1.2.1 (fun k k0 k1 => ?_), by omega⟩
      rw [ag_m r1 (by have := z.1.1; omega) (by have := z.1.1; omega)]
      rfl
    refine ⟨⟨by omega, by omega⟩, fun s8 e8 => ⟨⟨by omega, by omega⟩, fun s9 e9 => ?_⟩⟩
    have t9 : wgf s9 24 = wgf s3 24 := by rw [e9, wf_pa, e8, wf_pa]; exact t7
    have n9 : ∀ y Y : Int, nm s7 y Y → nm s9 y Y := fun y Y w => by
      rw [e9, e8]; exact nm_row (by decide) (nm_row (by decide) w)
    have rows9 : ∀ (r : Nat) (i : Int), r ≠ 597 → r ≠ 607 → r ≠ 609 → r ≠ 611 → r ≠ 612 → wga s9 r i = wga s3 r i := fun r i h1 h2 h3 h4 h5 => by
      rw [e9, wg_row h5, e8, wg_row h4, rows7 r i h1, e6, wg_row h3, e5, wg_row h2, e4, wg_pf]
    have f9 : wga s9 602 b = wga s 602 b := by
      rw [rows9 602 b (by decide) (by decide) (by decide) (by decide) (by decide), st_row st3 (by decide)]
    have p3 := st_pol st3 hf
    have p9 : pol s9 (wga s9 602 b) P := by
      rw [f9]
      obtain ⟨z1, z2, z3, z4, z5, z6⟩ := p3
      have e28 : wgf s9 28 = wgf s3 28 := by
        rw [e9, wf_pa, e8, wf_pa, ag_f r1 (by decide) (by decide), wf_ne (by decide), e6, wf_pa, e5, wf_pa, e4]
        exact wf_ne (by decide)
      refine ⟨z1, by omega, by omega, z4, ?_, fun k hk => ?_⟩
      · rw [rows9 598 _ (by decide) (by decide) (by decide) (by decide) (by decide)]; exact z5
      · rw [rows9 599 _ (by decide) (by decide) (by decide) (by decide) (by decide)]
        refine n9 _ _ (lowm _ _ (z6 k hk) ?_)
        have := hfl k hk
        rw [st_row st3 (by decide)]
        have := st3.2
        omega
    have nh9 : nm s9 xp h2 := n9 _ _ (lowm _ _ hx3 (by omega))
    have nL9 : nm s9 x6 (pgt P n) := n9 _ _ (lowm _ _ L3 (by have := st3.2; omega))
    have ar9 : ar (wgf s 24) R s s9 := by
      rw [e9, e8]
      exact ar_pa (ar_pa ar7 hR.1 (by decide)) hR.1 (by decide)
    refine addRoot_fin (s0 := s) (R := R) (L := pgt P n) (l0 := (h : Rat) * wd e) (r0 := ((h : Rat) + 1) * wd e) hb0 p9 hP hR ?_ ?_ ar9 (by have := st3.2; omega) nh9 (by omega) nL9 (by rw [show P.length - 1 = n by omega]) (by omega) (by omega) i4 i5 i9 (by rw [Int.toNat_natCast]; exact big) (by omega) (by omega) ?_ ?_ ?_ ?_ ?_ ⟨i11, i12, i13⟩ (fun s' g1 g2 g3 g4 g5 g6 => hQ s' g1 g2 g3 (by have := st3.2; omega) (by omega) g6)
    · rw [e9, wf_pa, e8, wf_pa]; exact v7
    · rw [e9, wf_pa, e8, wf_pa]; exact w7
    · rw [e9, wg_row (by decide), e8, wg_row (by decide), rows7 607 R (by decide), e6, wg_row (by decide), e5]; exact wg_same
    · rw [e9, wg_row (by decide), e8, wg_row (by decide), rows7 609 R (by decide), e6]; exact wg_same
    · rw [e9, wg_row (by decide), e8]; exact wg_same
    · rw [e9]; exact wg_same
    · rw [e9, e8]
      exact num_co r2 r2.1 r2.2.1 (fun k _ _ => by rw [wg_row (by decide), wg_row (by decide)])
  · have e30 : (E : Int) ≤ 30 := by
      refine Classical.byContradiction fun q => c2 ?_
      have p30 : (2 : Int) ^ 30 ≤ 2 ^ E := by
        have : (2 : Nat) ^ 30 ≤ 2 ^ E := Nat.pow_le_pow_right (by decide) (by omega)
        have z := Int.ofNat_le.2 this
        rw [Int.natCast_pow, Int.natCast_pow] at z
        exact z
      have p31 : (2 : Int) ^ 30 = 1073741824 := by decide
      omega
    have q3 : lim (2 ^ E) ≤ 2 := by
      have := lim_p2 E
      omega
    exact turn s3 a1 (by omega) e30
