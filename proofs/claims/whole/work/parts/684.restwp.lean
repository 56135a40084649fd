/-! restRoots -/
theorem signAt2_na {s : im_S} {f x y p q : Int} {P : List Int} {M K : Nat} {Q : Int → im_S → Prop} (hf : pol s f P) (hM : plb P M) (h1 : 1 ≤ P.length) (hx : na s x p) (hy : nm s y q) (hp : lim p ≤ K) (hq : lim q ≤ K) (h0 : 0 ≤ wgf s 24) (hm : wgf s 24 + 40 * ((M : Int) + 9 * (K + 1) + 1) ≤ 684000) (hQ : ∀ s', sb s s' → Q (psg P p q) s') : W_signAt2 f x y s Q := by
  unfold W_signAt2
  obtain ⟨f1, f2, f3, f4, f5, f6⟩ := hf
  have hfb : 0 ≤ f ∧ f < 1200 := ⟨f1, by omega⟩
  obtain ⟨n, hn⟩ : ∃ n, P.length = n + 1 := ⟨P.length - 1, by omega⟩
  have l1 := lim_one
  obtain ⟨U, hU⟩ : ∃ U : Int, U = (M : Int) + 9 * (K + 1) + 1 := ⟨_, rfl⟩
  rw [← hU] at hm
  refine ⟨hfb, ?_⟩
  rw [f5, show ((P.length : Nat) : Int) - 1 = (n : Int) by omega]
  refine at_ok hfb.1 hfb.2 (by omega) (by omega) (whole_ok ⟨by decide, by decide⟩ h0 (by omega) (fun s1 a1 a2 a3 => ⟨hfb, ?_, ?_⟩))
  · rw [st_row a1 (by decide), f5]; exact ⟨by omega, by omega⟩
  rw [l1] at a3
  rw [st_row a1 (by decide), f5, show ((P.length : Nat) : Int) - 1 - 1 = (n : Int) - 1 - (0 : Nat) by omega]
  refine ⟨fun a => ∃ j : Nat, a.2.2.1 = (n : Int) - 1 - j ∧ j ≤ n ∧ st s a.2.2.2 ∧ nm a.2.2.2 a.1 (phm P p q n j) ∧ nm a.2.2.2 a.2.1 (q ^ j) ∧ wgf a.2.2.2 24 ≤ wgf s 24 + 2 + j * (4 * U), fun a => (a.2.2.1 + 1).toNat, ⟨0, rfl, by omega, a1, st_nm a1 (f6 n (by omega)), by rw [Int.pow_zero]; exact a2, by dsimp only; omega⟩, ?_⟩
  rintro ⟨al, pw, k0, s2⟩ ⟨j, i1, i2, i3, i4, i5, i6⟩
  dsimp only at i1 i2 i3 i4 i5 i6 ⊢
  subst i1
  unfold W_signAt2_36
  have i32 := i3.2
  refine ⟨fun c => ?_, fun c => ?_⟩
  · have ej : j = n := by omega
    subst ej
    refine sgn_ok i4.1 (fun s4 e4 => ?_)
    have z := hQ s4 (by rw [e4]; exact sb_back i3)
    unfold psg at z
    rw [show P.length - 1 = j by omega] at z
    exact z
  · have hj : j < n := by omega
    have m1 : ((j : Int) + 1) * (4 * U) ≤ 8 * (4 * U) := Int.mul_le_mul_of_nonneg_right (by omega) (by omega)
    have m2 : ((j : Int) + 1) * (4 * U) = j * (4 * U) + 4 * U := by rw [Int.add_mul, Int.one_mul]
    have b1 := phm_lb hM hp hq (n := n) j
    have b2 := phm_lb hM hp hq (n := n) (j + 1)
    have b3 := lim_pow q j
    have b4 := lim_pow q (j + 1)
    have b5 : (j + 1) * (K + 1) ≤ 8 * (K + 1) := Nat.mul_le_mul_right _ (by omega)
    have b6 : j * (K + 1) ≤ 8 * (K + 1) := Nat.mul_le_mul_right _ (by omega)
    have b7 : (j + 1) * lim q ≤ 8 * (K + 1) := Nat.mul_le_mul (by omega) (by omega)
    have b8 : j * lim q ≤ 8 * (K + 1) := Nat.mul_le_mul (by omega) (by omega)
    have b9 := lim_mul (phm P p q n j) p
    have b10 := lim_pw2 q (pgt P (n - (j + 1))) (j + 1)
    rw [Int.mul_comm] at b10
    have b11 := hM (n - (j + 1))
    refine by_ok i5 (st_nm i3 hy) (by omega) (by omega) (fun s3 c1 c2 c3 => ?_)
    have ep : q ^ j * q = q ^ (j + 1) := (Int.pow_succ q j).symm
    rw [ep] at c2 c3
    have c12 := c1.2
    refine by_ka (nm_na (st_nm c1 i4)) (st_na c1 (st_na i3 hx)) (by omega) (by omega) (fun s4 d1 d2' d3 => ?_)
    have d2 : nm s4 (wgf s3 24) (phm P p q n j * p) := ⟨d2'.1, by omega⟩
    have d12 := d1.2
    have s4s := st_tr i3 (st_tr c1 d1)
    refine at_ok hfb.1 hfb.2 (by omega) (by omega) ?_
    have nk : nm s4 (wga s4 599 (9 * f + ((n : Int) - 1 - j))) (pgt P (n - (j + 1))) := by
      rw [st_row s4s (by decide), show (n : Int) - 1 - j = ((n - (j + 1) : Nat) : Int) by omega]
      exact st_nm s4s (f6 (n - (j + 1)) (by omega))
    refine by_ok nk (st_nm d1 c2) (by omega) (by omega) (fun s5 e1 e2 e3 => ?_)
    have e12 := e1.2
    refine plus_ok (st_nm e1 d2) e2 (by omega) (by omega) (fun s6 g1 g2 g3 => ⟨⟨by omega, by omega⟩, ⟨j + 1, by dsimp only; omega, by omega, st_tr s4s (st_tr e1 g1), g2, st_nm g1 (st_nm e1 (st_nm d1 c2)), ?_⟩, by dsimp only; omega⟩)
    have g3' : wgf s6 24 = wgf s5 24 + lim (phm P p q n (j + 1)) + 1 := g3
    dsimp only
    rw [show ((j + 1 : Nat) : Int) = (j : Int) + 1 by omega]
    omega
/-- the part that stays, with the fractions j of which are split off -/
def rsp (c : Nat → List Int) (N : Nat) (s : im_S) (R0 : Nat) (P : List Int) (lf rf : Nat → Rat) (j : Nat) (F : List Int) : Prop := fct F ∧ ∃ (Pi : List Int) (z : Rat → Prop), (∀ x : Rat, pev P x = pev F x * pev Pi x) ∧ pis Pi z ∧ (∀ x, pev Pi x = 0 → z x) ∧ (∀ y, z y → pev P y = 0) ∧ (∀ y, z y → ∃ r : Nat, r < j ∧ lf r < y ∧ y ≤ rf r) ∧ ∀ (r : Nat) (y : Rat), r < j → wga s 609 ((R0 + r : Nat) : Int) = (y.den : Int) → wga s 608 ((R0 + r : Nat) : Int) = y.num → pev P y = 0 → z y
theorem rsp_step {c : Nat → List Int} {N : Nat} {s : im_S} {R0 k j : Nat} {b : Int} {P F S : List Int} {Lmin Rend : Rat} {lf rf : Nat → Rat} {x : Rat} (hr : rtl c N s R0 b P Lmin Rend k lf rf) (hj : j < k) (h : rsp c N s R0 P lf rf j F) (hx : pev P x = 0) (x1 : lf j < x) (x2 : x ≤ rf j) (d1 : wga s 609 ((R0 + j : Nat) : Int) = (x.den : Int)) (d2 : wga s 608 ((R0 + j : Nat) : Int) = x.num) (fS : fct S) (eS : ∀ y : Rat, pev F y = pev (lin x) y * pev S y) : rsp c N s R0 P lf rf (j + 1) S := by
  obtain ⟨fF, Pi, z, a1, a2, a3, a4, a5, a6⟩ := h
  refine ⟨fS, pmul Pi (lin x), fun y => z y ∨ y = x, fun y => ?_, pis_mul a2, fun y hy => ?_, fun y hy => ?_, fun y hy => ?_, fun r y hr' e1 e2 e3 => ?_⟩
  · rw [a1 y, eS y, pmul_ev]; grind
  · rw [pmul_ev, lin_ev] at hy
    rcases Rat.mul_eq_zero.1 hy with q | q
    · exact Or.inl (a3 y q)
    · right
      have dp := (rat_nd x).2
      rcases Rat.mul_eq_zero.1 q with w | w
      · grind
      · grind
  · rcases hy with q | q
    · exact a4 y q
    · rw [q]; exact hx
  · rcases hy with q | q
    · obtain ⟨r, r1, r2⟩ := a5 y q
      exact ⟨r, by omega, r2⟩
    · exact ⟨j, by omega, by rw [q]; exact x1, by rw [q]; exact x2⟩
  · by_cases er : r = j
    · right
      subst er
      refine Rat.ext ?_ ?_
      · omega
      · omega
    · exact Or.inl (a6 r y (by omega) e1 e2 e3)
theorem rsp_root {c : Nat → List Int} {N : Nat} {s : im_S} {R0 k j : Nat} {b : Int} {P F : List Int} {Lmin Rend : Rat} {lf rf : Nat → Rat} {x : Rat} (hr : rtl c N s R0 b P Lmin Rend k lf rf) (hj : j < k) (h : rsp c N s R0 P lf rf j F) (hx : pev P x = 0) (x1 : lf j < x) : pev F x = 0 ∧ 2 ≤ F.length := by
  obtain ⟨fF, Pi, z, a1, a2, a3, a4, a5, a6⟩ := h
  have f0 : pev F x = 0 := by
    have w := a1 x
    rw [hx] at w
    rcases Rat.mul_eq_zero.1 w.symm with q | q
    · exact q
    · exfalso
      obtain ⟨r, r1, r2, r3⟩ := a5 x (a3 x q)
      have o := hr.2.2.2.1 r j r1 hj
      have w2 := Rat.le_trans r3 o
      exact absurd x1 (Rat.not_lt.2 w2)
  refine ⟨f0, ?_⟩
  refine Nat.le_of_not_lt fun q => ?_
  have l1 : F.length = 1 := by have := fF.1.1; omega
  rw [len1_ev l1] at f0
  exact fF.1.2.2.1 0 l1 (Rat.intCast_eq_zero_iff.1 f0)
theorem ps_rtl {c : Nat → List Int} {N : Nat} {s s' : im_S} {R0 k : Nat} {b : Int} {P : List Int} {Lmin Rend : Rat} {lf rf : Nat → Rat} (a : ps s s') (hk : R0 + k ≤ 80) (h : rtl c N s R0 b P Lmin Rend k lf rf) : rtl c N s' R0 b P Lmin Rend k lf rf := by
  obtain ⟨h1, h2, h3, h4, h5⟩ := h
  refine ⟨by rw [ps_f a (by decide) (by decide) (by decide)]; exact h1, by rw [ps_f a (by decide) (by decide) (by decide)]; exact h2, fun r hr => ?_, h4, h5⟩
  obtain ⟨⟨q1, q2, h, e, q3, q4, q5⟩, q6⟩ := h3 r hr
  have rr : ∀ (i : Nat) (j : Int), i ≠ 597 → i ≠ 598 → i ≠ 599 → wga s' i j = wga s i j := fun i j e1 e2 e3 => ps_r a e1 e2 e3
  refine ⟨⟨by rw [rr 607 _ (by decide) (by decide) (by decide)]; exact q1, by rw [rr 611 _ (by decide) (by decide) (by decide)]; exact q2, h, e, by rw [rr 612 _ (by decide) (by decide) (by decide)]; exact q3, ?_, ?_⟩, q6⟩
  · have z0 := q4.1
    exact num_co q4 q4.1 q4.2.1 (fun t t1 t2 => ps_m a (by omega) (Or.inr (by omega)))
  · rw [rr 609 _ (by decide) (by decide) (by decide), rr 608 _ (by decide) (by decide) (by decide)]
    exact q5
theorem restRoots_10 {s : im_S} {b : Int} {c : Nat → List Int} {N R0 k : Nat} {P : List Int} {Lmin Rend : Rat} {lf rf : Nat → Rat} {Q : im_S → Prop} (hb0 : 0 ≤ b ∧ b < 200) (hf : pol s (wga s 602 b) P) (hP : bs P) (hk : R0 + k ≤ 80) (hk8 : k ≤ 8) (hr : rtl c N s R0 b P Lmin Rend k lf rf) (hp : wgf s 28 + 30 ≤ 1200) (h0 : 0 ≤ wgf s 24) (hm : wgf s 24 + 50000 ≤ 684000) (hQ : ∀ (s' : im_S) (f : Int) (F : List Int), ps s s' → wgf s' 28 ≤ wgf s 28 + 24 → wgf s' 24 ≤ wgf s 24 + 33000 → pol s' f F → rsp c N s R0 P lf rf k F → ((f = wga s 602 b ∧ F = P) ∨ wgf s 28 ≤ f) → wloop (fun (K : Int × im_S → Prop) (a : Int × im_S) => W_restRoots_92 K f a.1 a.2 Q) ((R0 : Int), s')) : W_restRoots b (R0 : Int) s Q := by
  unfold W_restRoots
  have P1 := hP.1
  refine ⟨hb0, ⟨fun a => ∃ (j : Nat) (F : List Int), a.2.1 = ((R0 + j : Nat) : Int) ∧ j ≤ k ∧ ps s a.2.2 ∧ wgf a.2.2 28 ≤ wgf s 28 + 3 * j ∧ wgf a.2.2 24 ≤ wgf s 24 + 4100 * j ∧ pol a.2.2 a.1 F ∧ rsp c N s R0 P lf rf j F ∧ ((a.1 = wga s 602 b ∧ F = P) ∨ wgf s 28 ≤ a.1), fun a => (((R0 + k : Nat) : Int) - a.2.1).toNat, ⟨0, P, rfl, by omega, ps_rfl, by dsimp only; omega, by dsimp only; omega, hf, ⟨hP.1, [1], fun _ => False, fun x => by rw [pev_c1]; grind, pis_one, fun x hx => by rw [pev_c1] at hx; grind, fun y hy => hy.elim, fun y hy => hy.elim, fun r y hr' => by omega⟩, Or.inl ⟨rfl, rfl⟩⟩, ?_⟩⟩
  rintro ⟨f, r0, s2⟩ ⟨j, F, i1, i2, i3, i4, i5, i6, i7, i8⟩
  dsimp only at i1 i2 i3 i4 i5 i6 i7 i8 ⊢
  subst i1
  have r2 := ps_rtl i3 hk hr
  have i33 := i3.2.2.1
  have i34 := i3.2.2.2
  have rr : ∀ (i : Nat) (q : Int), i ≠ 597 → i ≠ 598 → i ≠ 599 → wga s2 i q = wga s i q := fun i q e1 e2 e3 => ps_r i3 e1 e2 e3
  unfold W_restRoots_10
  have g41 := r2.1
  refine ⟨fun q => ?_, fun q => ?_⟩
  · have ej : j = k := by omega
    subst ej
    exact hQ s2 f F i3 (by omega) (by omega) i6 i7 i8
  · have hj : j < k := by omega
    refine ⟨⟨by omega, by omega⟩, fun c1 => ?_, fun c1 => ?_⟩
    · unfold W_restRoots_83
      have nz : wga s 609 ((R0 + j : Nat) : Int) = 0 := by
        rw [rr 609 _ (by decide) (by decide) (by decide)] at c1
        obtain ⟨⟨_, _, h, e, _, _, _, _, _, _, _, _, _, _, w⟩, _⟩ := hr.2.2.1 j hj
        rcases w with w | ⟨x, _, _, _, _, w⟩
        · exact w.1
        · have := x.den_pos
          omega
      refine ⟨⟨by omega, by omega⟩, ⟨j + 1, F, by dsimp only; omega, by omega, i3, by dsimp only; omega, by dsimp only; omega, i6, ?_, i8⟩, by dsimp only; omega⟩
      obtain ⟨fF, Pi, z, a1, a2, a3, a4, a5, a6⟩ := i7
      refine ⟨fF, Pi, z, a1, a2, a3, a4, fun y hy => ?_, fun r y hr' e1 e2 e3 => ?_⟩
      · obtain ⟨r, q1, q2⟩ := a5 y hy
        exact ⟨r, by omega, q2⟩
      · by_cases er : r = j
        · subst er
          have := y.den_pos
          omega
        · exact a6 r y (by omega) e1 e2 e3
    · obtain ⟨x, x0, x1, x2, d1, d2⟩ : ∃ x : Rat, pev P x = 0 ∧ lf j < x ∧ x ≤ rf j ∧ wga s 609 ((R0 + j : Nat) : Int) = (x.den : Int) ∧ wga s 608 ((R0 + j : Nat) : Int) = x.num := by
        rw [rr 609 _ (by decide) (by decide) (by decide)] at c1
        obtain ⟨⟨_, _, h, e, _, _, _, _, _, _, _, l1, l2, _, w⟩, _⟩ := hr.2.2.1 j hj
        rcases w with w | ⟨x, w0, w1, w2, w3, w4⟩
        · omega
        · refine ⟨x, w0, ?_, Rat.le_trans w2 l2, w4, w3⟩
          refine Classical.byContradiction fun q => ?_
          exact absurd (Rat.le_trans (Rat.not_lt.1 q) l1) (Rat.not_le.2 w1)
      obtain ⟨fx0, F2⟩ := rsp_root hr hj i7 x0 x1
      have fb := frac_b hP.1 x0
      have ln : lim (x.den : Int) ≤ 2 := lim_b9 (by omega) (by omega)
      have ln2 : lim (-x.num) ≤ 2 := lim_b9 (by omega) (by omega)
      refine newPolynomial_ok (by have := i6.1; have := i6.2.1; omega) (by omega) (fun s3 a1 a2 a3 a4 a5 => ?_)
      obtain ⟨g, hg⟩ : ∃ g, g = wgf s2 28 := ⟨_, rfl⟩
      rw [← hg] at a2 a4 ⊢
      have hgb : 0 ≤ g ∧ g < 1200 := ⟨by have := i6.1; have := i6.2.1; omega, by omega⟩
      have e609 : wga s3 609 ((R0 + j : Nat) : Int) = (x.den : Int) := by rw [ps_r a1 (by decide) (by decide) (by decide), rr 609 _ (by decide) (by decide) (by decide)]; exact d1
      rw [e609]
      have dpos := x.den_pos
      refine ⟨⟨by omega, by omega⟩, whole_ok ⟨by omega, by omega⟩ (by omega) (by omega) (fun s4 b1 b2 b3 => ?_)⟩
      refine set_ok hgb.1 hgb.2 (by decide) (by decide) ⟨⟨by omega, by omega⟩, ?_, ?_⟩
      · rw [wg_row (by decide), st_row b1 (by decide), ps_r a1 (by decide) (by decide) (by decide), rr 608 _ (by decide) (by decide) (by decide), d2]
        exact ⟨by omega, by omega⟩
      have e608 : wga (wpa s4 599 (9 * g + 1) (wgf s3 24)) 608 ((R0 + j : Nat) : Int) = x.num := by
        rw [wg_row (by decide), st_row b1 (by decide), ps_r a1 (by decide) (by decide) (by decide), rr 608 _ (by decide) (by decide) (by decide)]; exact d2
      rw [e608]
      obtain ⟨s5, e5⟩ : ∃ s5, s5 = wpa s4 599 (9 * g + 1) (wgf s3 24) := ⟨_, rfl⟩
      rw [← e5]
      have t5 : wgf s5 24 = wgf s4 24 := by rw [e5]; rfl
      have b12 := b1.2
      refine whole_ok ⟨by omega, by omega⟩ (by omega) (by omega) (fun s6 h1 h2 h3 => ?_)
      have h12 := h1.2
      refine set_ok hgb.1 hgb.2 (by decide) (by decide) ?_
      obtain ⟨s7, e7⟩ : ∃ s7, s7 = wpa s6 599 (9 * g + 0) (wgf s5 24) := ⟨_, rfl⟩
      rw [← e7]
      have ps7 : ps s2 s7 := by
        have p4 : ps s2 s4 := ps_tr a1 (st_ps b1)
        have p5 : ps s2 s5 := by rw [e5]; exact pc_ps p4 (f := g) (by omega) (pc_set pc_rfl hgb.1 (by omega) (by omega))
        rw [e7]
        exact pc_ps (ps_tr p5 (st_ps h1)) (f := g) (by omega) (pc_set pc_rfl hgb.1 (by omega) (by omega))
      have e28 : wgf s7 28 = g + 1 := by rw [e7, wf_pa, st_28 h1, e5, wf_pa, st_28 b1]; exact a2
      have n5 : nm s5 (wga s5 599 (9 * g + ((1 : Nat) : Int))) (x.den : Int) := by
        rw [e5]
        exact en_new (k := 1) b2
      have pg : pol s7 g (lin x) := by
        have ll : (lin x).length = 2 := rfl
        refine ⟨hgb.1, by omega, by omega, by omega, ?_, fun i hi => ?_⟩
        · rw [e7, wg_row (by decide), st_row h1 (by decide), e5, wg_row (by decide), st_row b1 (by decide), a4, ll]; rfl
        · rw [e7]
          by_cases ei : i = 0
          · subst ei
            exact en_new (k := 0) h2
          · have e1 : i = 1 := by omega
            subst e1
            exact en_old (j := 1) (k := 0) h1 hgb.1 (by decide) n5
      have t7 : wgf s7 24 = wgf s6 24 := by rw [e7]; rfl
      refine share_fc (ps_pol ps7 (by omega) i6) pg i7.1 (lin_gd x) (lin_qd i7.1.1.2.2.1 F2 fx0) (by omega) (by omega) (by omega) (fun s8 S k1 k2 k3 k4 k5 k6 k7 => ?_)
      unfold W_restRoots_83
      refine ⟨⟨by omega, by omega⟩, ⟨j + 1, S, by dsimp only; omega, by omega, ps_tr i3 (ps_tr ps7 k1), by dsimp only; omega, by dsimp only; omega, k3, rsp_step hr hj i7 x0 x1 x2 d1 d2 k4 k6, Or.inr (by dsimp only; omega)⟩, by dsimp only; omega⟩
