/-! THE REFERENCE'S ROOTS AS CUTS -/
/-- on its interval the number is told by the sign of F -/
def pfc (F : List Int) (lo hi : Rat) (c : Rat → Int) : Prop := lo < hi ∧ ∃ t : Int, (t = 1 ∨ t = -1) ∧ ∀ x : Rat, lo ≤ x → x ≤ hi → c x = t * rsg (pev F x)
/-- a root that is a fraction, or none -/
def rkc (s : im_S) (R : Nat) (F : List Int) (lo hi : Rat) (c : Rat → Int) : Prop := (∃ x : Rat, wga s 608 (R : Int) = x.num ∧ wga s 609 (R : Int) = (x.den : Int) ∧ c = qct x) ∨ (wga s 609 (R : Int) = 0 ∧ (∀ x, c x ≠ 0) ∧ pfc F lo hi c)
theorem iso_one {F : List Int} {l r : Rat} (sF : sqf F) (lr : l < r) (hn : pev F l * pev F r < 0) (nz : ∀ x, l ≤ x → x ≤ r → pev F x ≠ 0) (un : ∀ c c' : Rat → Int, cut c → cut c' → rtc F c → rtc F c' → c l = 1 → c r = -1 → c' l = 1 → c' r = -1 → c = c') : ∃ t, iso F l r t := by
  obtain ⟨t, ht, hx, _⟩ := sg_ex (nz l Rat.le_refl (Rat.le_of_lt lr))
  have n3 : ∀ x, l ≤ x → x ≤ r → rsg (pev F x) = t ∨ rsg (pev F x) = -t := fun x h1 h2 => by
    rcases rsg_c (pev F x) with ⟨p, _⟩ | ⟨_, p⟩ | ⟨_, p⟩
    · exact absurd p (nz x h1 h2)
    · omega
    · omega
  have hr : rsg (pev F r) = -t := by
    rcases n3 r (Rat.le_of_lt lr) Rat.le_refl with w | w
    · exfalso
      have p := rsg_neg hn
      rw [rsg_m, hx, w] at p
      rcases ht with q | q <;> subst q <;> revert p <;> decide
    · exact w
  refine ⟨t, lr, ht, hx, hr, fun x y h1 h2 h3 h4 => ?_⟩
  have x2 : x ≤ r := Rat.le_trans (Rat.le_of_lt h2) h3
  have y1 : l ≤ y := Rat.le_trans h1 (Rat.le_of_lt h2)
  rcases n3 x h1 x2 with w | w
  · exact w
  · exfalso
    have wy : rsg (pev F y) = t := (n3 y y1 h3).resolve_right h4
    have lx : l < x := by
      rcases Rat.le_iff_lt_or_eq.1 h1 with q | q
      · exact q
      · rw [← q, hx] at w
        omega
    have m1 : pev F l * pev F x < 0 := rsg_n (by rw [rsg_m, hx, w]; rcases ht with q | q <;> subst q <;> rfl)
    have m2 : pev F x * pev F y < 0 := rsg_n (by rw [rsg_m, w, wy]; rcases ht with q | q <;> subst q <;> rfl)
    obtain ⟨c1, a1, a2, a3, a4⟩ := ivt sF lx m1
    obtain ⟨c2, b1, b2, b3, b4⟩ := ivt sF h2 m2
    have e := un c1 c2 a1 b1 a2 b2 a3 (cut_ge1 a1 a4 x2) (cut_le1 b1 b3 h1) (cut_ge1 b1 b4 h3)
    rw [e, b3] at a4
    omega
/-- each interval's number -/
theorem cut_r {c : Nat → List Int} {N n k r : Nat} {s : im_S} {b g : Int} {P G : List Int} {Lmin Rend : Rat} {lf rf : Nat → Rat} (hst : stu c (N - 1)) (hc0 : c 0 = P) (sq : sqf P) (nP : nzp P) (hr : rtl c N s n b P Lmin Rend k lf rf) (hv : ∀ r : Nat, r < k → vst c (N - 1) (lf r) - vst c (N - 1) (rf r) = 1) (hs : rsp c N s n P lf rf k G) (hi' : ∀ r : Nat, r < k → wga s 609 ((n + r : Nat) : Int) = 0 → rti s ((n + r : Nat) : Int) g G (lf r) (rf r)) (hrk : r < k) : ∃ (lo hi : Rat) (y : Rat → Int), (lf r ≤ lo ∧ hi ≤ rf r) ∧ cut y ∧ rtc P y ∧ (y (lf r) = 1 ∧ y (rf r) ≠ 1) ∧ rkc s (n + r) G lo hi y ∧ (wga s 609 ((n + r : Nat) : Int) = 0 → rti s ((n + r : Nat) : Int) g G lo hi) := by
  obtain ⟨t1, t2, t3⟩ := hr.2.2.1 r hrk
  obtain ⟨w1, w2, h, e, w3, w4, w5, w6, w7, w8, w9, w10, w11, w12, w13⟩ := t1
  rcases w13 with ⟨z0, nz⟩ | ⟨x, x1, x2, x3, x4, x5⟩
  · obtain ⟨i1, i2, h', e', i3, i4, i5, i6, i7, i8, i9, i10, i11, i12, i13⟩ := hi' r hrk z0
    obtain ⟨fF, Pi, z, p1, _⟩ := hs
    have wp := wd_pos e'
    have LR : (h' : Rat) * wd e' < ((h' : Rat) + 1) * wd e' := by
      generalize wd e' = w at wp
      grind
    have sG : sqf G := sqf_l sq p1
    obtain ⟨nG, nPi⟩ := ne_of_mul p1 nP
    have toP : ∀ y : Rat → Int, cut y → rtc G y → rtc P y := fun y cy ty => (rtc_mul cy nG nPi p1).2 (Or.inl ⟨ty, fun w => rtc_cop cy (cop_sq sq p1) ty w⟩)
    have un : ∀ y y' : Rat → Int, cut y → cut y' → rtc G y → rtc G y' → y ((h' : Rat) * wd e') = 1 → y (((h' : Rat) + 1) * wd e') = -1 → y' ((h' : Rat) * wd e') = 1 → y' (((h' : Rat) + 1) * wd e') = -1 → y = y' := fun y y' cy cy' ty ty' a1 a2 b1 b2 => by
      refine sturm_one hst cy cy' (by rw [hc0]; exact toP y cy ty) (by rw [hc0]; exact toP y' cy' ty') (l := lf r) (r := rf r) (cut_le1 cy a1 i9) ?_ (cut_le1 cy' b1 i9) ?_ (by have := hv r hrk; omega)
      · rw [cut_ge1 cy a2 i10]; decide
      · rw [cut_ge1 cy' b2 i10]; decide
    obtain ⟨y, cy, ty, yl, yr⟩ := ivt sG LR i12
    obtain ⟨t, hiso⟩ := iso_one sG LR i12 i11 un
    refine ⟨(h' : Rat) * wd e', ((h' : Rat) + 1) * wd e', y, ⟨i9, i10⟩, cy, toP y cy ty, ⟨cut_le1 cy yl i9, by rw [cut_ge1 cy yr i10]; decide⟩, Or.inr ⟨z0, fun x hx => ?_, LR, t, hiso.2.1, fun x h1 h2 => ?_⟩, fun _ => ⟨i1, i2, h', e', i3, i4, i5, i6, i7, i8, Rat.le_refl, Rat.le_refl, i11, i12, i13⟩⟩
    · have z1 := rtc_q0 cy hx ty
      refine i11 x (Rat.not_lt.1 fun q => ?_) (Rat.not_lt.1 fun q => ?_) z1
      · have := cut_le1 cy yl (Rat.le_of_lt q); omega
      · have := cut_ge1 cy yr (Rat.le_of_lt q); omega
    · rw [ict_u hiso cy (by rw [yl]; decide) (by rw [yr]; decide) ty x, ict_in hiso h1 h2]
  · refine ⟨lf r, rf r, qct x, ⟨Rat.le_refl, Rat.le_refl⟩, qct_cut x, rtc_qs sq x1, ⟨rsg_pos ?_, fun q => ?_⟩, Or.inl ⟨x, x4, x5, rfl⟩, fun q => ?_⟩
    · generalize (h : Rat) * wd e = L at *
      grind
    · have a := rsg_p q
      have := Rat.le_trans x3 w11
      grind
    · have := x.den_pos
      omega
def rqc (s : im_S) (l : Nat) (b : Nat → List Int) (n : Nat) (F : Nat → List Int) (lo hi : Nat → Rat) (ds : Nat → Rat → Int) : Prop := (∀ R : Nat, R < n → cut (ds R) ∧ rkc s R (F R) (lo R) (hi R) (ds R) ∧ ∃ j : Nat, j < l ∧ wga s 607 (R : Int) = (j : Int) ∧ rtc (b j) (ds R)) ∧ (∀ j : Nat, j < l → ∀ y : Rat → Int, cut y → rtc (b j) y → ∃ R : Nat, R < n ∧ wga s 607 (R : Int) = (j : Int) ∧ y = ds R) ∧ ∀ R R' : Nat, R < n → R' < n → ds R = ds R' → R = R'
theorem rkc_co {s s' : im_S} {R : Nat} {F : List Int} {lo hi : Rat} {c : Rat → Int} (h : rkc s R F lo hi c) (h8 : wga s' 608 (R : Int) = wga s 608 (R : Int)) (h9 : wga s' 609 (R : Int) = wga s 609 (R : Int)) : rkc s' R F lo hi c := by
  unfold rkc
  rw [h8, h9]
  exact h
theorem rqc_co {s s' : im_S} {l n : Nat} {b : Nat → List Int} {F : Nat → List Int} {lo hi : Nat → Rat} {ds : Nat → Rat → Int} (h : rqc s l b n F lo hi ds) (hr : ∀ (c R : Nat), R < n → c = 607 ∨ c = 608 ∨ c = 609 → wga s' c (R : Int) = wga s c (R : Int)) : rqc s' l b n F lo hi ds := by
  obtain ⟨h1, h2, h3⟩ := h
  refine ⟨fun R hR => ?_, fun j hj y cy ty => ?_, h3⟩
  · obtain ⟨a1, a2, j, j1, j2, j3⟩ := h1 R hR
    exact ⟨a1, rkc_co a2 (hr 608 R hR (by omega)) (hr 609 R hR (by omega)), j, j1, by rw [hr 607 R hR (by omega)]; exact j2, j3⟩
  · obtain ⟨R, r1, r2, r3⟩ := h2 j hj y cy ty
    exact ⟨R, r1, by rw [hr 607 R r1 (by omega)]; exact r2, r3⟩
theorem rqc_step {s s' : im_S} {l n k : Nat} {b : Nat → List Int} {F : Nat → List Int} {lo hi : Nat → Rat} {ds cs : Nat → Rat → Int} {G : List Int} {lf rf lf' rf' : Nat → Rat} (h : rqc s l b n F lo hi ds) (fr : ∀ (c R : Nat), R < n → c = 607 ∨ c = 608 ∨ c = 609 → wga s' c (R : Int) = wga s c (R : Int)) (hp : ∀ j, j < l → cop (b j) (b l)) (h7 : ∀ r : Nat, r < k → wga s' 607 ((n + r : Nat) : Int) = (l : Int)) (hcs : ∀ r : Nat, r < k → cut (cs r) ∧ rtc (b l) (cs r) ∧ (cs r (lf r) = 1 ∧ cs r (rf r) ≠ 1) ∧ rkc s' (n + r) G (lf' r) (rf' r) (cs r)) (hor : ∀ r r' : Nat, r < r' → r' < k → rf r ≤ lf r') (hall : ∀ y : Rat → Int, cut y → rtc (b l) y → ∃ r : Nat, r < k ∧ y = cs r) : rqc s' (l + 1) b (n + k) (fun R => if R < n then F R else G) (fun R => if R < n then lo R else lf' (R - n)) (fun R => if R < n then hi R else rf' (R - n)) (fun R => if R < n then ds R else cs (R - n)) := by
  obtain ⟨h1, h2, h3⟩ := rqc_co h fr
  have ne : ∀ r r' : Nat, r < r' → r' < k → cs r = cs r' → False := fun r r' a a' e => by
    have z := cut_le1 (hcs r' a').1 (hcs r' a').2.2.1.1 (hor r r' a a')
    rw [← e] at z
    exact (hcs r (by omega)).2.2.1.2 z
  refine ⟨fun R hR => ?_, fun j hj y cy ty => ?_, fun R R' hR hR' e => ?_⟩
  · by_cases c1 : R < n
    · try dsimp only
      rw [if_pos c1, if_pos c1, if_pos c1, if_pos c1]
      obtain ⟨a1, a2, j, j1, j2, j3⟩ := h1 R c1
      exact ⟨a1, a2, j, by omega, j2, j3⟩
    · try dsimp only
      rw [if_neg c1, if_neg c1, if_neg c1, if_neg c1]
      obtain ⟨a1, a2, a3, a4⟩ := hcs (R - n) (by omega)
      have e7 := h7 (R - n) (by omega)
      rw [show n + (R - n) = R by omega] at a4 e7
      exact ⟨a1, a4, l, by omega, e7, a2⟩
  · by_cases q : j < l
    · obtain ⟨R, r1, r2, r3⟩ := h2 j q y cy ty
      exact ⟨R, by omega, r2, by (try dsimp only); rw [if_pos r1]; exact r3⟩
    · have ej : j = l := by omega
      subst ej
      obtain ⟨r, r1, r2⟩ := hall y cy ty
      exact ⟨n + r, by omega, h7 r r1, by (try dsimp only); rw [if_neg (by omega), Nat.add_sub_cancel_left]; exact r2⟩
  · dsimp only at e
    have mix : ∀ R R' : Nat, R < n → ¬ R' < n → R' < n + k → ds R = cs (R' - n) → False := fun R R' q1 q2 q3 e => by
      obtain ⟨a1, _, j, j1, _, j3⟩ := h1 R q1
      have z := (hcs (R' - n) (by omega)).2.1
      rw [← e] at z
      exact rtc_cop a1 (hp j j1) j3 z
    by_cases c1 : R < n
    · by_cases c2 : R' < n
      · rw [if_pos c1, if_pos c2] at e
        exact h3 R R' c1 c2 e
      · rw [if_pos c1, if_neg c2] at e
        exact absurd (mix R R' c1 c2 hR' e) id
    · by_cases c2 : R' < n
      · rw [if_neg c1, if_pos c2] at e
        exact absurd (mix R' R c2 c1 hR e.symm) id
      · rw [if_neg c1, if_neg c2] at e
        rcases Nat.lt_trichotomy (R - n) (R' - n) with q | q | q
        · exact absurd (ne _ _ q (by omega) e) id
        · omega
        · exact absurd (ne _ _ q (by omega) e.symm) id
theorem rq_stepc {s s' : im_S} {l : Nat} {b : Nat → List Int} {n k N : Nat} {f : Nat → Int} {F : Nat → List Int} {lo hi : Nat → Rat} {c : Nat → List Int} {lf rf : Nat → Rat} {Lmin Rend : Rat} {g : Int} {G : List Int} (h : rq s l b n f F lo hi) (fr : fro (wgf s 24) (wgf s 28) (n : Int) s s') (h1 : wgf s 24 ≤ wgf s' 24) (h2 : wgf s 28 ≤ wgf s' 28) (h3 : wgf s' 28 ≤ 1200) (hk : k + 1 ≤ (b l).length) (h80 : n + k ≤ 80) (fP : fct (b l)) (hr : rtl c N s' n (l : Int) (b l) Lmin Rend k lf rf) (hs : rsp c N s' n (b l) lf rf k G) (hp : (∀ r : Nat, r < k → wga s' 609 ((n + r : Nat) : Int) ≠ 0) ∨ pol s' g G) {lf' rf' : Nat → Rat} (hlr : ∀ r : Nat, r < k → lf r ≤ lf' r ∧ rf' r ≤ rf r) (hi' : ∀ r : Nat, r < k → wga s' 609 ((n + r : Nat) : Int) = 0 → rti s' ((n + r : Nat) : Int) g G (lf' r) (rf' r)) : rq s' (l + 1) b (n + k) (fun R => if R < n then f R else g) (fun R => if R < n then F R else G) (fun R => if R < n then lo R else lf' (R - n)) (fun R => if R < n then hi R else rf' (R - n)) := by
  obtain ⟨q1, q2, q3, q4, q5, q6⟩ := h
  have r9 : ∀ (c : Nat) (R : Nat), R < n → 607 ≤ c → c ≤ 613 → wga s' c (R : Int) = wga s c (R : Int) := fun c R hR c1 c2 => fr.2 c (R : Int).toNat (by first | omega | (dsimp only; omega)) (by first | omega | (dsimp only; omega)) (by first | omega | (dsimp only; omega)) (by first | omega | (dsimp only; omega)) (by first | omega | (dsimp only; omega)) (by first | omega | (dsimp only; omega)) (by first | omega | (dsimp only; omega)) (by first | omega | (dsimp only; omega))
  have n80 := q1.1
  refine ⟨⟨h80, fun R hR => ?_⟩, hr.1, hr.2.1, ?_, fun R hR => ?_, fun R R' hRR hR' z1 z2 e7 => ?_⟩
  · by_cases c1 : R < n
    · try dsimp only
      rw [if_pos c1, if_pos c1, if_pos c1, if_pos c1]
      exact rk_fro fr c1 n80 h1 h2 h3 (q1.2 R c1)
    · try dsimp only
      rw [if_neg c1, if_neg c1, if_neg c1, if_neg c1]
      have eR : n + (R - n) = R := by first | omega | (dsimp only; omega)
      obtain ⟨t1, t2, t3⟩ := hr.2.2.1 (R - n) (by first | omega | (dsimp only; omega))
      rw [eR] at t1
      have hz := hi' (R - n) (by first | omega | (dsimp only; omega))
      rw [eR] at hz
      obtain ⟨_, _, _, _, _, _, _, _, _, _, _, _, _, _, t4⟩ := t1
      by_cases c2 : wga s' 609 (R : Int) = 0
      · obtain ⟨hh, E, e1, e2, e3, e4⟩ := rti_rfi (hz c2)
        refine Or.inr ⟨c2, hs.1, hp.resolve_left (fun w => w (R - n) (by first | omega | (dsimp only; omega)) (by rw [eR]; exact c2)), hh, E, by first | omega | (dsimp only; omega), e2, e3, e4⟩
      · rcases t4 with t4 | ⟨x, x1, x2, x3, x4, x5⟩
        · exact absurd t4.1 c2
        · obtain ⟨y1, y2, y3, y4⟩ := frac_b fP x1
          have := x.den_pos
          exact Or.inl ⟨by first | omega | (dsimp only; omega), by first | omega | (dsimp only; omega), by first | omega | (dsimp only; omega), by first | omega | (dsimp only; omega)⟩
  · show n + k ≤ dsm b l + ((b l).length - 1)
    omega
  · by_cases c1 : R < n
    · obtain ⟨j, j1, j2, j3⟩ := q5 R c1
      refine ⟨j, by first | omega | (dsimp only; omega), by rw [r9 607 R c1 (by first | decide | omega | (dsimp only; omega) | (dsimp only; decide)) (by first | decide | omega | (dsimp only; omega) | (dsimp only; decide))]; exact j2, ?_⟩
      rw [r9 609 R c1 (by first | decide | omega | (dsimp only; omega) | (dsimp only; decide)) (by first | decide | omega | (dsimp only; omega) | (dsimp only; decide))]
      try dsimp only
      rw [if_pos c1]
      exact j3
    · have eR : n + (R - n) = R := by first | omega | (dsimp only; omega)
      obtain ⟨t1, t2, t3⟩ := hr.2.2.1 (R - n) (by first | omega | (dsimp only; omega))
      rw [eR] at t1
      refine ⟨l, by first | omega | (dsimp only; omega), t1.1, fun _ => ?_⟩
      try dsimp only
      rw [if_neg c1]
      obtain ⟨_, Pi, z, p1, _⟩ := hs
      exact ⟨Pi, p1⟩
  · by_cases c1 : R' < n
    · rw [r9 609 R (by first | omega | (dsimp only; omega)) (by first | decide | omega | (dsimp only; omega) | (dsimp only; decide)) (by first | decide | omega | (dsimp only; omega) | (dsimp only; decide))] at z1
      rw [r9 609 R' c1 (by first | decide | omega | (dsimp only; omega) | (dsimp only; decide)) (by first | decide | omega | (dsimp only; omega) | (dsimp only; decide))] at z2
      rw [r9 607 R (by first | omega | (dsimp only; omega)) (by first | decide | omega | (dsimp only; omega) | (dsimp only; decide)) (by first | decide | omega | (dsimp only; omega) | (dsimp only; decide)), r9 607 R' c1 (by first | decide | omega | (dsimp only; omega) | (dsimp only; decide)) (by first | decide | omega | (dsimp only; omega) | (dsimp only; decide))] at e7
      try dsimp only
      rw [if_pos (by first | omega | (dsimp only; omega)), if_pos c1]
      exact q6 R R' hRR c1 z1 z2 e7
    · have eR' : n + (R' - n) = R' := by first | omega | (dsimp only; omega)
      obtain ⟨t1, t2, t3⟩ := hr.2.2.1 (R' - n) (by first | omega | (dsimp only; omega))
      rw [eR'] at t1
      by_cases c2 : R < n
      · obtain ⟨j, j1, j2, j3⟩ := q5 R c2
        rw [r9 607 R c2 (by first | decide | omega | (dsimp only; omega) | (dsimp only; decide)) (by first | decide | omega | (dsimp only; omega) | (dsimp only; decide)), j2, t1.1] at e7
        omega
      · try dsimp only
        rw [if_neg c2, if_neg c1]
        exact Rat.le_trans (hlr (R - n) (by omega)).2 (Rat.le_trans (hr.2.2.2.1 (R - n) (R' - n) (by first | omega | (dsimp only; omega)) (by first | omega | (dsimp only; omega))) (hlr (R' - n) (by omega)).1)
