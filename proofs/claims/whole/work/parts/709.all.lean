/-! findAll: frames, and the roots of one base more -/
def fa (s s' : im_S) : Prop := (∀ c f : Nat, ¬ (c = 582 ∧ (f = 24 ∨ f = 25 ∨ f = 28 ∨ f = 29 ∨ f = 32 ∨ f = 33 ∨ f = 34 ∨ f = 36 ∨ f = 41 ∨ f = 52)) → s'.1 c f = s.1 c f) ∧ ∀ c i : Nat, ¬ (c = 588 ∨ (597 ≤ c ∧ c ≤ 618)) → s'.2 c i = s.2 c i
theorem fa_rfl {s : im_S} : fa s s := ⟨fun _ _ _ => rfl, fun _ _ _ => rfl⟩
theorem fa_tr {s s1 s2 : im_S} (h1 : fa s s1) (h2 : fa s1 s2) : fa s s2 := ⟨fun c f q => (h2.1 c f q).trans (h1.1 c f q), fun c i q => (h2.2 c i q).trans (h1.2 c i q)⟩
theorem fa_f {s s' : im_S} (h : fa s s') (f : Nat) (hf : ¬ (f = 24 ∨ f = 25 ∨ f = 28 ∨ f = 29 ∨ f = 32 ∨ f = 33 ∨ f = 34 ∨ f = 36 ∨ f = 41 ∨ f = 52)) : wgf s' f = wgf s f := h.1 582 f (fun z => hf z.2)
theorem fa_r {s s' : im_S} (h : fa s s') (c : Nat) (i : Int) (hc : ¬ (c = 588 ∨ (597 ≤ c ∧ c ≤ 618))) : wga s' c i = wga s c i := h.2 c i.toNat hc
theorem pw_fa {fs rs : List Nat} {lo pl : Int} {s s' : im_S} (h : pw fs rs lo pl s s') (hf : ∀ f, f ∈ fs → f = 29 ∨ f = 32 ∨ f = 33 ∨ f = 34 ∨ f = 36) (hr : ∀ c, c ∈ rs → 597 ≤ c ∧ c ≤ 618) : fa s s' := ⟨fun c f q => h.1 c f (fun z => q ⟨z.1, by
  rcases z.2 with e | e | e | e
  · omega
  · omega
  · omega
  · have := hf f e
    omega⟩), fun c i q => h.2 c i (by first | omega | (dsimp only; omega)) (by first | omega | (dsimp only; omega)) (by first | omega | (dsimp only; omega)) (fun z => q (Or.inr (hr c z)))⟩
theorem fro_fa {lo pl R : Int} {s s' : im_S} (h : fro lo pl R s s') : fa s s' := ⟨fun c f q => h.1 c f (fun z => q ⟨z.1, by first | omega | (dsimp only; omega)⟩), fun c i q => h.2 c i (by first | omega | (dsimp only; omega)) (by first | omega | (dsimp only; omega)) (by first | omega | (dsimp only; omega)) (by first | omega | (dsimp only; omega)) (by first | omega | (dsimp only; omega)) (by first | omega | (dsimp only; omega)) (by first | omega | (dsimp only; omega)) (by first | omega | (dsimp only; omega))⟩
theorem wpf_fa {s s' : im_S} {f : Nat} {x : Int} (h : fa s s') (hf : f = 24 ∨ f = 25 ∨ f = 28 ∨ f = 29 ∨ f = 32 ∨ f = 33 ∨ f = 34 ∨ f = 36 ∨ f = 41 ∨ f = 52) : fa s (wpf s' f x) := ⟨fun c g q => by
  show im_up s'.1 582 f x c g = s.1 c g
  rw [im_up_ne (fun z => q ⟨z.1, by rw [z.2]; exact hf⟩)]
  exact h.1 c g q, h.2⟩
def rfo (s s' : im_S) : Prop := (∀ c f : Nat, ¬ (c = 582 ∧ f = 25) → s'.1 c f = s.1 c f) ∧ ∀ c i : Nat, ¬ (c = 597 ∧ wgf s 24 ≤ (i : Int)) → c ≠ 612 → c ≠ 614 → s'.2 c i = s.2 c i
theorem rfo_rfl {s : im_S} : rfo s s := ⟨fun _ _ _ => rfl, fun _ _ _ _ _ => rfl⟩
theorem rfq_rfo {s s' : im_S} (h : rfq s s') : rfo s s' := ⟨h.1, fun c i q1 q2 _ => h.2 c i q1 q2⟩
theorem rfo_f {s s' : im_S} (h : rfo s s') (f : Nat) (hf : f ≠ 25) : wgf s' f = wgf s f := h.1 582 f (fun z => hf z.2)
theorem rfo_r {s s' : im_S} (h : rfo s s') (c : Nat) (i : Int) (h1 : c ≠ 597) (h2 : c ≠ 612) (h3 : c ≠ 614) : wga s' c i = wga s c i := h.2 c i.toNat (fun z => h1 z.1) h2 h3
theorem rfo_tr {s s1 s2 : im_S} (h1 : rfo s s1) (h2 : rfo s1 s2) : rfo s s2 := ⟨fun c f q => (h2.1 c f q).trans (h1.1 c f q), fun c i q1 q2 q3 => (h2.2 c i (by rw [rfo_f h1 24 (by first | decide | omega | (dsimp only; omega) | (dsimp only; decide))]; exact q1) q2 q3).trans (h1.2 c i q1 q2 q3)⟩
theorem rfo_pa {s s' : im_S} {i x : Int} (h : rfo s s') : rfo s (wpa s' 614 i x) := ⟨h.1, fun c j q1 q2 q3 => (show im_up s'.2 614 i.toNat x c j = s.2 c j from (im_up_ne (fun z => q3 z.1)).trans (h.2 c j q1 q2 q3))⟩
theorem rfo_fa {s s' : im_S} (h : rfo s s') : fa s s' := ⟨fun c f q => h.1 c f (fun z => q ⟨z.1, by first | omega | (dsimp only; omega)⟩), fun c i q => h.2 c i (by first | omega | (dsimp only; omega)) (by first | omega | (dsimp only; omega)) (by first | omega | (dsimp only; omega))⟩
def rq (s : im_S) (l : Nat) (b : Nat → List Int) (n : Nat) (f : Nat → Int) (F : Nat → List Int) (lo hi : Nat → Rat) : Prop := rkl s n f F lo hi ∧ wgf s 41 = n ∧ wgf s 52 = n ∧ n ≤ dsm b l ∧ (∀ R : Nat, R < n → ∃ j : Nat, j < l ∧ wga s 607 (R : Int) = j ∧ (wga s 609 (R : Int) = 0 → dvz (F R) (b j))) ∧ (∀ R R' : Nat, R < R' → R' < n → wga s 609 (R : Int) = 0 → wga s 609 (R' : Int) = 0 → wga s 607 (R : Int) = wga s 607 (R' : Int) → hi R ≤ lo R')
theorem rq_pair {s : im_S} {l nb : Nat} {b : Nat → List Int} {n : Nat} {f : Nat → Int} {F : Nat → List Int} {lo hi : Nat → Rat} (h : rq s l b n f F lo hi) (hp : pcp b nb) (hl : l ≤ nb) {R1 R2 : Nat} (h1 : R1 < n) (h2 : R2 < n) (hne : R1 ≠ R2) (z1 : wga s 609 (R1 : Int) = 0) (z2 : wga s 609 (R2 : Int) = 0) : hi R1 ≤ lo R2 ∨ hi R2 ≤ lo R1 ∨ cop (F R1) (F R2) := by
  obtain ⟨_, _, _, _, q5, q6⟩ := h
  obtain ⟨j1, a1, a2, a3⟩ := q5 R1 h1
  obtain ⟨j2, b1, b2, b3⟩ := q5 R2 h2
  have d1 := a3 z1
  have d2 := b3 z2
  by_cases e : j1 = j2
  · rcases Nat.lt_or_gt_of_ne hne with q | q
    · exact Or.inl (q6 R1 R2 q h2 z1 z2 (by rw [a2, b2, e]))
    · exact Or.inr (Or.inl (q6 R2 R1 q h1 z2 z1 (by rw [a2, b2, e])))
  · refine Or.inr (Or.inr ?_)
    rcases Nat.lt_or_gt_of_ne e with q | q
    · exact cop_sym (cop_dv (cop_sym (cop_dv (hp j1 j2 q (by first | omega | (dsimp only; omega))) d2)) d1)
    · exact cop_dv (cop_sym (cop_dv (hp j2 j1 q (by first | omega | (dsimp only; omega))) d1)) d2
theorem rk_fro {s s' : im_S} {R R0 : Nat} {f : Int} {F : List Int} {lo hi : Rat} (h : fro (wgf s 24) (wgf s 28) (R0 : Int) s s') (hR : R < R0) (hR0 : R0 ≤ 80) (h1 : wgf s 24 ≤ wgf s' 24) (h2 : wgf s 28 ≤ wgf s' 28) (h3 : wgf s' 28 ≤ 1200) (hk : rk s R f F lo hi) : rk s' R f F lo hi := by
  have r9 : ∀ c : Nat, 607 ≤ c → c ≤ 613 → wga s' c (R : Int) = wga s c (R : Int) := fun c c1 c2 => h.2 c (R : Int).toNat (by first | omega | (dsimp only; omega)) (by first | omega | (dsimp only; omega)) (by first | omega | (dsimp only; omega)) (by first | omega | (dsimp only; omega)) (by first | omega | (dsimp only; omega)) (by first | omega | (dsimp only; omega)) (by first | omega | (dsimp only; omega)) (by first | omega | (dsimp only; omega))
  rcases hk with k | ⟨k1, k2, k3, hh, E, k4, ⟨i1, i2, i3, i4, i5, i6, i7, i8⟩, k6, k7⟩
  · exact Or.inl (by rw [r9 609 (by first | decide | omega | (dsimp only; omega) | (dsimp only; decide)) (by first | decide | omega | (dsimp only; omega) | (dsimp only; decide)), r9 608 (by first | decide | omega | (dsimp only; omega) | (dsimp only; decide)) (by first | decide | omega | (dsimp only; omega) | (dsimp only; decide))]; exact k)
  · refine Or.inr ⟨by rw [r9 609 (by first | decide | omega | (dsimp only; omega) | (dsimp only; decide)) (by first | decide | omega | (dsimp only; omega) | (dsimp only; decide))]; exact k1, k2, fro_pol h h1 h2 h3 k3, hh, E, k4, ⟨by rw [r9 610 (by first | decide | omega | (dsimp only; omega) | (dsimp only; decide)) (by first | decide | omega | (dsimp only; omega) | (dsimp only; decide))]; exact i1, by rw [r9 611 (by first | decide | omega | (dsimp only; omega) | (dsimp only; decide)) (by first | decide | omega | (dsimp only; omega) | (dsimp only; decide))]; exact i2, by rw [r9 612 (by first | decide | omega | (dsimp only; omega) | (dsimp only; decide)) (by first | decide | omega | (dsimp only; omega) | (dsimp only; decide))]; exact i3, ?_, i5, i6, i7, by rw [r9 613 (by first | decide | omega | (dsimp only; omega) | (dsimp only; decide)) (by first | decide | omega | (dsimp only; omega) | (dsimp only; decide))]; exact i8⟩, k6, k7⟩
    obtain ⟨x, hx⟩ : ∃ x : Int, x = 700000 - 200 * ((R : Int) + 1) := ⟨_, rfl⟩
    rw [← hx] at i4 ⊢
    have z0 := i4.1
    refine num_co i4 i4.1 i4.2.1 (fun t t1 t2 => ?_)
    exact h.2 597 (x + t).toNat (by first | omega | (dsimp only; omega)) (by first | omega | (dsimp only; omega)) (by first | omega | (dsimp only; omega)) (by first | decide | omega | (dsimp only; omega) | (dsimp only; decide)) (by first | decide | omega | (dsimp only; omega) | (dsimp only; decide)) (by first | omega | (dsimp only; omega)) (by first | decide | omega | (dsimp only; omega) | (dsimp only; decide)) (by first | decide | omega | (dsimp only; omega) | (dsimp only; decide))
theorem rq_step {s s' : im_S} {l : Nat} {b : Nat → List Int} {n k N : Nat} {f : Nat → Int} {F : Nat → List Int} {lo hi : Nat → Rat} {c : Nat → List Int} {lf rf : Nat → Rat} {Lmin Rend : Rat} {g : Int} {G : List Int} (h : rq s l b n f F lo hi) (fr : fro (wgf s 24) (wgf s 28) (n : Int) s s') (h1 : wgf s 24 ≤ wgf s' 24) (h2 : wgf s 28 ≤ wgf s' 28) (h3 : wgf s' 28 ≤ 1200) (hk : k + 1 ≤ (b l).length) (h80 : n + k ≤ 80) (fP : fct (b l)) (hr : rtl c N s' n (l : Int) (b l) Lmin Rend k lf rf) (hs : rsp c N s' n (b l) lf rf k G) (hp : (∀ r : Nat, r < k → wga s' 609 ((n + r : Nat) : Int) ≠ 0) ∨ pol s' g G) (hi' : ∀ r : Nat, r < k → wga s' 609 ((n + r : Nat) : Int) = 0 → rti s' ((n + r : Nat) : Int) g G (lf r) (rf r)) : ∃ (f' : Nat → Int) (F' : Nat → List Int) (lo' hi'' : Nat → Rat), rq s' (l + 1) b (n + k) f' F' lo' hi'' := by
  obtain ⟨q1, q2, q3, q4, q5, q6⟩ := h
  refine ⟨fun R => if R < n then f R else g, fun R => if R < n then F R else G, fun R => if R < n then lo R else lf (R - n), fun R => if R < n then hi R else rf (R - n), ?_⟩
  have r9 : ∀ (c : Nat) (R : Nat), R < n → 607 ≤ c → c ≤ 613 → wga s' c (R : Int) = wga s c (R : Int) := fun c R hR c1 c2 => fr.2 c (R : Int).toNat (by first | omega | (dsimp only; omega)) (by first | omega | (dsimp only; omega)) (by first | omega | (dsimp only; omega)) (by first | omega | (dsimp only; omega)) (by first | omega | (dsimp only; omega)) (by first | omega | (dsimp only; omega)) (by first | omega | (dsimp only; omega)) (by first | omega | (dsimp only; omega))
  have n80 := q1.1
  refine ⟨⟨h80, fun R hR => ?_⟩, hr.1, hr.2.1, ?_, fun R hR => ?_, fun R R' hRR hR' z1 z2 e7 => ?_⟩
  · by_cases c1 : R < n
    · dsimp only
      rw [if_pos c1, if_pos c1, if_pos c1, if_pos c1]
      exact rk_fro fr c1 n80 h1 h2 h3 (q1.2 R c1)
    · dsimp only
      rw [if_neg c1, if_neg c1, if_neg c1, if_neg c1]
      have eR : n + (R - n) = R := by first | omega | (dsimp only; omega)
      obtain ⟨t1, t2, t3⟩ := hr.2.2.1 (R - n) (by first | omega | (dsimp only; omega))
      rw [eR] at t1
      have hz := hi' (R - n) (by first | omega | (dsimp only; omega))
      rw [eR] at hz
      obtain ⟨_, _, _, _, _, _, _, _, _, _, _, _, _, _, t4⟩ := t1
      by_cases c2 : wga s' 609 (R : Int) = 0
      · obtain ⟨hh, E, e1, e2, e3, e4⟩ := rti_rfi (hz c2)
        refine Or.inr ⟨c2, hs.1, hp.resolve_left (fun w => w (R - n) (by first | omega | (dsimp only; omega)) (by rw [eR]; exact c2)), hh, E, by first | omega | (dsimp only; omega), e2, e3, e4⟩
      · rcases t4 with t4 | ⟨x, x1, x2, x3, x4, x5⟩
        · exact absurd t4.1 c2
        · obtain ⟨y1, y2, y3, y4⟩ := frac_b fP x1
          have := x.den_pos
          exact Or.inl ⟨by first | omega | (dsimp only; omega), by first | omega | (dsimp only; omega), by first | omega | (dsimp only; omega), by first | omega | (dsimp only; omega)⟩
  · show n + k ≤ dsm b l + ((b l).length - 1)
    omega
  · by_cases c1 : R < n
    · obtain ⟨j, j1, j2, j3⟩ := q5 R c1
      refine ⟨j, by first | omega | (dsimp only; omega), by rw [r9 607 R c1 (by first | decide | omega | (dsimp only; omega) | (dsimp only; decide)) (by first | decide | omega | (dsimp only; omega) | (dsimp only; decide))]; exact j2, ?_⟩
      rw [r9 609 R c1 (by first | decide | omega | (dsimp only; omega) | (dsimp only; decide)) (by first | decide | omega | (dsimp only; omega) | (dsimp only; decide))]
      dsimp only
      rw [if_pos c1]
      exact j3
    · have eR : n + (R - n) = R := by first | omega | (dsimp only; omega)
      obtain ⟨t1, t2, t3⟩ := hr.2.2.1 (R - n) (by first | omega | (dsimp only; omega))
      rw [eR] at t1
      refine ⟨l, by first | omega | (dsimp only; omega), t1.1, fun _ => ?_⟩
      dsimp only
      rw [if_neg c1]
      obtain ⟨_, Pi, z, p1, _⟩ := hs
      exact ⟨Pi, p1⟩
  · by_cases c1 : R' < n
    · rw [r9 609 R (by first | omega | (dsimp only; omega)) (by first | decide | omega | (dsimp only; omega) | (dsimp only; decide)) (by first | decide | omega | (dsimp only; omega) | (dsimp only; decide))] at z1
      rw [r9 609 R' c1 (by first | decide | omega | (dsimp only; omega) | (dsimp only; decide)) (by first | decide | omega | (dsimp only; omega) | (dsimp only; decide))] at z2
      rw [r9 607 R (by first | omega | (dsimp only; omega)) (by first | decide | omega | (dsimp only; omega) | (dsimp only; decide)) (by first | decide | omega | (dsimp only; omega) | (dsimp only; decide)), r9 607 R' c1 (by first | decide | omega | (dsimp only; omega) | (dsimp only; decide)) (by first | decide | omega | (dsimp only; omega) | (dsimp only; decide))] at e7
      dsimp only
      rw [if_pos (by first | omega | (dsimp only; omega)), if_pos c1]
      exact q6 R R' hRR c1 z1 z2 e7
    · have eR' : n + (R' - n) = R' := by first | omega | (dsimp only; omega)
      obtain ⟨t1, t2, t3⟩ := hr.2.2.1 (R' - n) (by first | omega | (dsimp only; omega))
      rw [eR'] at t1
      by_cases c2 : R < n
      · obtain ⟨j, j1, j2, j3⟩ := q5 R c2
        rw [r9 607 R c2 (by first | decide | omega | (dsimp only; omega) | (dsimp only; decide)) (by first | decide | omega | (dsimp only; omega) | (dsimp only; decide)), j2, t1.1] at e7
        omega
      · dsimp only
        rw [if_neg c2, if_neg c1]
        exact hr.2.2.2.1 (R - n) (R' - n) (by first | omega | (dsimp only; omega)) (by first | omega | (dsimp only; omega))
