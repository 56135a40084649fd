/-! THE REFERENCE'S POLYNOMIALS: giveBack, comeBack, polynomialOf -/
theorem giveBack_ok {s : im_S} {l1 l2 : Int} {Q : im_S → Prop} (hQ : ∀ s', (∀ c f : Nat, ¬ (c = 582 ∧ (f = 24 ∨ f = 28 ∨ f = 33)) → s'.1 c f = s.1 c f) → s'.2 = s.2 → wgf s' 28 = l1 → wgf s' 24 = l2 → wgf s' 33 = 0 → Q s') : W_giveBack l1 l2 s Q := by
  unfold W_giveBack
  intro s1 e1 s2 e2 s3 e3
  refine hQ s3 (fun c f q => ?_) (by rw [e3, e2, e1]; rfl) ?_ ?_ ?_
  · rw [e3, e2, e1]
    have a : (wpf (wpf (wpf s 28 l1) 24 l2) 33 0).1 c f = (wpf (wpf s 28 l1) 24 l2).1 c f := im_up_ne (fun z => q ⟨z.1, Or.inr (Or.inr z.2)⟩)
    have b : (wpf (wpf s 28 l1) 24 l2).1 c f = (wpf s 28 l1).1 c f := im_up_ne (fun z => q ⟨z.1, Or.inl z.2⟩)
    have d : (wpf s 28 l1).1 c f = s.1 c f := im_up_ne (fun z => q ⟨z.1, Or.inr (Or.inl z.2)⟩)
    rw [a, b, d]
  · rw [e3, wf_ne (by decide), e2, wf_ne (by decide), e1]; exact wf_same
  · rw [e3, wf_ne (by decide), e2]; exact wf_same
  · rw [e3]; exact wf_same
theorem pw_pm {fs rs : List Nat} {lo pl x i : Int} {s s' : im_S} (h : pw fs rs lo pl s s') (h0 : 0 ≤ i) (h1 : lo ≤ i) (h2 : i < 684000) : pw fs rs lo pl s (wpa s' 597 i x) := ⟨h.1, fun d j q1 q2 q3 q4 => by
  have e : (wpa s' 597 i x).2 d j = s'.2 d j := im_up_ne (fun z => q1 ⟨z.1, by have := z.2; omega, by have := z.2; omega⟩)
  rw [e]
  exact h.2 d j q1 q2 q3 q4⟩
theorem pw_p9 {fs rs : List Nat} {lo pl x i : Int} {s s' : im_S} (h : pw fs rs lo pl s s') (h0 : 0 ≤ i) (h1 : 9 * pl ≤ i) : pw fs rs lo pl s (wpa s' 599 i x) := ⟨h.1, fun d j q1 q2 q3 q4 => by
  have e : (wpa s' 599 i x).2 d j = s'.2 d j := im_up_ne (fun z => q3 ⟨z.1, by have := z.2; omega⟩)
  rw [e]
  exact h.2 d j q1 q2 q3 q4⟩
theorem pw_m {fs rs : List Nat} {lo pl : Int} {s s' : im_S} {i : Int} (h : pw fs rs lo pl s s') (hr : 597 ∉ rs) (h0 : 0 ≤ i) (h1 : i < lo ∨ 684000 ≤ i) : wga s' 597 i = wga s 597 i := h.2 597 i.toNat (by omega) (by omega) (by omega) hr
theorem pw_d {fs rs : List Nat} {lo pl : Int} {s s' : im_S} {i : Int} (h : pw fs rs lo pl s s') (hr : 598 ∉ rs) (h0 : 0 ≤ i) (h1 : i < pl) : wga s' 598 i = wga s 598 i := h.2 598 i.toNat (by omega) (by omega) (by omega) hr
theorem pw_pt {fs rs : List Nat} {lo pl : Int} {s s' : im_S} {i : Int} (h : pw fs rs lo pl s s') (hr : 599 ∉ rs) (h0 : 0 ≤ i) (h1 : i < 9 * pl) : wga s' 599 i = wga s 599 i := h.2 599 i.toNat (by omega) (by omega) (by omega) hr
theorem comeBack_ok {s : im_S} {P : List Int} {Q : Int → im_S → Prop} (hm : mvp s (wgf s 33) P) (hl : P.length ≤ 9) (hi : 0 ≤ wgf s 33) (hi2 : wgf s 33 + ofs P P.length ≤ 20000) (hp : 0 ≤ wgf s 28) (hp2 : wgf s 28 < 1200) (h0 : 0 ≤ wgf s 24) (hr : wgf s 24 + ofs P P.length ≤ 684000) (hQ : ∀ s', pw [33] [] (wgf s 24) (wgf s 28) s s' → wgf s' 33 = wgf s 33 + ofs P P.length → wgf s' 28 = wgf s 28 + 1 → wgf s' 24 = wgf s 24 + ofs P P.length - 1 → pol s' (wgf s 28) P → Q (wgf s 28) s') : W_comeBack s Q := by
  unfold W_comeBack
  have op := ofs_pos P P.length
  obtain ⟨i, hi'⟩ : ∃ i, i = wgf s 33 := ⟨_, rfl⟩
  obtain ⟨z, hz'⟩ : ∃ z, z = wgf s 28 := ⟨_, rfl⟩
  obtain ⟨T, hT'⟩ : ∃ T, T = wgf s 24 := ⟨_, rfl⟩
  refine ⟨⟨hi, by omega⟩, newPolynomial_ok hp hp2 (fun s1 a1 a2 a3 a4 a5 => ?_)⟩
  have t33 : wgf s1 33 = i := by rw [ps_f a1 (by decide) (by decide) (by decide)]; exact hi'.symm
  rw [← hz', ← hT'] at hQ
  rw [← hi'] at hm hi hi2 hQ a4
  rw [← hT'] at h0 hr a3
  rw [← hz'] at hp hp2 a2 a4 ⊢
  have hzb : 0 ≤ z ∧ z < 1200 := ⟨hp, hp2⟩
  refine ⟨by rw [t33]; exact ⟨by omega, by omega⟩, fun s2 e2 => ?_⟩
  have m1 : (33 : Nat) ∈ [33] := List.mem_singleton.2 rfl
  have w2 : pw [33] [] T z s s2 := by rw [e2]; exact pw_pf (ps_pw a1 (by omega) (by omega)) (Or.inr (Or.inr (Or.inr m1)))
  have t2 : wgf s2 33 = i + ofs P 0 := by rw [e2, wf_same, t33]; rfl
  have n0 : ∀ n : Nat, n ∉ ([] : List Nat) := fun n h => nomatch h
  refine ⟨fun a => ∃ k : Nat, a.1 = k ∧ k ≤ P.length ∧ pw [33] [] T z s a.2 ∧ wgf a.2 33 = i + ofs P k ∧ wgf a.2 24 = T + ofs P k - 1 ∧ wgf a.2 28 = z + 1 ∧ wga a.2 598 z = (P.length : Int) - 1 ∧ ∀ j : Nat, j < k → nm a.2 (wga a.2 599 (9 * z + j)) (pgt P j), fun a => ((P.length : Int) - a.1).toNat, ⟨0, rfl, by omega, w2, t2, ?_, ?_, ?_, fun j hj => by omega⟩, ?_⟩
  · dsimp only
    rw [e2, wf_ne (by decide), a3]
    show T = T + 1 - 1
    omega
  · dsimp only
    rw [e2, wf_ne (by decide)]; exact a2
  · dsimp only
    rw [e2, wg_pf, a4]; exact hm.1
  rintro ⟨k0, s3⟩ ⟨k, i1, i2, i3, i4, i5, i6, i7, i8⟩
  dsimp only at i1 i2 i3 i4 i5 i6 i7 i8 ⊢
  subst i1
  unfold W_comeBack_26
  refine ⟨hzb, fun c => ?_, fun c => ?_⟩
  · have ek : k = P.length := by omega
    subst ek
    exact hQ s3 i3 i4 i6 i5 ⟨hzb.1, by omega, by omega, hl, i7, i8⟩
  · have hk : k < P.length := by omega
    have ol := ofs_lt P hk
    have oo := ofs_pos P k
    obtain ⟨s0, x, hn, hd⟩ := hm.2 k hk
    have r3 : ∀ j : Int, wga s3 601 j = wga s 601 j := fun j => pw_r i3 (by decide) (by decide) (by decide) (n0 _)
    have hd0 := hd 0 (by omega) (by omega)
    rw [Int.add_zero, Int.add_zero] at hd0
    have nl := num_lim hn
    refine ⟨⟨by omega, by omega⟩, fun _ => ?_, fun v hv => ?_⟩
    · rw [i4, r3, hd0, hn.2.2.1]
      have := hn.2.1
      have := hn.1
      split
      · exact ⟨by omega, by omega⟩
      · exact ⟨by omega, by omega⟩
    have ev : v = lim (pgt P k) := by rw [hv, i4, r3, hd0]; exact nl
    subst ev
    refine ⟨fun a => ∃ t : Nat, a.1 = t ∧ t ≤ lim (pgt P k) + 1 ∧ pw [33] [] (wgf s3 24) (z + 1) s3 a.2 ∧ wgf a.2 33 = i + ofs P k + t ∧ wgf a.2 24 = wgf s3 24 ∧ wgf a.2 28 = z + 1 ∧ ∀ u : Int, 0 ≤ u → u < t → wga a.2 597 (wgf s3 24 + u) = wga s0 597 (x + u), fun a => ((lim (pgt P k) : Int) + 1 - a.1).toNat, ⟨0, rfl, by omega, pw_rfl, by dsimp only; omega, rfl, i6, fun u a b => by omega⟩, ?_⟩
    rintro ⟨t0, s4⟩ ⟨t, j1, j2, j3, j4, j5, j6, j7⟩
    dsimp only at j1 j2 j3 j4 j5 j6 j7 ⊢
    subst j1
    unfold W_comeBack_80
    refine ⟨fun c3 => ⟨⟨by omega, by omega⟩, ⟨by omega, by omega⟩, fun s5 e5 => ?_⟩, fun c3 => ⟨⟨by omega, by omega⟩, ⟨by omega, by omega⟩, fun s5 e5 => ⟨?_, fun s6 e6 => ⟨⟨by omega, by omega⟩, ⟨t + 1, by dsimp only; omega, by omega, ?_, ?_, ?_, ?_, fun u a b => ?_⟩, by dsimp only; omega⟩⟩⟩⟩
    · have et : t = lim (pgt P k) + 1 := by omega
      have t5 : wgf s5 24 = wgf s3 24 + lim (pgt P k) + 1 := by rw [e5]; exact wf_same
      have n5 : nm s5 (wgf s3 24) (pgt P k) := by
        refine ⟨num_co hn (by omega) (by omega) (fun u a b => ?_), by omega⟩
        rw [e5, wg_pf]
        exact j7 u a (by omega)
      have w5 : pw [33] [] (wgf s3 24) (z + 1) s3 s5 := by rw [e5]; exact pw_pf j3 (Or.inl rfl)
      refine set_ok hzb.1 hzb.2 (by omega) (by omega) ⟨⟨by omega, by omega⟩, ⟨k + 1, by dsimp only; omega, by omega, ?_, ?_, ?_, ?_, ?_, fun j hj => ?_⟩, by dsimp only; omega⟩
      · exact pw_p9 (pw_tr i3 (pw_mono w5 (fun _ h => h) (fun _ h => h) (by omega) (by omega))) (by omega) (by omega)
      · dsimp only
        rw [wf_pa, e5, wf_ne (by decide), j4, et]
        show _ = i + (ofs P k + lim (pgt P k) + 1)
        omega
      · dsimp only
        rw [wf_pa, t5, i5]
        show _ = T + (ofs P k + lim (pgt P k) + 1) - 1
        omega
      · dsimp only
        rw [wf_pa, e5, wf_ne (by decide)]; exact j6
      · dsimp only
        rw [wg_row (by decide), pw_d w5 (n0 _) (by omega) (by omega)]; exact i7
      · dsimp only
        by_cases q : j = k
        · subst q; exact en_new n5
        · rw [wg_ne (by omega) (by omega) (by omega), pw_pt w5 (n0 _) (by omega) (by omega)]
          have y := i8 j (by omega)
          refine nm_row (by decide) ⟨pw_num w5 (n0 _) y.1 (Or.inl y.2), ?_⟩
          have := y.2
          omega
    · rw [e5, wf_pa]; exact ⟨by omega, by omega⟩
    · rw [e6, e5]
      exact pw_pf (pw_pm j3 (by omega) (by omega) (by omega)) (Or.inr (Or.inr (Or.inr m1)))
    · dsimp only
      rw [e6, wf_same, e5, wf_pa, j4]; omega
    · dsimp only
      rw [e6, wf_ne (by decide), e5, wf_pa]; exact j5
    · dsimp only
      rw [e6, wf_ne (by decide), e5, wf_pa]; exact j6
    · dsimp only
      rw [e6, wg_pf, e5]
      by_cases q : u = t
      · subst q
        rw [wg_same, j4, pw_r j3 (by decide) (by decide) (by decide) (n0 _), r3]
        exact hd t (by omega) (by omega)
      · rw [wg_ne (by omega) (by omega) (by omega)]
        exact j7 u a (by omega)
theorem lim_b9 {v : Int} (h1 : -1000000000 ≤ v) (h2 : v ≤ 1000000000) : lim v ≤ 2 := lim_le (by
  have : (1000000000 : Nat) ^ 2 = 1000000000000000000 := by decide
  omega)
theorem polynomialOf_ok {s : im_S} {i : Int} {v : Nat → Int} {Q : Int → im_S → Prop} (hi : 0 ≤ i ∧ i < 10) (hv : ∀ k : Nat, k < 9 → wga s 584 (9 * i + k) = v k) (hb : ∀ k : Nat, k < 9 → -1000000000 ≤ v k ∧ v k ≤ 1000000000) (hp : 0 ≤ wgf s 28) (hp2 : wgf s 28 < 1200) (h0 : 0 ≤ wgf s 24) (hm : wgf s 24 + 300 ≤ 684000) (hQ : ∀ s' R, ps s s' → wgf s' 28 = wgf s 28 + 1 → pol s' (wgf s 28) R → cr 1 (pmk 9 v) R → wgf s' 24 ≤ wgf s 24 + 120 → Q (wgf s 28) s') : W_polynomialOf i s Q := by
  unfold W_polynomialOf
  refine newPolynomial_ok hp hp2 (fun s1 a1 a2 a3 a4 a5 => ?_)
  obtain ⟨z, hz⟩ : ∃ z, z = wgf s 28 := ⟨_, rfl⟩
  rw [← hz] at a2 a4 hQ hp hp2 ⊢
  have hzb : 0 ≤ z ∧ z < 1200 := ⟨hp, hp2⟩
  have pl := pmk_len 9 v
  refine ⟨fun a => ∃ k : Nat, a.1 = k ∧ k ≤ 9 ∧ ps s a.2 ∧ wgf a.2 28 = z + 1 ∧ wgf a.2 24 ≤ wgf s 24 + 3 * k ∧ wga a.2 598 z = 8 ∧ ∀ j : Nat, j < k → nm a.2 (wga a.2 599 (9 * z + j)) (v j), fun a => (9 - a.1).toNat, ⟨0, rfl, by omega, a1, a2, by dsimp only; omega, a4, fun j hj => by omega⟩, ?_⟩
  rintro ⟨k0, s2⟩ ⟨k, i1, i2, i3, i4, i5, i6, i7⟩
  dsimp only at i1 i2 i3 i4 i5 i6 i7 ⊢
  subst i1
  have i33 := i3.2.2.1
  unfold W_polynomialOf_9
  refine ⟨fun c => ?_, fun c => ⟨⟨by omega, by omega⟩, ⟨by omega, by omega⟩, ?_⟩⟩
  · have ek : k = 9 := by omega
    subst ek
    have pz : pol s2 z (pmk 9 v) := by
      refine ⟨hzb.1, by omega, by omega, by omega, by rw [pl]; exact i6, fun j hj => ?_⟩
      rw [pl] at hj
      rw [pmk_gt, if_pos hj]
      exact i7 j hj
    have lb : plb (pmk 9 v) 2 := pmk_lb (fun k hk => lim_b9 (hb k hk).1 (hb k hk).2)
    refine clean_ok pz lb (Or.inr rfl) (by omega) (by rw [pl]; omega) (fun s' R c1 c2 c3 c4 c5 => ?_)
    rw [pl] at c4
    have q1 := pc_28 c1
    exact hQ s' R (pc_ps i3 (by omega) c1) (by omega) c2 c3 (by omega)
  · have hk : k < 9 := by omega
    have bk := hb k hk
    rw [ps_r i3 (by decide) (by decide) (by decide), hv k hk]
    have lk := lim_b9 bk.1 bk.2
    refine whole_ok ⟨by omega, by omega⟩ (by omega) (by omega) (fun s3 b1 b2 b3 => ?_)
    refine set_ok hzb.1 hzb.2 (by omega) (by omega) ⟨⟨by omega, by omega⟩, ⟨k + 1, by dsimp only; omega, by omega, ?_, ?_, ?_, ?_, fun j hj => ?_⟩, by dsimp only; omega⟩
    · exact pc_ps (ps_tr i3 (st_ps b1)) (f := z) (by omega) (pc_set pc_rfl hzb.1 (by omega) (by omega))
    · dsimp only; rw [wf_pa, st_28 b1]; exact i4
    · dsimp only; rw [wf_pa]; omega
    · dsimp only; rw [wg_row (by decide), st_row b1 (by decide)]; exact i6
    · dsimp only
      by_cases q : j = k
      · subst q; exact en_new b2
      · exact en_old b1 hzb.1 q (i7 j (by omega))
