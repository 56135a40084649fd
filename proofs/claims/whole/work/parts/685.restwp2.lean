/-! restRoots: its second loop -/
/-- what is known of a root that is no fraction: the part that stays turns its sign on its interval -/
def rti (s : im_S) (R f : Int) (F : List Int) (lo hi : Rat) : Prop := wga s 610 R = f ∧ wga s 611 R = 700000 - 200 * (R + 1) ∧ ∃ h e : Int, wga s 612 R = e ∧ num s (700000 - 200 * (R + 1)) h ∧ 0 ≤ e ∧ e ≤ 650 ∧ hbd h e ∧ hbd (h + 1) e ∧ lo ≤ (h : Rat) * wd e ∧ ((h : Rat) + 1) * wd e ≤ hi ∧ (∀ x : Rat, (h : Rat) * wd e ≤ x → x ≤ ((h : Rat) + 1) * wd e → pev F x ≠ 0) ∧ pev F ((h : Rat) * wd e) * pev F (((h : Rat) + 1) * wd e) < 0 ∧ wga s 613 R = rsg (pev F ((h : Rat) * wd e))
/-- and of a fraction -/
def rtq (s : im_S) (R : Int) (P : List Int) (lo hi : Rat) : Prop := ∃ x : Rat, pev P x = 0 ∧ lo < x ∧ x ≤ hi ∧ wga s 608 R = x.num ∧ wga s 609 R = (x.den : Int)
abbrev pR4 : List Nat := [610, 613]
theorem restRoots_92 {s : im_S} {f : Int} {R0 k : Nat} {F : List Int} {lf rf : Nat → Rat} {Q : im_S → Prop} (hf : pol s f F) (fF : fct F) (hk : R0 + k ≤ 80) (hk8 : k ≤ 8) (h41 : wgf s 41 = ((R0 + k : Nat) : Int)) (hfl : ∀ r : Nat, r < k → wga s 609 ((R0 + r : Nat) : Int) = 0 → ∃ h e : Int, wga s 612 ((R0 + r : Nat) : Int) = e ∧ wga s 611 ((R0 + r : Nat) : Int) = 700000 - 200 * (((R0 + r : Nat) : Int) + 1) ∧ num s (700000 - 200 * (((R0 + r : Nat) : Int) + 1)) h ∧ 0 ≤ e ∧ e ≤ 650 ∧ hbd h e ∧ hbd (h + 1) e ∧ lf r ≤ (h : Rat) * wd e ∧ ((h : Rat) + 1) * wd e ≤ rf r ∧ (∀ x : Rat, (h : Rat) * wd e ≤ x → x ≤ ((h : Rat) + 1) * wd e → pev F x ≠ 0) ∧ pev F ((h : Rat) * wd e) * pev F (((h : Rat) + 1) * wd e) < 0) (h0 : 0 ≤ wgf s 24) (hm : wgf s 24 + 50000 ≤ 684000) (hQ : ∀ s', pw [] pR4 (wgf s 24) (wgf s 28) s s' → wgf s' 28 = wgf s 28 → wgf s 24 ≤ wgf s' 24 → wgf s' 24 ≤ wgf s 24 + 300 → pol s' f F → (∀ r : Nat, r < k → wga s' 609 ((R0 + r : Nat) : Int) = 0 → rti s' ((R0 + r : Nat) : Int) f F (lf r) (rf r)) → (∀ (c : Nat) (i : Int), c = 610 ∨ c = 613 → 0 ≤ i → i < (R0 : Int) → wga s' c i = wga s c i) → Q s') : wloop (fun (K : Int × im_S → Prop) (a : Int × im_S) => W_restRoots_92 K f a.1 a.2 Q) ((R0 : Int), s) := by
  have F28 := hf.2.2.1
  refine ⟨fun a => ∃ j : Nat, a.1 = ((R0 + j : Nat) : Int) ∧ j ≤ k ∧ pw [] pR4 (wgf s 24) (wgf s 28) s a.2 ∧ wgf a.2 28 = wgf s 28 ∧ wgf s 24 ≤ wgf a.2 24 ∧ wgf a.2 24 ≤ wgf s 24 + 30 * j ∧ (∀ r : Nat, r < j → wga a.2 609 ((R0 + r : Nat) : Int) = 0 → rti a.2 ((R0 + r : Nat) : Int) f F (lf r) (rf r)) ∧ (∀ (c : Nat) (i : Int), c = 610 ∨ c = 613 → 0 ≤ i → i < (R0 : Int) → wga a.2 c i = wga s c i), fun a => (((R0 + k : Nat) : Int) - a.1).toNat, ⟨0, rfl, by omega, pw_rfl, rfl, Int.le_refl _, by dsimp only; omega, fun r hr => by omega, fun _ _ _ _ _ => rfl⟩, ?_⟩
  rintro ⟨r0, s2⟩ ⟨j, i1, i2, i3, i4, i5, i6, i7, i8⟩
  dsimp only at i1 i2 i3 i4 i5 i6 i7 i8 ⊢
  subst i1
  have g41 : wgf s2 41 = ((R0 + k : Nat) : Int) := by rw [pw_f i3 (by decide)]; exact h41
  have rr : ∀ (i : Nat) (q : Int), i ≠ 597 → i ≠ 598 → i ≠ 599 → i ≠ 610 → i ≠ 613 → wga s2 i q = wga s i q := fun i q e1 e2 e3 e4 e5 => pw_r i3 e1 e2 e3 (fun w => by
    rcases List.mem_cons.1 w with w | w
    · exact e4 w
    · exact e5 (List.mem_singleton.1 w))
  have pf2 : pol s2 f F := pw_pol i3 ⟨by decide, by decide, by decide⟩ (Int.le_refl _) i5 (Int.le_refl _) (by omega) (by omega) hf
  unfold W_restRoots_92
  refine ⟨fun q => ?_, fun q => ⟨⟨by omega, by omega⟩, fun c1 => ?_, fun c1 => ?_⟩⟩
  · have ej : j = k := by omega
    subst ej
    exact hQ s2 i3 i4 i5 (by omega) pf2 i7 i8
  · unfold W_restRoots_151
    exact ⟨⟨by omega, by omega⟩, ⟨j + 1, by dsimp only; omega, by omega, i3, i4, i5, by dsimp only; omega, fun r hr hz => by
      by_cases e : r = j
      · subst e; exact absurd hz c1
      · exact i7 r (by omega) hz, i8⟩, by dsimp only; omega⟩
  · have hj : j < k := by omega
    have c1' : wga s 609 ((R0 + j : Nat) : Int) = 0 := by rw [← rr 609 _ (by decide) (by decide) (by decide) (by decide) (by decide)]; exact c1
    obtain ⟨h, e, w1, w2, w3, w4, w5, w6, w7, w8, w9, w10, w11⟩ := hfl j hj c1'
    refine ⟨⟨by omega, by omega⟩, fun s3 e3 => ⟨⟨by omega, by omega⟩, ?_⟩⟩
    have e612 : wga s3 612 ((R0 + j : Nat) : Int) = e := by rw [e3, wg_row (by decide), rr 612 _ (by decide) (by decide) (by decide) (by decide) (by decide)]; exact w1
    have e611 : wga s3 611 ((R0 + j : Nat) : Int) = 700000 - 200 * (((R0 + j : Nat) : Int) + 1) := by rw [e3, wg_row (by decide), rr 611 _ (by decide) (by decide) (by decide) (by decide) (by decide)]; exact w2
    rw [e612, e611]
    obtain ⟨E, hE⟩ : ∃ E : Nat, e = E := ⟨e.toNat, by omega⟩
    subst hE
    have q1 : lim (2 ^ E) ≤ 25 := by
      have := lim_p2 E
      omega
    have q2 : ((E : Int) + 40) * (lim (2 ^ E) + 3) ≤ 700 * 28 := by
      have b' : (E + 40) * (lim (2 ^ E) + 3) ≤ 700 * 28 := Nat.mul_le_mul (by omega) (by omega)
      exact Int.ofNat_le.2 b'
    have lh := hbd_lim w6
    have t3 : wgf s3 24 = wgf s2 24 := by rw [e3]; rfl
    have t328 : wgf s3 28 = wgf s2 28 := by rw [e3]; rfl
    have p3 : pol s3 f F := by rw [e3]; exact pol_pa (by decide) (by decide) (by decide) pf2
    have n2 : num s2 (700000 - 200 * (((R0 + j : Nat) : Int) + 1)) h := pw_num i3 (by decide) w3 (Or.inr (by omega))
    have n3 : num s3 (700000 - 200 * (((R0 + j : Nat) : Int) + 1)) h := by
      rw [e3]
      exact num_co n2 n2.1 n2.2.1 (fun t _ _ => wg_row (by decide))
    refine powerOfTwo_ok (by omega) (by omega) (by omega) (fun s4 a1 a2 a3 => ?_)
    have a12 := a1.2
    have n4 : na s4 (700000 - 200 * (((R0 + j : Nat) : Int) + 1)) h := ⟨num_ag n3 a1.1 (Or.inr (by omega)), Or.inr (by omega)⟩
    have g3 := lim_b9 (v := 0) (by decide) (by decide)
    refine signAt2_na (K := 32) (st_pol a1 p3) (pab_lb (fct_pab fF)) fF.1.1 n4 a2 (by omega) (by omega) (by omega) (by omega) (fun s5 b1 => ⟨⟨by omega, by omega⟩, fun s6 e6 => ?_⟩)
    have sgn : psg F h (2 ^ E) = rsg (pev F ((h : Rat) * wd E)) := by
      have hv := hf_ev h (E : Int)
      unfold hfp hfq at hv
      rw [if_neg (by omega), if_neg (by omega), Int.toNat_natCast] at hv
      rw [psg_ev fF.1.1 hv.2, hv.1]
    rw [sgn] at e6
    unfold W_restRoots_151
    have st5 : st s3 s5 := st_tr a1 b1.1
    have b12 := b1.2
    have t6 : wgf s6 24 = wgf s5 24 := by rw [e6]; rfl
    have t628 : wgf s6 28 = wgf s3 28 := by rw [e6, wf_pa]; exact st_28 st5
    have w6' : pw [] pR4 (wgf s 24) (wgf s 28) s s6 := by
      rw [e6]
      refine pw_pa (pw_tr (pw_tr i3 (by rw [e3]; exact pw_pa pw_rfl (by decide))) (ps_pw (st_ps st5) (by omega) (by omega))) (by decide)
    have r6 : ∀ (i : Nat) (q : Int), i ≠ 597 → i ≠ 610 → i ≠ 613 → wga s6 i q = wga s2 i q := fun i q e1 e2 e4 => by rw [e6, wg_row e4, st_row st5 e1, e3, wg_row e2]
    have m6 : ∀ (x X : Int), num s2 x X → 684000 ≤ x → num s6 x X := fun x X hn hx => by
      have z0 := hn.1
      refine num_co hn hn.1 hn.2.1 (fun t t1 t2 => ?_)
      rw [e6, wg_row (by decide), ag_m st5.1 (by omega) (Or.inr (by omega)), e3, wg_row (by decide)]
    refine ⟨⟨by omega, by omega⟩, ⟨j + 1, by dsimp only; omega, by omega, w6', by dsimp only; omega, by dsimp only; omega, by dsimp only; omega, fun r hr hz => ?_, fun c i hc c0 c1 => ?_⟩, by dsimp only; omega⟩
    rotate_left
    · rw [← i8 c i hc c0 c1]
      rcases hc with q | q
      · subst q
        show wga s6 610 i = _
        rw [e6, wg_row (by decide), st_row st5 (by decide), e3, wg_ne (by omega) (by omega) (by omega)]
      · subst q
        show wga s6 613 i = _
        rw [e6, wg_ne (by omega) (by omega) (by omega), st_row st5 (by decide), e3, wg_row (by decide)]
    dsimp only at hz ⊢
    by_cases er : r = j
    · subst er
      refine ⟨?_, by rw [r6 611 _ (by decide) (by decide) (by decide), rr 611 _ (by decide) (by decide) (by decide) (by decide) (by decide)]; exact w2, h, E, by rw [r6 612 _ (by decide) (by decide) (by decide), rr 612 _ (by decide) (by decide) (by decide) (by decide) (by decide)]; exact w1, m6 _ _ n2 (by omega), w4, w5, w6, w7, w8, w9, w10, w11, by rw [e6]; exact wg_same⟩
      rw [e6, wg_row (by decide), st_row st5 (by decide), e3]; exact wg_same
    · rw [r6 609 _ (by decide) (by decide) (by decide)] at hz
      obtain ⟨z1, z2, h', e', z3, z4, z5⟩ := i7 r (by omega) hz
      refine ⟨?_, by rw [r6 611 _ (by decide) (by decide) (by decide)]; exact z2, h', e', by rw [r6 612 _ (by decide) (by decide) (by decide)]; exact z3, m6 _ _ z4 (by omega), ?_⟩
      · rw [e6, wg_row (by decide), st_row st5 (by decide), e3, wg_ne (by omega) (by omega) (by omega)]; exact z1
      · have g : wga s6 613 ((R0 + r : Nat) : Int) = wga s2 613 ((R0 + r : Nat) : Int) := by
          rw [e6, wg_ne (by omega) (by omega) (by omega), st_row st5 (by decide), e3, wg_row (by decide)]
        rw [g]; exact z5
