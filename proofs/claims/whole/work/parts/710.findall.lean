/-! findAll -/
theorem ord_114 {s0 s : im_S} {n r : Nat} {f : Nat → Int} {F : Nat → List Int} {lo hi : Nat → Rat} {K104 : Int × im_S → Prop} {Q : im_S → Prop} (h24 : 0 ≤ wgf s0 24 ∧ wgf s0 24 ≤ 100000) (hp : ∀ R1 R2 : Nat, R1 < n → R2 < n → R1 ≠ R2 → wga s0 609 (R1 : Int) = 0 → wga s0 609 (R2 : Int) = 0 → hi R1 ≤ lo R2 ∨ hi R2 ≤ lo R1 ∨ cop (F R1) (F R2)) (h1 : rfo s0 s) (h2 : rkl s n f F lo hi) (hr : r < n) (ho : ∀ k : Nat, k < r → ∃ R : Nat, R < r ∧ wga s 614 (k : Int) = R) (hK : ∀ s' : im_S, rfo s0 s' → rkl s' n f F lo hi → (∀ k : Nat, k < r + 1 → ∃ R : Nat, R < r + 1 ∧ wga s' 614 (k : Int) = R) → K104 (((r + 1 : Nat) : Int), s')) : wloop (fun (K : Int × im_S → Prop) (a : Int × im_S) => W_findAll_114 K104 K (r : Int) a.1 a.2 Q) ((r : Int), s) := by
  have n80 := h2.1
  refine ⟨fun a => rfo s0 a.2 ∧ rkl a.2 n f F lo hi ∧ ∃ k : Nat, a.1 = k ∧ k ≤ r ∧ ∀ j : Nat, j ≤ r → j ≠ k → ∃ R : Nat, R < r ∧ wga a.2 614 (j : Int) = R, fun a => a.1.toNat, ⟨h1, h2, r, rfl, Nat.le_refl _, fun j j1 j2 => ho j (by first | omega | (dsimp only; omega))⟩, ?_⟩
  rintro ⟨l2, s2⟩ ⟨i1, i2, k, i3, i4, i5⟩
  dsimp only at i1 i2 i3 i5 ⊢
  subst i3
  have e24 := rfo_f i1 24 (by first | decide | omega | (dsimp only; omega) | (dsimp only; decide))
  have put : ∀ s3 : im_S, rfo s0 s3 → rkl s3 n f F lo hi → (∀ j : Nat, j ≤ r → j ≠ k → ∃ R : Nat, R < r ∧ wga s3 614 (j : Int) = R) → W_findAll_154 K104 (r : Int) (k : Int) s3 Q := fun s3 a1 a2 a3 => by
    unfold W_findAll_154
    refine ⟨by first | omega | (dsimp only; omega), fun s4 e4 => ⟨by unfold iR; first | omega | (dsimp only; omega), ?_⟩⟩
    have w : rwr [614] s3 s4 := by rw [e4]; exact rwr_pa rwr_rfl (by first | decide | omega | (dsimp only; omega) | (dsimp only; decide))
    have z := hK s4 (by rw [e4]; exact rfo_pa a1) ⟨n80, fun R hR => rwr_rk w (fun c hc => by simp at hc; omega) (a2.2 R hR)⟩ (fun j hj => ?_)
    · rw [show ((r + 1 : Nat) : Int) = (r : Int) + 1 by first | omega | (dsimp only; omega)] at z
      exact z
    · rw [e4]
      by_cases c : j = k
      · subst c
        exact ⟨r, by first | omega | (dsimp only; omega), wg_same⟩
      · rw [wg_ne (by first | omega | (dsimp only; omega)) (by first | omega | (dsimp only; omega)) (by first | omega | (dsimp only; omega))]
        obtain ⟨R, R1, R2⟩ := a3 j (by first | omega | (dsimp only; omega)) c
        exact ⟨R, by first | omega | (dsimp only; omega), R2⟩
  unfold W_findAll_114
  refine ⟨fun _ => put s2 i1 i2 i5, fun c => ⟨by first | omega | (dsimp only; omega), ?_⟩⟩
  have ek : (k : Int) - 1 = ((k - 1 : Nat) : Int) := by first | omega | (dsimp only; omega)
  rw [ek]
  obtain ⟨R, hR, eR⟩ := i5 (k - 1) (by first | omega | (dsimp only; omega)) (by first | omega | (dsimp only; omega))
  rw [eR]
  refine isBefore_ok i2 hr (by first | omega | (dsimp only; omega)) (by first | omega | (dsimp only; omega)) (fun z1 z2 => hp r R hr (by first | omega | (dsimp only; omega)) (by first | omega | (dsimp only; omega)) (by rw [rfo_r i1 _ _ (by first | decide | omega | (dsimp only; omega) | (dsimp only; decide)) (by first | decide | omega | (dsimp only; omega) | (dsimp only; decide)) (by first | decide | omega | (dsimp only; omega) | (dsimp only; decide))] at z1; exact z1) (by rw [rfo_r i1 _ _ (by first | decide | omega | (dsimp only; omega) | (dsimp only; decide)) (by first | decide | omega | (dsimp only; omega) | (dsimp only; decide)) (by first | decide | omega | (dsimp only; omega) | (dsimp only; decide))] at z2; exact z2)) (by first | omega | (dsimp only; omega)) (by first | omega | (dsimp only; omega)) (fun v s3 b1 b2 => ?_)
  have b3 := rfo_tr i1 (rfq_rfo b1)
  have b4 : ∀ j : Nat, wga s3 614 (j : Int) = wga s2 614 (j : Int) := fun j => rfq_row b1 _ _ (by first | decide | omega | (dsimp only; omega) | (dsimp only; decide)) (by first | decide | omega | (dsimp only; omega) | (dsimp only; decide))
  refine ⟨fun _ => put s3 b3 b2 (fun j j1 j2 => by rw [b4]; exact i5 j j1 j2), fun _ => ⟨by first | omega | (dsimp only; omega), by first | omega | (dsimp only; omega), fun s4 e4 => ⟨by unfold iR; first | omega | (dsimp only; omega), ⟨?_, ?_, k - 1, by first | omega | (dsimp only; omega), by first | omega | (dsimp only; omega), fun j j1 j2 => ?_⟩, by first | omega | (dsimp only; omega)⟩⟩⟩
  · dsimp only; rw [e4]; exact rfo_pa b3
  · have w : rwr [614] s3 s4 := by rw [e4]; exact rwr_pa rwr_rfl (by first | decide | omega | (dsimp only; omega) | (dsimp only; decide))
    exact ⟨n80, fun R hR => rwr_rk w (fun c hc => by simp at hc; omega) (b2.2 R hR)⟩
  · dsimp only
    rw [e4]
    by_cases q : j = k
    · subst q
      rw [wg_same, b4, eR]
      exact ⟨R, hR, rfl⟩
    · rw [wg_ne (by first | omega | (dsimp only; omega)) (by first | omega | (dsimp only; omega)) (by first | omega | (dsimp only; omega)), b4]
      exact i5 j j1 q
theorem ord_104 {s0 s : im_S} {n nb m : Nat} {b : Nat → List Int} {f : Nat → Int} {F : Nat → List Int} {lo hi : Nat → Rat} {Q : im_S → Prop} (hq : rq s nb b n f F lo hi) (hb : bi s nb b) (h24 : 0 ≤ wgf s 24 ∧ wgf s 24 ≤ 100000) (hnb : nb ≤ 80) (h6 : 0 ≤ wgf s 6 ∧ wgf s 6 ≤ 10) (h606 : ∀ i : Nat, i < 2000 → 0 ≤ wga s 606 (i : Int) ∧ wga s 606 (i : Int) ≤ 8) (h584 : ∀ i : Nat, (i : Int) < 9 * wgf s 6 → -1000000000 ≤ wga s 584 (i : Int) ∧ wga s 584 (i : Int) ≤ 1000000000) (h10 : wgf s 10 = m) (hm : mok s m) (hfa : fa s0 s) (hQ : ∀ s' : im_S, fa s0 s' → rdy s' n nb f F lo hi → Q s') : wloop (fun (K : Int × im_S → Prop) (a : Int × im_S) => W_findAll_104 K a.1 a.2 Q) (0, s) := by
  have n80 := hq.1.1
  have e41 := hq.2.1
  have hp : ∀ R1 R2 : Nat, R1 < n → R2 < n → R1 ≠ R2 → wga s 609 (R1 : Int) = 0 → wga s 609 (R2 : Int) = 0 → hi R1 ≤ lo R2 ∨ hi R2 ≤ lo R1 ∨ cop (F R1) (F R2) := fun R1 R2 a1 a2 a3 a4 a5 => rq_pair hq hb.2.2 (Nat.le_refl _) a1 a2 a3 a4 a5
  refine ⟨fun a => rfo s a.2 ∧ rkl a.2 n f F lo hi ∧ ∃ r : Nat, a.1 = r ∧ r ≤ n ∧ ∀ k : Nat, k < r → ∃ R : Nat, R < r ∧ wga a.2 614 (k : Int) = R, fun a => (n - a.1).toNat, ⟨rfo_rfl, hq.1, 0, rfl, by first | omega | (dsimp only; omega), fun k hk => absurd hk (Nat.not_lt_zero k)⟩, ?_⟩
  rintro ⟨l1, s2⟩ ⟨i1, i2, r, i3, i4, i5⟩
  dsimp only at i1 i2 i3 i5 ⊢
  subst i3
  have q41 := rfo_f i1 41 (by first | decide | omega | (dsimp only; omega) | (dsimp only; decide))
  unfold W_findAll_104
  rw [q41, e41]
  refine ⟨fun c => ?_, fun c => ord_114 h24 hp i1 i2 (by first | omega | (dsimp only; omega)) i5 (fun s' a1 a2 a3 => ⟨⟨a1, a2, r + 1, rfl, by first | omega | (dsimp only; omega), a3⟩, by first | omega | (dsimp only; omega)⟩)⟩
  have er : r = n := by first | omega | (dsimp only; omega)
  rw [er] at i5
  have rr := fun c i h1 h2 h3 => rfo_r i1 c i h1 h2 h3
  have rf := fun f hf => rfo_f i1 f hf
  have rd2 : rdy s2 n nb f F lo hi := by
    refine ⟨i2, by rw [q41]; exact e41, by rw [rf 34 (by first | decide | omega | (dsimp only; omega) | (dsimp only; decide))]; exact hb.1, hnb, by rw [rf 24 (by first | decide | omega | (dsimp only; omega) | (dsimp only; decide))]; exact h24, by rw [rf 6 (by first | decide | omega | (dsimp only; omega) | (dsimp only; decide))]; exact h6, i5, fun R hR => ?_, fun i hi => ?_, fun j hj => ?_, fun i hi => ?_⟩
    · rw [rr 607 _ (by first | decide | omega | (dsimp only; omega) | (dsimp only; decide)) (by first | decide | omega | (dsimp only; omega) | (dsimp only; decide)) (by first | decide | omega | (dsimp only; omega) | (dsimp only; decide))]
      obtain ⟨j, j1, j2, _⟩ := hq.2.2.2.2.1 R hR
      omega
    · rw [rr 606 _ (by first | decide | omega | (dsimp only; omega) | (dsimp only; decide)) (by first | decide | omega | (dsimp only; omega) | (dsimp only; decide)) (by first | decide | omega | (dsimp only; omega) | (dsimp only; decide))]; exact h606 i hi
    · rw [rr 602 _ (by first | decide | omega | (dsimp only; omega) | (dsimp only; decide)) (by first | decide | omega | (dsimp only; omega) | (dsimp only; decide)) (by first | decide | omega | (dsimp only; omega) | (dsimp only; decide)), rr 598 _ (by first | decide | omega | (dsimp only; omega) | (dsimp only; decide)) (by first | decide | omega | (dsimp only; omega) | (dsimp only; decide)) (by first | decide | omega | (dsimp only; omega) | (dsimp only; decide))]
      obtain ⟨⟨p1, p2, p3, p4, p5, _⟩, _, _, p6, _⟩ := hb.2.1 j hj
      exact ⟨by first | omega | (dsimp only; omega), by first | omega | (dsimp only; omega), by first | omega | (dsimp only; omega)⟩
    · rw [rf 6 (by first | decide | omega | (dsimp only; omega) | (dsimp only; decide))] at hi
      rw [rr 584 _ (by first | decide | omega | (dsimp only; omega) | (dsimp only; decide)) (by first | decide | omega | (dsimp only; omega) | (dsimp only; decide)) (by first | decide | omega | (dsimp only; omega) | (dsimp only; decide))]; exact h584 i hi
  refine signAll_ok rd2 (by rw [rf 10 (by first | decide | omega | (dsimp only; omega) | (dsimp only; decide))]; exact h10) (mok_co (fun i _ => rr 586 _ (by first | decide | omega | (dsimp only; omega) | (dsimp only; decide)) (by first | decide | omega | (dsimp only; omega) | (dsimp only; decide)) (by first | decide | omega | (dsimp only; omega) | (dsimp only; decide))) hm) (fun s3 b1 b2 => hQ s3 (fa_tr hfa (fa_tr (rfo_fa i1) ⟨fun c f _ => by rw [b1.1], fun c i q => b1.2 c i (fun z => q ?_)⟩)) b2)
  simp at z
  omega
theorem all_83 {s0 s : im_S} {nb m : Nat} {b : Nat → List Int} {Q : im_S → Prop} (hb : bi s nb b) (hd : dsm b nb ≤ 80) (h24 : 0 ≤ wgf s 24 ∧ wgf s 24 ≤ 9000) (h28 : 0 ≤ wgf s 28 ∧ wgf s 28 ≤ 240) (h41 : wgf s 41 = 0) (h52 : wgf s 52 = 0) (h6 : 0 ≤ wgf s 6 ∧ wgf s 6 ≤ 10) (h606 : ∀ i : Nat, i < 2000 → 0 ≤ wga s 606 (i : Int) ∧ wga s 606 (i : Int) ≤ 8) (h584 : ∀ i : Nat, (i : Int) < 9 * wgf s 6 → -1000000000 ≤ wga s 584 (i : Int) ∧ wga s 584 (i : Int) ≤ 1000000000) (h10 : wgf s 10 = m) (hm : mok s m) (hfa : fa s0 s) (hQ : ∀ (s' : im_S) (n : Nat) (f : Nat → Int) (F : Nat → List Int) (lo hi : Nat → Rat), fa s0 s' → rdy s' n nb f F lo hi → Q s') : wloop (fun (K : Int × im_S → Prop) (a : Int × im_S) => W_findAll_83 K a.1 a.2 Q) (0, s) := by
  have nb80 : nb ≤ 80 := by
    have := dsm_n (c := b) (n := nb) (fun k hk => (hb.2.1 k hk).2.2.2.1)
    omega
  refine ⟨fun a => fa s0 a.2 ∧ fa s a.2 ∧ (∀ i : Nat, wga a.2 606 (i : Int) = wga s 606 (i : Int)) ∧ ∃ l : Nat, a.1 = l ∧ l ≤ nb ∧ bi a.2 nb b ∧ (0 ≤ wgf a.2 24 ∧ wgf a.2 24 ≤ 9000 + 40 * l) ∧ (0 ≤ wgf a.2 28 ∧ wgf a.2 28 ≤ 240 + l) ∧ ∃ (n : Nat) (f : Nat → Int) (F : Nat → List Int) (lo hi : Nat → Rat), rq a.2 l b n f F lo hi, fun a => (nb - a.1).toNat, ⟨hfa, fa_rfl, fun _ => rfl, 0, rfl, by first | omega | (dsimp only; omega), hb, by first | omega | (dsimp only; omega), by first | omega | (dsimp only; omega), 0, fun _ => 0, fun _ => [], fun _ => 0, fun _ => 0, ⟨by first | omega | (dsimp only; omega), fun R hR => absurd hR (Nat.not_lt_zero R)⟩, h41, h52, by first | omega | (dsimp only; omega), fun R hR => absurd hR (Nat.not_lt_zero R), fun R R' _ hR' => absurd hR' (Nat.not_lt_zero R')⟩, ?_⟩
  rintro ⟨l1, s2⟩ ⟨i1, i2, i3, l, i4, i5, i6, i7, i8, n, f, F, lo, hi, i9⟩
  dsimp only at i1 i2 i3 i4 i6 i7 i8 i9 ⊢
  subst i4
  have e6 := fa_f i2 6 (by first | decide | omega | (dsimp only; omega) | (dsimp only; decide))
  have e10 := fa_f i2 10 (by first | decide | omega | (dsimp only; omega) | (dsimp only; decide))
  have e34 : wgf s2 34 = nb := i6.1
  unfold W_findAll_83
  rw [e34]
  refine ⟨fun c => ?_, fun c => ?_⟩
  · have el : l = nb := by first | omega | (dsimp only; omega)
    rw [el] at i9
    exact ord_104 i9 i6 (by first | omega | (dsimp only; omega)) nb80 (by first | omega | (dsimp only; omega)) (fun i hi => by rw [i3]; exact h606 i hi) (fun i hi => by rw [e6] at hi; rw [fa_r i2 _ _ (by first | decide | omega | (dsimp only; omega) | (dsimp only; decide))]; exact h584 i hi) (by first | omega | (dsimp only; omega)) (mok_co (fun i _ => fa_r i2 _ _ (by first | decide | omega | (dsimp only; omega) | (dsimp only; decide))) hm) i1 (fun s' a1 a2 => hQ s' n f F lo hi a1 a2)
  · obtain ⟨p1, p2⟩ := i6.2.1 l (by first | omega | (dsimp only; omega))
    have dl : dsm b (l + 1) ≤ 80 := by
      have := dsm_mo (c := b) (n := l + 1) (m := nb - (l + 1))
      rw [show l + 1 + (nb - (l + 1)) = nb by first | omega | (dsimp only; omega)] at this
      omega
    have dl2 : dsm b (l + 1) = dsm b l + ((b l).length - 1) := rfl
    have b2 := p2.2.2.1
    have nl := i9.2.2.2.1
    refine findRoots_ok (R0 := n) (by first | omega | (dsimp only; omega)) p1 p2 (by first | omega | (dsimp only; omega)) i9.2.1 i9.2.2.1 (by first | omega | (dsimp only; omega)) (by first | omega | (dsimp only; omega)) (by first | omega | (dsimp only; omega)) (fun s3 c N k lf rf Lmin Rend g G a1 a2 a3 a4 a5 a6 a7 a8 a9 a10 a11 a12 => ?_)
    obtain ⟨f', F', lo', hi', a13⟩ := rq_step i9 a1 a3.1 a2.1 (by first | omega | (dsimp only; omega)) a4 (by first | omega | (dsimp only; omega)) p2.1 a7 a9 a10 a11
    have m1 := fro_fa a1
    refine ⟨by unfold iR; first | omega | (dsimp only; omega), ⟨fa_tr i1 m1, fa_tr i2 m1, fun i => ?_, l + 1, by first | omega | (dsimp only; omega), by first | omega | (dsimp only; omega), ⟨?_, fun j hj => ?_, i6.2.2⟩, by first | omega | (dsimp only; omega), by first | omega | (dsimp only; omega), n + k, f', F', lo', hi', a13⟩, by first | omega | (dsimp only; omega)⟩
    · rw [← i3 i]
      exact a1.2 606 (i : Int).toNat (by first | omega | (dsimp only; omega)) (by first | omega | (dsimp only; omega)) (by first | omega | (dsimp only; omega)) (by first | decide | omega | (dsimp only; omega) | (dsimp only; decide)) (by first | decide | omega | (dsimp only; omega) | (dsimp only; decide)) (by first | omega | (dsimp only; omega)) (by first | decide | omega | (dsimp only; omega) | (dsimp only; decide)) (by first | decide | omega | (dsimp only; omega) | (dsimp only; decide))
    · have : wgf s3 34 = wgf s2 34 := a1.1 582 34 (by first | omega | (dsimp only; omega))
      rw [this]; exact e34
    · have r2 : wga s3 602 (j : Int) = wga s2 602 (j : Int) := a1.2 602 (j : Int).toNat (by first | omega | (dsimp only; omega)) (by first | omega | (dsimp only; omega)) (by first | omega | (dsimp only; omega)) (by first | decide | omega | (dsimp only; omega) | (dsimp only; decide)) (by first | decide | omega | (dsimp only; omega) | (dsimp only; decide)) (by first | omega | (dsimp only; omega)) (by first | decide | omega | (dsimp only; omega) | (dsimp only; decide)) (by first | decide | omega | (dsimp only; omega) | (dsimp only; decide))
      obtain ⟨u1, u2⟩ := i6.2.1 j hj
      refine ⟨?_, u2⟩
      dsimp only
      rw [r2]
      exact fro_pol a1 a3.1 a2.1 (by first | omega | (dsimp only; omega)) u1
