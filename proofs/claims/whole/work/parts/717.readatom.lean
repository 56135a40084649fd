/-! an atom is read -/
abbrev aR : List Nat := [584, 585, 586, 589, 590, 591, 592, 593, 594, 595, 596]
abbrev aR2 : List Nat := [584, 589, 590, 591, 592, 593, 594, 595, 596]
theorem make_ok {s : im_S} {w : Int} {Q : im_S → Prop} (h : 0 ≤ wgf s 10 ∧ wgf s 10 < 500) (hQ : ∀ s' : im_S, fw [10] [586] s s' → wgf s' 10 = wgf s 10 + 1 → wga s' 586 (wgf s 10) = w → (∀ i : Int, 0 ≤ i → i ≠ wgf s 10 → wga s' 586 i = wga s 586 i) → Q s') : W_make w s Q := by
  unfold W_make
  refine ⟨h, fun s1 e1 => ?_⟩
  have x : wgf s1 10 = wgf s 10 := by rw [e1]; rfl
  refine ⟨by unfold iR; first | omega | (dsimp only; omega), fun s2 e2 => hQ s2 ?_ ?_ ?_ (fun i i0 hi => ?_)⟩
  · rw [e2, e1]; exact fw_pf (fw_pa fw_rfl (by first | decide | omega | (dsimp only; omega) | (dsimp only; decide))) (by first | decide | omega | (dsimp only; omega) | (dsimp only; decide))
  · rw [e2, wf_same, x]
  · rw [e2, wg_pf, e1, wg_same]
  · rw [e2, wg_pf, e1, wg_ne h.1 i0 hi]
theorem readAtom_ok {s : im_S} {Q : im_S → Prop} (ha : atR s) (h6 : 0 ≤ wgf s 6 ∧ wgf s 6 ≤ 10) (h10 : 0 ≤ wgf s 10 ∧ wgf s 10 < 500) (hQ : ∀ s' : im_S, fw [2, 3, 4, 6, 10, 21] aR s s' → atR s' → wgf s 4 ≤ wgf s' 4 → (∀ i : Int, 0 ≤ i → i ≠ wgf s 10 → wga s' 586 i = wga s 586 i) → (∀ i : Int, 0 ≤ i → ¬ (9 * wgf s 6 ≤ i ∧ i < 9 * wgf s 6 + 9) → wga s' 584 i = wga s 584 i) → ((wgf s' 6 = wgf s 6 ∧ wgf s' 10 = wgf s 10 ∧ wgf s' 2 ≠ 0) ∨ (wgf s 6 ≤ 9 ∧ wgf s' 6 = wgf s 6 + 1 ∧ wgf s' 10 = wgf s 10 + 1 ∧ wgf s 4 < wgf s' 4 ∧ wga s' 586 (wgf s 10) = wgf s 6 ∧ (wgf s' 2 = 0 → wgf s 2 = 0 ∧ tf s' 584 (wgf s 6)))) → Q s') : W_readAtom s Q := by
  obtain ⟨a, ea⟩ : ∃ a, wgf s 6 = a := ⟨_, rfl⟩
  have u206 : ∀ (k0 : Int) (b : im_S), fw [2, 3, 4, 21] aR2 s b → atR b → wgf s 4 < wgf b 4 → a ≤ 9 → (∀ i : Int, 0 ≤ i → ¬ (9 * a ≤ i ∧ i < 9 * a + 9) → wga b 584 i = wga s 584 i) → (wgf b 2 = 0 → wgf s 2 = 0 ∧ tf b 584 a) → W_readAtom_206 k0 b Q := fun k0 b b1 b2 b3 b4 b5 b6 => by
    have x6 : wgf b 6 = a := by rw [fw_f b1 6 (by first | decide | omega | (dsimp only; omega) | (dsimp only; decide))]; exact ea
    have x10 : wgf b 10 = wgf s 10 := fw_f b1 10 (by first | decide | omega | (dsimp only; omega) | (dsimp only; decide))
    unfold W_readAtom_206
    intro v _
    refine ⟨by first | omega | (dsimp only; omega), fun s1 e1 => ?_⟩
    have y6 : wgf s1 6 = a := by rw [e1]; exact x6
    have y10 : wgf s1 10 = wgf s 10 := by rw [e1]; exact x10
    have m1 : fw [2, 3, 4, 6, 10, 21] aR s s1 := by rw [e1]; exact fw_pa (fw_mono b1 (by simp) (by simp)) (by first | decide | omega | (dsimp only; omega) | (dsimp only; decide))
    refine make_ok (by first | omega | (dsimp only; omega)) (fun s2 c1 c2 c3 c4 => ?_)
    have z6 : wgf s2 6 = a := by rw [fw_f c1 6 (by first | decide | omega | (dsimp only; omega) | (dsimp only; decide))]; exact y6
    refine ⟨by unfold iR; first | omega | (dsimp only; omega), fun s3 e3 => ?_⟩
    have r : ∀ (c : Nat) (i : Int), c ≠ 585 → c ≠ 586 → wga s3 c i = wga b c i := fun c i h1 h2 => by rw [e3, wg_pf, fw_r c1 _ _ (by simpa using h2), e1, wg_row h1]
    have f : ∀ g : Nat, g ≠ 6 → g ≠ 10 → wgf s3 g = wgf b g := fun g h1 h2 => by rw [e3, wf_ne h1, fw_f c1 _ (by simpa using h2), e1]; rfl
    have f4 := f 4 (by first | decide | omega | (dsimp only; omega) | (dsimp only; decide)) (by first | decide | omega | (dsimp only; omega) | (dsimp only; decide))
    have f1 := f 1 (by first | decide | omega | (dsimp only; omega) | (dsimp only; decide)) (by first | decide | omega | (dsimp only; omega) | (dsimp only; decide))
    have f2 := f 2 (by first | decide | omega | (dsimp only; omega) | (dsimp only; decide)) (by first | decide | omega | (dsimp only; omega) | (dsimp only; decide))
    have w10 : wgf s3 10 = wgf s 10 + 1 := by rw [e3, wf_ne (by first | decide | omega | (dsimp only; omega) | (dsimp only; decide)), c2, y10]
    have w6 : wgf s3 6 = a + 1 := by rw [e3, wf_same, z6]
    unfold atR at b2
    refine hQ s3 (by rw [e3]; exact fw_pf (fw_tr m1 (fw_mono c1 (by simp) (by simp))) (by first | decide | omega | (dsimp only; omega) | (dsimp only; decide))) (by unfold atR; first | omega | (dsimp only; omega)) (by first | omega | (dsimp only; omega)) (fun i i0 hi => ?_) (fun i i0 hi => ?_) (Or.inr ⟨by first | omega | (dsimp only; omega), by first | omega | (dsimp only; omega), w10, by first | omega | (dsimp only; omega), ?_, fun z => ?_⟩)
    · rw [e3, wg_pf, c4 i i0 (by first | omega | (dsimp only; omega)), e1, wg_row (by first | decide | omega | (dsimp only; omega) | (dsimp only; decide)), fw_r b1 _ _ (by first | decide | omega | (dsimp only; omega) | (dsimp only; decide))]
    · rw [r 584 _ (by first | decide | omega | (dsimp only; omega) | (dsimp only; decide)) (by first | decide | omega | (dsimp only; omega) | (dsimp only; decide))]; exact b5 i i0 (by rw [ea] at hi; exact hi)
    · rw [e3, wg_pf, ← y10, c3, ea]; exact y6
    · rw [ea]
      obtain ⟨z1, z2⟩ := b6 (by first | omega | (dsimp only; omega))
      exact ⟨z1, tf_co (fun k _ _ => r 584 _ (by first | decide | omega | (dsimp only; omega) | (dsimp only; decide)) (by first | decide | omega | (dsimp only; omega) | (dsimp only; decide))) z2⟩
  have u74 : ∀ (k0 : Int) (s2 : im_S), fw [2, 3, 4, 21] sR s s2 → atR s2 → wgf s 4 ≤ wgf s2 4 → (wgf s2 2 = 0 → wgf s 2 = 0 ∧ tf s2 589 0 ∧ wgf s2 4 < wgf s2 1 ∧ wgf s2 6 ≠ 10) → W_readAtom_74 k0 s2 Q := fun k0 s2 a1 a2 a3 a4 => by
    have x6 : wgf s2 6 = a := by rw [fw_f a1 6 (by first | decide | omega | (dsimp only; omega) | (dsimp only; decide))]; exact ea
    have x10 : wgf s2 10 = wgf s 10 := fw_f a1 10 (by first | decide | omega | (dsimp only; omega) | (dsimp only; decide))
    unfold W_readAtom_74
    refine good_ok (fun g => ⟨fun _ => ?_, fun c => absurd c (by first | decide | omega | (dsimp only; omega) | (dsimp only; decide))⟩) (fun g => ⟨fun c => absurd rfl c, fun _ => hQ s2 (fw_mono a1 (by simp) (by simp)) a2 a3 (fun i _ _ => fw_r a1 _ _ (by first | decide | omega | (dsimp only; omega) | (dsimp only; decide))) (fun i _ _ => fw_r a1 _ _ (by first | decide | omega | (dsimp only; omega) | (dsimp only; decide))) (Or.inl ⟨by first | omega | (dsimp only; omega), x10, g⟩)⟩)
    obtain ⟨g0, g1, g2, g3⟩ := a4 g
    have a2' := a2
    unfold atR at a2'
    refine ⟨by unfold iR; first | omega | (dsimp only; omega), fun s3 e3 => ?_⟩
    have y4 : wgf s3 4 = wgf s2 4 + 1 := by rw [e3, wf_same]
    have y1 : wgf s3 1 = wgf s2 1 := by rw [e3, wf_ne (by first | decide | omega | (dsimp only; omega) | (dsimp only; decide))]
    have y6 : wgf s3 6 = a := by rw [e3, wf_ne (by first | decide | omega | (dsimp only; omega) | (dsimp only; decide))]; exact x6
    have m3 : fw [2, 3, 4, 21] aR2 s s3 := by rw [e3]; exact fw_pf (fw_mono a1 (fun f h => h) (by simp)) (by first | decide | omega | (dsimp only; omega) | (dsimp only; decide))
    have r3 : ∀ (c : Nat) (i : Int), wga s3 c i = wga s2 c i := fun c i => by rw [e3, wg_pf]
    refine ⟨fun b => fw [2, 3, 4, 21] aR2 s b.2 ∧ b.2.1 = s3.1 ∧ (0 ≤ b.1 ∧ b.1 ≤ 9) ∧ (∀ i : Int, wga b.2 589 i = wga s2 589 i) ∧ (∀ i : Int, 0 ≤ i → ¬ (9 * a ≤ i ∧ i < 9 * a + 9) → wga b.2 584 i = wga s 584 i) ∧ ∀ j : Int, 0 ≤ j → j < b.1 → fn9 (wga b.2 584 (9 * a + j)), fun b => (9 - b.1).toNat, ⟨m3, rfl, by first | decide | omega | (dsimp only; omega) | (dsimp only; decide), fun i => r3 _ _, fun i _ _ => by dsimp only; rw [r3, fw_r a1 _ _ (by first | decide | omega | (dsimp only; omega) | (dsimp only; decide))], fun j b1 b2 => absurd (Int.lt_of_le_of_lt b1 b2) (by first | decide | omega | (dsimp only; omega) | (dsimp only; decide))⟩, ?_⟩
    rintro ⟨lk, s4⟩ ⟨i1, i2, i3, i4, i5, i6⟩
    dsimp only at i1 i2 i3 i4 i5 i6 ⊢
    have ff : ∀ f : Nat, wgf s4 f = wgf s3 f := fun f => by unfold wgf; rw [i2]
    have f6 : wgf s4 6 = a := by rw [ff 6]; exact y6
    have f4 := ff 4
    have f1 := ff 1
    have f2 : wgf s4 2 = 0 := by rw [ff 2, e3, wf_ne (by first | decide | omega | (dsimp only; omega) | (dsimp only; decide))]; exact g
    unfold W_readAtom_99
    rw [f6]
    refine ⟨fun c9 => ?_, fun c9 => ⟨by unfold iR; first | omega | (dsimp only; omega), by first | omega | (dsimp only; omega), by first | omega | (dsimp only; omega), fun s5 e5 => ⟨by unfold iR; first | omega | (dsimp only; omega), ⟨by dsimp only; rw [e5]; exact fw_pa i1 (by first | decide | omega | (dsimp only; omega) | (dsimp only; decide)), by dsimp only; rw [e5]; exact i2, by first | omega | (dsimp only; omega), fun i => by dsimp only; rw [e5, wg_row (by first | decide | omega | (dsimp only; omega) | (dsimp only; decide))]; exact i4 i, fun i i0 hi => by dsimp only; rw [e5, wg_ne (by first | omega | (dsimp only; omega)) i0 (by first | omega | (dsimp only; omega))]; exact i5 i i0 hi, fun j b1 b2 => ?_⟩, by first | omega | (dsimp only; omega)⟩⟩⟩
    · refine readSum_ok (by unfold atR; first | omega | (dsimp only; omega)) (fun s5 b1 b2 b3 b4 => ?_)
      have m5 : fw [2, 3, 4, 21] aR2 s s5 := fw_tr i1 (fw_mono b1 (fun f h => h) (by simp))
      refine ⟨fun b => fw [2, 3, 4, 21] aR2 s b.2 ∧ atR b.2 ∧ wgf s 4 < wgf b.2 4 ∧ (0 ≤ b.1 ∧ b.1 ≤ 9) ∧ (∀ i : Int, 0 ≤ i → ¬ (9 * a ≤ i ∧ i < 9 * a + 9) → wga b.2 584 i = wga s 584 i) ∧ (∀ j : Int, b.1 ≤ j → j < 9 → fn9 (wga b.2 584 (9 * a + j))) ∧ (wgf b.2 2 = 0 → wgf s 2 = 0 ∧ tf b.2 589 0 ∧ ∀ j : Int, 0 ≤ j → j < b.1 → fn9 (wga b.2 584 (9 * a + j))), fun b => (9 - b.1).toNat, ⟨m5, b2, by first | omega | (dsimp only; omega), by first | decide | omega | (dsimp only; omega) | (dsimp only; decide), fun i i0 hi => by dsimp only; rw [fw_r b1 _ _ (by first | decide | omega | (dsimp only; omega) | (dsimp only; decide))]; exact i5 i i0 hi, fun j j0 j9 => by dsimp only; rw [fw_r b1 _ _ (by first | decide | omega | (dsimp only; omega) | (dsimp only; decide))]; exact i6 j j0 (by first | omega | (dsimp only; omega)), fun z => ⟨g0, (b4 z).2, fun j c1 c2 => absurd (Int.lt_of_le_of_lt c1 c2) (by first | decide | omega | (dsimp only; omega) | (dsimp only; decide))⟩⟩, ?_⟩
      rintro ⟨lk2, s6⟩ ⟨j1, j2, j3, j4, j5, j6, j7⟩
      dsimp only at j1 j2 j3 j4 j5 j6 j7 ⊢
      have x6' : wgf s6 6 = a := by rw [fw_f j1 6 (by first | decide | omega | (dsimp only; omega) | (dsimp only; decide))]; exact ea
      unfold W_readAtom_137
      refine ⟨fun c => u206 k0 s6 j1 j2 j3 (by first | omega | (dsimp only; omega)) j5 (fun z => ⟨(j7 z).1, fun k k0 k9 => (j7 z).2.2 k k0 (by first | omega | (dsimp only; omega))⟩), fun c => good_ok (fun gg => ⟨fun c => absurd c (by first | decide | omega | (dsimp only; omega) | (dsimp only; decide)), fun _ => ?_⟩) (fun gg => ⟨fun _ => u206 k0 s6 j1 j2 j3 (by first | omega | (dsimp only; omega)) j5 (fun z => absurd z gg), fun c => absurd rfl c⟩)⟩
      obtain ⟨z0, z1, z2⟩ := j7 gg
      rw [x6']
      have t1 := j6 lk2 (by first | omega | (dsimp only; omega)) (by first | omega | (dsimp only; omega))
      have t2 := z1 lk2 (by first | omega | (dsimp only; omega)) (by first | omega | (dsimp only; omega))
      rw [Int.mul_zero, Int.zero_add] at t2
      unfold fn9 at t1 t2
      refine ⟨by unfold iR; first | omega | (dsimp only; omega), by first | omega | (dsimp only; omega), by first | omega | (dsimp only; omega), by unfold lR; first | omega | (dsimp only; omega), by first | omega | (dsimp only; omega), fun s7 e7 => ?_⟩
      have y6' : wgf s7 6 = a := by rw [e7]; exact x6'
      rw [y6']
      refine ⟨by unfold iR; first | omega | (dsimp only; omega), by first | omega | (dsimp only; omega), ?_⟩
      have m7 : fw [2, 3, 4, 21] aR2 s s7 := by rw [e7]; exact fw_pa j1 (by first | decide | omega | (dsimp only; omega) | (dsimp only; decide))
      have h4 : wgf s7 4 = wgf s6 4 := by rw [e7]; rfl
      have h1 : wgf s7 1 = wgf s6 1 := by rw [e7]; rfl
      have h2 : wgf s7 2 = wgf s6 2 := by rw [e7]; rfl
      have j2' := j2
      unfold atR at j2'
      have nxt : ∀ s8 : im_S, fw [2, 3] [] s7 s8 → (wgf s8 2 = 0 → fn9 (wga s7 584 (9 * a + lk2))) → W_readAtom_200 (fun b => (fw [2, 3, 4, 21] aR2 s b.2 ∧ atR b.2 ∧ wgf s 4 < wgf b.2 4 ∧ (0 ≤ b.1 ∧ b.1 ≤ 9) ∧ (∀ i : Int, 0 ≤ i → ¬ (9 * a ≤ i ∧ i < 9 * a + 9) → wga b.2 584 i = wga s 584 i) ∧ (∀ j : Int, b.1 ≤ j → j < 9 → fn9 (wga b.2 584 (9 * a + j))) ∧ (wgf b.2 2 = 0 → wgf s 2 = 0 ∧ tf b.2 589 0 ∧ ∀ j : Int, 0 ≤ j → j < b.1 → fn9 (wga b.2 584 (9 * a + j)))) ∧ (9 - b.1).toNat < (9 - lk2).toNat) k0 (wgf s2 4) lk2 s8 Q := fun s8 k1 k2 => by
        have v4 := fw_f k1 4 (by first | decide | omega | (dsimp only; omega) | (dsimp only; decide))
        have v1 := fw_f k1 1 (by first | decide | omega | (dsimp only; omega) | (dsimp only; decide))
        have rr : ∀ (c : Nat) (i : Int), wga s8 c i = wga s7 c i := fun c i => fw_r k1 c i (by simp)
        unfold W_readAtom_200
        refine ⟨by unfold iR; first | omega | (dsimp only; omega), ⟨fw_tr m7 (fw_mono k1 (by simp) (by simp)), by unfold atR; first | omega | (dsimp only; omega), by first | omega | (dsimp only; omega), by first | omega | (dsimp only; omega), fun i i0 hi => ?_, fun j j0 j9 => ?_, fun z => ⟨z0, tf_co (fun k _ _ => ?_) z1, fun j q1 q2 => ?_⟩⟩, by first | omega | (dsimp only; omega)⟩
        · dsimp only
          rw [rr, e7, wg_ne (by first | omega | (dsimp only; omega)) i0 (by first | omega | (dsimp only; omega))]; exact j5 i i0 hi
        · dsimp only at j0 ⊢
          rw [rr, e7, wg_ne (by first | omega | (dsimp only; omega)) (by first | omega | (dsimp only; omega)) (by first | omega | (dsimp only; omega))]; exact j6 j (by first | omega | (dsimp only; omega)) j9
        · dsimp only
          rw [rr, e7, wg_row (by first | decide | omega | (dsimp only; omega) | (dsimp only; decide))]
        · dsimp only at q2 z ⊢
          rw [rr]
          by_cases q : j = lk2
          · rw [q]; exact k2 z
          · rw [e7, wg_ne (by first | omega | (dsimp only; omega)) (by first | omega | (dsimp only; omega)) (by first | omega | (dsimp only; omega))]
            exact z2 j q1 (by first | omega | (dsimp only; omega))
      exact isFine_ok (fun fi => ⟨fun _ => nxt s7 fw_rfl (fun _ => fi), fun c => absurd c (by first | decide | omega | (dsimp only; omega) | (dsimp only; decide))⟩) (fun fi => ⟨fun c => absurd rfl c, fun _ => fail_ok (by first | decide | omega | (dsimp only; omega) | (dsimp only; decide)) (fun s8 k1 k2 => nxt s8 k1 (fun z => absurd z k2))⟩)
    · dsimp only at b2 ⊢
      rw [e5]
      by_cases q : j = lk
      · rw [q, wg_same, i4]
        have := g1 lk (by first | omega | (dsimp only; omega)) (by first | omega | (dsimp only; omega))
        rw [Int.mul_zero, Int.zero_add] at this
        exact this
      · rw [wg_ne (by first | omega | (dsimp only; omega)) (by first | omega | (dsimp only; omega)) (by first | omega | (dsimp only; omega))]
        exact i6 j b1 (by first | omega | (dsimp only; omega))
  have u49 : ∀ (k0 : Int) (s2 : im_S), fw [2, 3, 4, 21] sR s s2 → atR s2 → wgf s 4 ≤ wgf s2 4 → (wgf s2 2 = 0 → wgf s 2 = 0 ∧ tf s2 589 0 ∧ wgf s2 4 < wgf s2 1) → W_readAtom_49 k0 s2 Q := fun k0 s2 a1 a2 a3 a4 => by
    unfold W_readAtom_49
    refine good_ok (fun g => ⟨fun c => absurd c (by first | decide | omega | (dsimp only; omega) | (dsimp only; decide)), fun _ => ⟨fun c => u74 k0 s2 a1 a2 a3 (fun z => ⟨(a4 z).1, (a4 z).2.1, (a4 z).2.2, c⟩), fun _ => fail_ok (by first | decide | omega | (dsimp only; omega) | (dsimp only; decide)) (fun s3 b1 b2 => ?_)⟩⟩) (fun g => ⟨fun _ => u74 k0 s2 a1 a2 a3 (fun z => absurd z g), fun c => absurd rfl c⟩)
    have v4 := fw_f b1 4 (by first | decide | omega | (dsimp only; omega) | (dsimp only; decide))
    have v1 := fw_f b1 1 (by first | decide | omega | (dsimp only; omega) | (dsimp only; decide))
    unfold atR at a2
    exact u74 k0 s3 (fw_tr a1 (fw_mono b1 (by simp) (by simp))) (by unfold atR; first | omega | (dsimp only; omega)) (by first | omega | (dsimp only; omega)) (fun z => absurd z b2)
  have u19 : ∀ (k0 : Int) (s2 : im_S), fw [2, 3, 4, 21] sR s s2 → atR s2 → wgf s 4 ≤ wgf s2 4 → (wgf s2 2 = 0 → wgf s 2 = 0 ∧ tf s2 589 0 ∧ (k0 ≠ -1 → wgf s2 4 < wgf s2 1)) → W_readAtom_19 k0 s2 Q := fun k0 s2 a1 a2 a3 a4 => by
    unfold W_readAtom_19
    refine good_ok (fun g => ⟨fun c => absurd c (by first | decide | omega | (dsimp only; omega) | (dsimp only; decide)), fun _ => ?_⟩) (fun g => ⟨fun _ => u49 k0 s2 a1 a2 a3 (fun z => absurd z g), fun c => absurd rfl c⟩)
    have ok : k0 ≠ -1 → W_readAtom_49 k0 s2 Q := fun h => u49 k0 s2 a1 a2 a3 (fun z => ⟨(a4 z).1, (a4 z).2.1, (a4 z).2.2 h⟩)
    refine ⟨fun h => ok (by first | omega | (dsimp only; omega)), fun _ => ⟨fun h => ok (by first | omega | (dsimp only; omega)), fun _ => ⟨fun h => ok (by first | omega | (dsimp only; omega)), fun _ => cannot_ok a2 (fun s3 b1 b2 b3 b4 => u49 k0 s3 (fw_tr a1 (fw_mono b1 (by simp) (by simp))) b2 (by first | omega | (dsimp only; omega)) (fun z => absurd z b4))⟩⟩⟩
  unfold W_readAtom
  refine readSum_ok ha (fun s1 a1 a2 a3 a4 => good_ok (fun g => ⟨fun c => absurd c (by first | decide | omega | (dsimp only; omega) | (dsimp only; decide)), fun _ => peek_ok a2 (fun v s2 b1 b2 b3 b4 => ?_)⟩) (fun g => ⟨fun _ => u19 (-1) s1 a1 a2 a3 (fun z => absurd z g), fun c => absurd rfl c⟩))
  have v2 := fw_f b1 2 (by first | decide | omega | (dsimp only; omega) | (dsimp only; decide))
  exact u19 v s2 (fw_tr a1 (fw_mono b1 (by simp) (by simp))) b2 (by first | omega | (dsimp only; omega)) (fun z => ⟨(a4 (by first | omega | (dsimp only; omega))).1, tf_co (fun k _ _ => fw_r b1 _ _ (by first | decide | omega | (dsimp only; omega) | (dsimp only; decide))) (a4 (by first | omega | (dsimp only; omega))).2, fun h => (b4 h).1⟩)
