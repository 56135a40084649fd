/-! powers, and what ends a base or a term -/
theorem raise_ok {s : im_S} {n w d : Int} {Q : im_S → Prop} (hn : 0 ≤ n ∧ n ≤ 999999) (hd : wgf s 21 = d) (d0 : 0 ≤ d ∧ d ≤ 10) (h2 : tf s 591 d) (hQ : ∀ s' : im_S, fw [2, 3] [590, 591, 592, 596] s s' → (∀ i : Int, 0 ≤ i → wga s' 590 i = wga s 590 i) → (wgf s' 2 = 0 → wgf s 2 = 0 ∧ tf s' 591 d) → Q s') : W_raise n w s Q := by
  unfold W_raise
  rw [hd]
  refine ⟨by unfold iR; first | omega | (dsimp only; omega), ?_⟩
  refine ⟨fun a => a.2.2 = s ∧ (1 ≤ a.2.1 ∧ a.2.1 ≤ 9), fun a => (9 - a.2.1).toNat, ⟨rfl, by first | decide | omega | (dsimp only; omega) | (dsimp only; decide), by first | decide | omega | (dsimp only; omega) | (dsimp only; decide)⟩, ?_⟩
  rintro ⟨l4, l5, s2⟩ ⟨i1, i2⟩
  dsimp only at i1 i2 ⊢
  subst i1
  unfold W_raise_14
  refine ⟨fun c => ⟨fun _ => by first | omega | (dsimp only; omega), fun _ _ => by first | omega | (dsimp only; omega), fun v hv => ⟨fun _ _ => ?_, fun t ht => ?_⟩⟩, fun c => ⟨fun _ => by first | omega | (dsimp only; omega), fun v _ => ⟨by unfold iR; first | omega | (dsimp only; omega), ⟨rfl, by first | omega | (dsimp only; omega)⟩, by first | omega | (dsimp only; omega)⟩⟩⟩
  · have b1 := Int.tmod_lt_of_pos n (show (0 : Int) < 2 by first | decide | omega | (dsimp only; omega) | (dsimp only; decide))
    have b2 := Int.lt_tmod_of_pos n (show (0 : Int) < 2 by first | decide | omega | (dsimp only; omega) | (dsimp only; decide))
    unfold iR
    omega
  have t1 : 0 ≤ t ∧ t ≤ 999999 := by
    have b1 := Int.tmod_lt_of_pos n (show (0 : Int) < 2 by first | decide | omega | (dsimp only; omega) | (dsimp only; decide))
    have b2 := Int.lt_tmod_of_pos n (show (0 : Int) < 2 by first | decide | omega | (dsimp only; omega) | (dsimp only; decide))
    rw [ht]
    split
    · omega
    · split <;> omega
  refine ⟨fun a => fw [2, 3] [590, 591, 592, 596] s2 a.2 ∧ wgf a.2 2 = wgf s2 2 ∧ (0 ≤ a.1 ∧ a.1 ≤ 9) ∧ (∀ i : Int, 0 ≤ i → wga a.2 591 i = wga s2 591 i) ∧ (∀ i : Int, 0 ≤ i → ¬ (9 * d ≤ i ∧ i < 9 * d + a.1) → wga a.2 590 i = wga s2 590 i) ∧ ∀ j : Int, 0 ≤ j → j < a.1 → wga a.2 596 j = wga s2 590 (9 * d + j) ∧ fn9 (wga a.2 590 (9 * d + j)), fun a => (9 - a.1).toNat, ⟨fw_rfl, rfl, by first | decide | omega | (dsimp only; omega) | (dsimp only; decide), fun _ _ => rfl, fun _ _ _ => rfl, fun j a1 a2 => absurd (Int.lt_of_le_of_lt a1 a2) (by first | decide | omega | (dsimp only; omega) | (dsimp only; decide))⟩, ?_⟩
  rintro ⟨lk, s3⟩ ⟨j1, j2, j3, j4, j5, j6⟩
  dsimp only at j1 j2 j3 j4 j5 j6 ⊢
  unfold W_raise_113
  refine ⟨fun c9 => ?_, fun c9 => ⟨by first | omega | (dsimp only; omega), by first | omega | (dsimp only; omega), fun s4 e4 => ⟨by unfold iR; first | omega | (dsimp only; omega), fun v hv => ⟨by first | omega | (dsimp only; omega), fun s5 e5 => ⟨by unfold iR; first | omega | (dsimp only; omega), ⟨by dsimp only; rw [e5, e4]; exact fw_pa (fw_pa j1 (by first | decide | omega | (dsimp only; omega) | (dsimp only; decide))) (by first | decide | omega | (dsimp only; omega) | (dsimp only; decide)), by dsimp only; rw [e5, e4]; exact j2, by first | omega | (dsimp only; omega), fun i i0 => by dsimp only; rw [e5, e4, wg_row (by first | decide | omega | (dsimp only; omega) | (dsimp only; decide)), wg_row (by first | decide | omega | (dsimp only; omega) | (dsimp only; decide))]; exact j4 i i0, fun i i0 hi => ?_, fun j a1 a2 => ?_⟩, by first | omega | (dsimp only; omega)⟩⟩⟩⟩⟩
  · refine ⟨fun a => fw [2, 3] [590, 591, 592, 596] s2 a.2 ∧ (wgf a.2 2 = 0 → wgf s2 2 = 0 ∧ tf a.2 590 d) ∧ (0 ≤ a.1 ∧ a.1 ≤ 999999) ∧ (∀ i : Int, 0 ≤ i → wga a.2 591 i = wga s2 591 i) ∧ (∀ i : Int, 0 ≤ i → ¬ (9 * d ≤ i ∧ i < 9 * d + 9) → wga a.2 590 i = wga s2 590 i) ∧ ∀ j : Int, 0 ≤ j → j < 9 → wga a.2 596 j = wga s2 590 (9 * d + j), fun a => (999999 - a.1).toNat, ⟨j1, fun z => ⟨by dsimp only at z; omega, fun k k0 k9 => (j6 k k0 (by first | omega | (dsimp only; omega))).2⟩, by first | decide | omega | (dsimp only; omega) | (dsimp only; decide), j4, fun i i0 hi => j5 i i0 (by first | omega | (dsimp only; omega)), fun j a1 a2 => (j6 j a1 (by first | omega | (dsimp only; omega))).1⟩, ?_⟩
    rintro ⟨lm, s4⟩ ⟨k1, k2, k3, k4, k5, k6⟩
    dsimp only at k1 k2 k3 k4 k5 k6 ⊢
    have e21 : wgf s4 21 = d := by rw [fw_f k1 21 (by first | decide | omega | (dsimp only; omega) | (dsimp only; decide))]; exact hd
    have fin : W_raise_189 (9 * d) s4 Q := by
      unfold W_raise_189
      refine ⟨fun a => fw [2, 3] [590, 591, 592, 596] s2 a.2 ∧ wgf a.2 2 = wgf s4 2 ∧ (0 ≤ a.1 ∧ a.1 ≤ 9) ∧ (∀ j : Int, 0 ≤ j → wga a.2 596 j = wga s4 596 j) ∧ (∀ i : Int, 0 ≤ i → ¬ (9 * d ≤ i ∧ i < 9 * d + a.1) → wga a.2 590 i = wga s4 590 i) ∧ ∀ j : Int, 0 ≤ j → j < a.1 → wga a.2 591 (9 * d + j) = wga s4 590 (9 * d + j) ∧ wga a.2 590 (9 * d + j) = wga s4 596 j, fun a => (9 - a.1).toNat, ⟨k1, rfl, by first | decide | omega | (dsimp only; omega) | (dsimp only; decide), fun _ _ => rfl, fun _ _ _ => rfl, fun j a1 a2 => absurd (Int.lt_of_le_of_lt a1 a2) (by first | decide | omega | (dsimp only; omega) | (dsimp only; decide))⟩, ?_⟩
      rintro ⟨lp, s5⟩ ⟨m1, m2, m3, m4, m5, m6⟩
      dsimp only at m1 m2 m3 m4 m5 m6 ⊢
      unfold W_raise_192
      refine ⟨fun c => hQ s5 m1 (fun i i0 => ?_) (fun z => ⟨(k2 (by first | omega | (dsimp only; omega))).1, fun k k0 k9 => ?_⟩), fun c => ⟨by first | omega | (dsimp only; omega), by first | omega | (dsimp only; omega), fun s6 e6 => ⟨by first | omega | (dsimp only; omega), by first | omega | (dsimp only; omega), fun s7 e7 => ⟨by unfold iR; first | omega | (dsimp only; omega), ⟨by dsimp only; rw [e7, e6]; exact fw_pa (fw_pa m1 (by first | decide | omega | (dsimp only; omega) | (dsimp only; decide))) (by first | decide | omega | (dsimp only; omega) | (dsimp only; decide)), by dsimp only; rw [e7, e6]; exact m2, by first | omega | (dsimp only; omega), fun j j0 => by dsimp only; rw [e7, e6, wg_row (by first | decide | omega | (dsimp only; omega) | (dsimp only; decide)), wg_row (by first | decide | omega | (dsimp only; omega) | (dsimp only; decide))]; exact m4 j j0, fun i i0 hi => ?_, fun j a1 a2 => ?_⟩, by first | omega | (dsimp only; omega)⟩⟩⟩⟩
      · by_cases q : 9 * d ≤ i ∧ i < 9 * d + 9
        · have := (m6 (i - 9 * d) (by first | omega | (dsimp only; omega)) (by first | omega | (dsimp only; omega))).2
          rw [show 9 * d + (i - 9 * d) = i by first | omega | (dsimp only; omega)] at this
          rw [this, k6 (i - 9 * d) (by first | omega | (dsimp only; omega)) (by first | omega | (dsimp only; omega)), show 9 * d + (i - 9 * d) = i by first | omega | (dsimp only; omega)]
        · rw [m5 i i0 (by first | omega | (dsimp only; omega))]
          exact k5 i i0 q
      · rw [(m6 k k0 (by first | omega | (dsimp only; omega))).1]
        exact (k2 (by first | omega | (dsimp only; omega))).2 k k0 k9
      · dsimp only at hi ⊢
        rw [e7, wg_ne (by first | omega | (dsimp only; omega)) i0 (by first | omega | (dsimp only; omega)), e6, wg_row (by first | decide | omega | (dsimp only; omega) | (dsimp only; decide))]
        exact m5 i i0 (by first | omega | (dsimp only; omega))
      · dsimp only at a2 ⊢
        by_cases q : j = lp
        · rw [q]
          refine ⟨?_, ?_⟩
          · rw [e7, wg_row (by first | decide | omega | (dsimp only; omega) | (dsimp only; decide)), e6, wg_same]
            exact m5 _ (by first | omega | (dsimp only; omega)) (by first | omega | (dsimp only; omega))
          · rw [e7, wg_same, e6, wg_row (by first | decide | omega | (dsimp only; omega) | (dsimp only; decide))]
            exact m4 lp (by first | omega | (dsimp only; omega))
        · refine ⟨?_, ?_⟩
          · rw [e7, wg_row (by first | decide | omega | (dsimp only; omega) | (dsimp only; decide)), e6, wg_ne (by first | omega | (dsimp only; omega)) (by first | omega | (dsimp only; omega)) (by first | omega | (dsimp only; omega))]
            exact (m6 j a1 (by first | omega | (dsimp only; omega))).1
          · rw [e7, wg_ne (by first | omega | (dsimp only; omega)) (by first | omega | (dsimp only; omega)) (by first | omega | (dsimp only; omega)), e6, wg_row (by first | decide | omega | (dsimp only; omega) | (dsimp only; decide))]
            exact (m6 j a1 (by first | omega | (dsimp only; omega))).2
    unfold W_raise_164
    refine ⟨fun _ => fin, fun c => good_ok (fun g => ⟨fun c => absurd c (by first | decide | omega | (dsimp only; omega) | (dsimp only; decide)), fun _ => ?_⟩) (fun g => ⟨fun _ => fin, fun c => absurd rfl c⟩)⟩
    refine multiply_ok e21 d0 (k2 g).2 (fun k k0 k9 => by rw [k4 _ (by first | omega | (dsimp only; omega))]; exact h2 k k0 k9) (fun s5 b1 b2 b3 => ⟨by unfold iR; first | omega | (dsimp only; omega), ⟨fw_tr k1 (fw_mono b1 (fun f h => h) (by simp)), fun z => ⟨(k2 (b3 z).1).1, (b3 z).2⟩, by first | omega | (dsimp only; omega), fun i i0 => ?_, fun i i0 hi => ?_, fun j j0 j9 => ?_⟩, by first | omega | (dsimp only; omega)⟩)
    · dsimp only
      rw [fw_r b1 _ _ (by first | decide | omega | (dsimp only; omega) | (dsimp only; decide))]; exact k4 i i0
    · dsimp only
      rw [b2 i i0 hi]; exact k5 i i0 hi
    · dsimp only
      rw [fw_r b1 _ _ (by first | decide | omega | (dsimp only; omega) | (dsimp only; decide))]; exact k6 j j0 j9
  · dsimp only at hi ⊢
    rw [e5, wg_ne (by first | omega | (dsimp only; omega)) i0 (by first | omega | (dsimp only; omega)), e4, wg_row (by first | decide | omega | (dsimp only; omega) | (dsimp only; decide))]
    exact j5 i i0 (by first | omega | (dsimp only; omega))
  · dsimp only at a2 ⊢
    by_cases q : j = lk
    · rw [q]
      refine ⟨?_, ?_⟩
      · rw [e5, wg_row (by first | decide | omega | (dsimp only; omega) | (dsimp only; decide)), e4, wg_same]
        exact j5 _ (by first | omega | (dsimp only; omega)) (by first | omega | (dsimp only; omega))
      · rw [e5, wg_same, hv]
        unfold fn9
        split <;> omega
    · refine ⟨?_, ?_⟩
      · rw [e5, wg_row (by first | decide | omega | (dsimp only; omega) | (dsimp only; decide)), e4, wg_ne (by first | omega | (dsimp only; omega)) (by first | omega | (dsimp only; omega)) (by first | omega | (dsimp only; omega))]
        exact (j6 j a1 (by first | omega | (dsimp only; omega))).1
      · rw [e5, wg_ne (by first | omega | (dsimp only; omega)) (by first | omega | (dsimp only; omega)) (by first | omega | (dsimp only; omega)), e4, wg_row (by first | decide | omega | (dsimp only; omega) | (dsimp only; decide))]
        exact (j6 j a1 (by first | omega | (dsimp only; omega))).2
theorem beginSum_ok {s : im_S} {d : Int} {Q : im_S → Prop} (ha : atR s) (hd : wgf s 21 = d) (d0 : 0 ≤ d ∧ d ≤ 10) (hQ : ∀ s' : im_S, fw [4] [589, 593, 594, 595] s s' → atR s' → wgf s 4 ≤ wgf s' 4 → (∀ i : Int, 0 ≤ i → ¬ (9 * d ≤ i ∧ i < 9 * d + 9) → wga s' 589 i = wga s 589 i) → (∀ i : Int, 0 ≤ i → i ≠ d → wga s' 593 i = wga s 593 i ∧ wga s' 595 i = wga s 595 i) → tf s' 589 d → (wga s' 593 d = 1 ∨ wga s' 593 d = -1) → wga s' 595 d = -1 → Q s') : W_beginSum s Q := by
  unfold W_beginSum
  refine ⟨fun a => fw [4] [589] s a.2 ∧ wgf a.2 4 = wgf s 4 ∧ (0 ≤ a.1 ∧ a.1 ≤ 9) ∧ (∀ i : Int, 0 ≤ i → ¬ (9 * d ≤ i ∧ i < 9 * d + 9) → wga a.2 589 i = wga s 589 i) ∧ ∀ j : Int, 0 ≤ j → j < a.1 → wga a.2 589 (9 * d + j) = 0, fun a => (9 - a.1).toNat, ⟨fw_rfl, rfl, by first | decide | omega | (dsimp only; omega) | (dsimp only; decide), fun _ _ _ => rfl, fun j a1 a2 => absurd (Int.lt_of_le_of_lt a1 a2) (by first | decide | omega | (dsimp only; omega) | (dsimp only; decide))⟩, ?_⟩
  rintro ⟨lk, s2⟩ ⟨i1, i2, i3, i4, i5⟩
  dsimp only at i1 i2 i3 i4 i5 ⊢
  have e21 : wgf s2 21 = d := by rw [fw_f i1 21 (by first | decide | omega | (dsimp only; omega) | (dsimp only; decide))]; exact hd
  have e1 := fw_f i1 1 (by first | decide | omega | (dsimp only; omega) | (dsimp only; decide))
  unfold atR at ha
  unfold W_beginSum_2 W_beginSum_88
  rw [e21]
  refine ⟨fun c => ⟨by first | omega | (dsimp only; omega), fun s3 e3 => ?_⟩, fun c => ⟨by unfold iR; first | omega | (dsimp only; omega), by first | omega | (dsimp only; omega), fun s3 e3 => ⟨by unfold iR; first | omega | (dsimp only; omega), ⟨by dsimp only; rw [e3]; exact fw_pa i1 (by first | decide | omega | (dsimp only; omega) | (dsimp only; decide)), by dsimp only; rw [e3]; exact i2, by first | omega | (dsimp only; omega), fun i i0 hi => by dsimp only; rw [e3, wg_ne (by first | omega | (dsimp only; omega)) i0 (by first | omega | (dsimp only; omega))]; exact i4 i i0 hi, fun j a1 a2 => ?_⟩, by first | omega | (dsimp only; omega)⟩⟩⟩
  · have x21 : wgf s3 21 = d := by rw [e3]; exact e21
    rw [x21]
    refine ⟨by first | omega | (dsimp only; omega), fun s4 e4 => ?_⟩
    have y21 : wgf s4 21 = d := by rw [e4]; exact x21
    rw [y21]
    refine ⟨by first | omega | (dsimp only; omega), fun s5 e5 => ?_⟩
    have f5 : fw [4] [589, 593, 594, 595] s s5 := by
      rw [e5, e4, e3]
      exact fw_pa (fw_pa (fw_pa (fw_mono i1 (fun f h => h) (by simp)) (by first | decide | omega | (dsimp only; omega) | (dsimp only; decide))) (by first | decide | omega | (dsimp only; omega) | (dsimp only; decide))) (by first | decide | omega | (dsimp only; omega) | (dsimp only; decide))
    have z4 : wgf s5 4 = wgf s 4 := by rw [e5, e4, e3]; exact i2
    have z1 : wgf s5 1 = wgf s 1 := by rw [e5, e4, e3]; exact e1
    have z21 : wgf s5 21 = d := by rw [e5]; exact y21
    have r589 : ∀ i : Int, wga s5 589 i = wga s2 589 i := fun i => by rw [e5, wg_row (by first | decide | omega | (dsimp only; omega) | (dsimp only; decide)), e4, wg_row (by first | decide | omega | (dsimp only; omega) | (dsimp only; decide)), e3, wg_row (by first | decide | omega | (dsimp only; omega) | (dsimp only; decide))]
    have r593 : ∀ i : Int, 0 ≤ i → i ≠ d → wga s5 593 i = wga s 593 i := fun i i0 hi => by rw [e5, wg_row (by first | decide | omega | (dsimp only; omega) | (dsimp only; decide)), e4, wg_row (by first | decide | omega | (dsimp only; omega) | (dsimp only; decide)), e3, wg_ne (by first | omega | (dsimp only; omega)) i0 hi]; exact fw_r i1 _ _ (by first | decide | omega | (dsimp only; omega) | (dsimp only; decide))
    have v593 : wga s5 593 d = 1 := by rw [e5, wg_row (by first | decide | omega | (dsimp only; omega) | (dsimp only; decide)), e4, wg_row (by first | decide | omega | (dsimp only; omega) | (dsimp only; decide)), e3, wg_same]
    have r595 : ∀ i : Int, 0 ≤ i → i ≠ d → wga s5 595 i = wga s 595 i := fun i i0 hi => by rw [e5, wg_ne (by first | omega | (dsimp only; omega)) i0 hi, e4, wg_row (by first | decide | omega | (dsimp only; omega) | (dsimp only; decide)), e3, wg_row (by first | decide | omega | (dsimp only; omega) | (dsimp only; decide))]; exact fw_r i1 _ _ (by first | decide | omega | (dsimp only; omega) | (dsimp only; decide))
    have v595 : wga s5 595 d = -1 := by rw [e5, wg_same]
    refine peek_ok (by unfold atR; first | omega | (dsimp only; omega)) (fun v s6 a1 a2 a3 a4 => ?_)
    have f6 : fw [4] [589, 593, 594, 595] s s6 := fw_tr f5 (fw_mono a1 (fun f h => h) (by simp))
    have w21 : wgf s6 21 = d := by rw [fw_f a1 21 (by first | decide | omega | (dsimp only; omega) | (dsimp only; decide))]; exact z21
    have tf6 : tf s6 589 d := fun k k0 k9 => by rw [fw_r a1 _ _ (by first | decide | omega | (dsimp only; omega) | (dsimp only; decide)), r589, i5 k k0 (by first | omega | (dsimp only; omega))]; unfold fn9; omega
    have o589 : ∀ i : Int, 0 ≤ i → ¬ (9 * d ≤ i ∧ i < 9 * d + 9) → wga s6 589 i = wga s 589 i := fun i i0 hi => by rw [fw_r a1 _ _ (by first | decide | omega | (dsimp only; omega) | (dsimp only; decide)), r589]; exact i4 i i0 hi
    have o593 : ∀ i : Int, 0 ≤ i → i ≠ d → wga s6 593 i = wga s 593 i ∧ wga s6 595 i = wga s 595 i := fun i i0 hi => by rw [fw_r a1 _ _ (by first | decide | omega | (dsimp only; omega) | (dsimp only; decide)), fw_r a1 _ _ (by first | decide | omega | (dsimp only; omega) | (dsimp only; decide))]; exact ⟨r593 i i0 hi, r595 i i0 hi⟩
    have p593 : wga s6 593 d = 1 := by rw [fw_r a1 _ _ (by first | decide | omega | (dsimp only; omega) | (dsimp only; decide))]; exact v593
    have p595 : wga s6 595 d = -1 := by rw [fw_r a1 _ _ (by first | decide | omega | (dsimp only; omega) | (dsimp only; decide))]; exact v595
    rw [w21]
    refine ⟨fun _ => hQ s6 f6 a2 (by first | omega | (dsimp only; omega)) o589 o593 tf6 (Or.inl p593) p595, fun c45 => ⟨by first | omega | (dsimp only; omega), fun s7 e7 => ?_⟩⟩
    have m4 := (a4 (by first | omega | (dsimp only; omega))).1
    have a2' := a2
    unfold atR at a2'
    have q4 : wgf s7 4 = wgf s6 4 := by rw [e7]; rfl
    refine ⟨by unfold iR; first | omega | (dsimp only; omega), fun s8 e8 => ?_⟩
    have u4 : wgf s8 4 = wgf s6 4 + 1 := by rw [e8, wf_same, q4]
    have u1 : wgf s8 1 = wgf s6 1 := by rw [e8, wf_ne (by first | decide | omega | (dsimp only; omega) | (dsimp only; decide)), e7]; rfl
    refine hQ s8 (by rw [e8, e7]; exact fw_mono (fw_pf (fw_pa f6 (by first | decide | omega | (dsimp only; omega) | (dsimp only; decide))) (by first | decide | omega | (dsimp only; omega) | (dsimp only; decide))) (fun f h => h) (fun c h => h)) (by unfold atR; first | omega | (dsimp only; omega)) (by first | omega | (dsimp only; omega)) (fun i i0 hi => ?_) (fun i i0 hi => ?_) (fun k k0 k9 => ?_) (Or.inr ?_) ?_
    · rw [e8, wg_pf, e7, wg_row (by first | decide | omega | (dsimp only; omega) | (dsimp only; decide))]; exact o589 i i0 hi
    · rw [e8, wg_pf, wg_pf, e7, wg_ne (by first | omega | (dsimp only; omega)) i0 hi, wg_row (by first | decide | omega | (dsimp only; omega) | (dsimp only; decide))]; exact o593 i i0 hi
    · rw [e8, wg_pf, e7, wg_row (by first | decide | omega | (dsimp only; omega) | (dsimp only; decide))]; exact tf6 k k0 k9
    · rw [e8, wg_pf, e7, wg_same]
    · rw [e8, wg_pf, e7, wg_row (by first | decide | omega | (dsimp only; omega) | (dsimp only; decide))]; exact p595
  · dsimp only at a2 ⊢
    rw [e3]
    by_cases q : j = lk
    · rw [q, wg_same]
    · rw [wg_ne (by first | omega | (dsimp only; omega)) (by first | omega | (dsimp only; omega)) (by first | omega | (dsimp only; omega))]
      exact i5 j a1 (by first | omega | (dsimp only; omega))
theorem endBase_74 {s : im_S} {d : Int} {Q : im_S → Prop} (hd : wgf s 21 = d) (d0 : 0 ≤ d ∧ d ≤ 10) (h : wgf s 2 = 0 → tf s 591 d ∧ (0 ≤ wga s 595 d → tf s 590 d)) (hQ : ∀ s' : im_S, fw [2, 3] [590, 592] s s' → (∀ i : Int, 0 ≤ i → ¬ (9 * d ≤ i ∧ i < 9 * d + 9) → wga s' 590 i = wga s 590 i) → (wgf s' 2 = 0 → wgf s 2 = 0 ∧ tf s' 590 d) → Q s') : W_endBase_74 s Q := by
  unfold W_endBase_74 W_endBase_152
  refine good_ok (fun g => ⟨fun _ => ⟨by first | omega | (dsimp only; omega), fun c => ⟨by first | omega | (dsimp only; omega), multiply_ok hd d0 ((h g).2 (by rw [hd] at c; exact c)) (h g).1 hQ⟩, fun c => ?_⟩, fun c => absurd c (by first | decide | omega | (dsimp only; omega) | (dsimp only; decide))⟩) (fun g => ⟨fun c => absurd rfl c, fun _ => hQ s fw_rfl (fun _ _ _ => rfl) (fun z => absurd z g)⟩)
  refine ⟨fun a => fw [2, 3] [590, 592] s a.2 ∧ wgf a.2 2 = wgf s 2 ∧ (0 ≤ a.1 ∧ a.1 ≤ 9) ∧ (∀ i : Int, 0 ≤ i → ¬ (9 * d ≤ i ∧ i < 9 * d + 9) → wga a.2 590 i = wga s 590 i) ∧ ∀ j : Int, 0 ≤ j → j < a.1 → fn9 (wga a.2 590 (9 * d + j)), fun a => (9 - a.1).toNat, ⟨fw_rfl, rfl, by first | decide | omega | (dsimp only; omega) | (dsimp only; decide), fun _ _ _ => rfl, fun j a1 a2 => absurd (Int.lt_of_le_of_lt a1 a2) (by first | decide | omega | (dsimp only; omega) | (dsimp only; decide))⟩, ?_⟩
  rintro ⟨lk, s2⟩ ⟨i1, i2, i3, i4, i5⟩
  dsimp only at i1 i2 i3 i4 i5 ⊢
  have e21 : wgf s2 21 = d := by rw [fw_f i1 21 (by first | decide | omega | (dsimp only; omega) | (dsimp only; decide))]; exact hd
  unfold W_endBase_96 W_endBase_152
  rw [e21]
  refine ⟨fun c => hQ s2 i1 i4 (fun z => ⟨by first | omega | (dsimp only; omega), fun k k0 k9 => i5 k k0 (by first | omega | (dsimp only; omega))⟩), fun c => ⟨by unfold iR; first | omega | (dsimp only; omega), by first | omega | (dsimp only; omega), by first | omega | (dsimp only; omega), fun s3 e3 => ⟨by unfold iR; first | omega | (dsimp only; omega), ⟨by dsimp only; rw [e3]; exact fw_pa i1 (by first | decide | omega | (dsimp only; omega) | (dsimp only; decide)), by dsimp only; rw [e3]; exact i2, by first | omega | (dsimp only; omega), fun i i0 hi => by dsimp only; rw [e3, wg_ne (by first | omega | (dsimp only; omega)) i0 (by first | omega | (dsimp only; omega))]; exact i4 i i0 hi, fun j a1 a2 => ?_⟩, by first | omega | (dsimp only; omega)⟩⟩⟩
  dsimp only at a2 ⊢
  rw [e3]
  by_cases q : j = lk
  · rw [q, wg_same, fw_r i1 _ _ (by first | decide | omega | (dsimp only; omega) | (dsimp only; decide))]
    exact (h g).1 lk (by first | omega | (dsimp only; omega)) (by first | omega | (dsimp only; omega))
  · rw [wg_ne (by first | omega | (dsimp only; omega)) (by first | omega | (dsimp only; omega)) (by first | omega | (dsimp only; omega))]
    exact i5 j a1 (by first | omega | (dsimp only; omega))
theorem endBase_ok {s : im_S} {d : Int} {Q : im_S → Prop} (ha : atR s) (hd : wgf s 21 = d) (d0 : 0 ≤ d ∧ d ≤ 10) (h : wgf s 2 = 0 → tf s 591 d ∧ (0 ≤ wga s 595 d → tf s 590 d)) (hQ : ∀ s' : im_S, fw [2, 3, 4] [590, 591, 592, 596] s s' → atR s' → wgf s 4 ≤ wgf s' 4 → (∀ i : Int, 0 ≤ i → ¬ (9 * d ≤ i ∧ i < 9 * d + 9) → wga s' 590 i = wga s 590 i) → (wgf s' 2 = 0 → wgf s 2 = 0 ∧ tf s' 590 d) → Q s') : W_endBase s Q := by
  have fin : ∀ s1 : im_S, fw [2, 3, 4] [590, 591, 592, 596] s s1 → atR s1 → wgf s 4 ≤ wgf s1 4 → (∀ i : Int, 0 ≤ i → wga s1 590 i = wga s 590 i) → (wgf s1 2 = 0 → wgf s 2 = 0 ∧ tf s1 591 d) → W_endBase_74 s1 Q := fun s1 a1 a2 a3 a4 a5 => by
    have e21 : wgf s1 21 = d := by rw [fw_f a1 21 (by first | decide | omega | (dsimp only; omega) | (dsimp only; decide))]; exact hd
    refine endBase_74 e21 d0 (fun z => ⟨(a5 z).2, fun c k k0 k9 => ?_⟩) (fun s2 b1 b2 b3 => ?_)
    · rw [a4 _ (by first | omega | (dsimp only; omega))]
      rw [fw_r a1 _ _ (by first | decide | omega | (dsimp only; omega) | (dsimp only; decide))] at c
      exact (h (a5 z).1).2 c k k0 k9
    · have x4 := fw_f b1 4 (by first | decide | omega | (dsimp only; omega) | (dsimp only; decide))
      have x1 := fw_f b1 1 (by first | decide | omega | (dsimp only; omega) | (dsimp only; decide))
      unfold atR at a2
      exact hQ s2 (fw_tr a1 (fw_mono b1 (by simp) (by simp))) (by unfold atR; first | omega | (dsimp only; omega)) (by first | omega | (dsimp only; omega)) (fun i i0 hi => by rw [b2 i i0 hi]; exact a4 i i0) (fun z => ⟨(a5 (b3 z).1).1, (b3 z).2⟩)
  have tfr : ∀ s1 : im_S, fw [2, 3, 4] [] s s1 → (wgf s1 2 = 0 → wgf s 2 = 0) → wgf s1 2 = 0 → wgf s 2 = 0 ∧ tf s1 591 d := fun s1 a1 a2 z => ⟨a2 z, fun k k0 k9 => by rw [fw_r a1 _ _ (by first | decide | omega | (dsimp only; omega) | (dsimp only; decide))]; exact (h (a2 z)).1 k k0 k9⟩
  have mm : ∀ s1 : im_S, fw [2, 3, 4] [] s s1 → fw [2, 3, 4] [590, 591, 592, 596] s s1 := fun s1 a => fw_mono a (fun f h => h) (by simp)
  unfold W_endBase W_endBase_67
  refine look_ok ha (fun s1 a1 a2 a3 a4 => ?_)
  refine good_ok (fun g => ⟨fun c => absurd c (by first | decide | omega | (dsimp only; omega) | (dsimp only; decide)), fun _ => ?_⟩) (fun g => ⟨fun _ => fin s1 (mm s1 a1) a2 a3 (fun i _ => fw_r a1 _ _ (by first | decide | omega | (dsimp only; omega) | (dsimp only; decide))) (tfr s1 a1 a4), fun c => absurd rfl c⟩)
  refine peek_ok a2 (fun v s2 b1 b2 b3 b4 => ?_)
  have f2 : fw [2, 3, 4] [] s s2 := fw_tr a1 (fw_mono b1 (by simp) (by simp))
  have g2 : wgf s2 2 = wgf s1 2 := fw_f b1 2 (by first | decide | omega | (dsimp only; omega) | (dsimp only; decide))
  have b2' := b2
  unfold atR at b2'
  refine ⟨fun _ => fin s2 (mm s2 f2) b2 (by first | omega | (dsimp only; omega)) (fun i _ => fw_r f2 _ _ (by first | decide | omega | (dsimp only; omega) | (dsimp only; decide))) (tfr s2 f2 (fun z => a4 (by first | omega | (dsimp only; omega)))), fun c94 => ⟨by unfold iR; first | omega | (dsimp only; omega), fun s3 e3 => ?_⟩⟩
  have m4 := (b4 (by first | omega | (dsimp only; omega))).1
  have x4 : wgf s3 4 = wgf s2 4 + 1 := by rw [e3, wf_same]
  have x1 : wgf s3 1 = wgf s2 1 := by rw [e3, wf_ne (by first | decide | omega | (dsimp only; omega) | (dsimp only; decide))]
  have x2 : wgf s3 2 = wgf s2 2 := by rw [e3, wf_ne (by first | decide | omega | (dsimp only; omega) | (dsimp only; decide))]
  have f3 : fw [2, 3, 4] [] s s3 := by rw [e3]; exact fw_pf f2 (by first | decide | omega | (dsimp only; omega) | (dsimp only; decide))
  refine peek_ok (by unfold atR; first | omega | (dsimp only; omega)) (fun v4 s4 c1 c2 c3 c4 => ?_)
  have f4 : fw [2, 3, 4] [] s s4 := fw_tr f3 (fw_mono c1 (by simp) (by simp))
  have y2 := fw_f c1 2 (by first | decide | omega | (dsimp only; omega) | (dsimp only; decide))
  refine isDigit_ok (fun dg1 dg2 => ⟨fun c => absurd c (by first | decide | omega | (dsimp only; omega) | (dsimp only; decide)), fun _ => ?_⟩) (fun _ => ⟨fun _ => cannot_ok c2 (fun s5 k1 k2 k3 k4 => ?_), fun c => absurd rfl c⟩)
  · refine number_ok c2 (fun n s5 k1 k2 k3 k4 k5 k6 => look_ok k2 (fun s6 l1 l2 l3 l4 => ?_))
    have f6 : fw [2, 3, 4] [] s s6 := fw_tr f4 (fw_tr k1 l1)
    have gg : wgf s6 2 = 0 → wgf s 2 = 0 := fun z => a4 (by have := k5 (l4 z); omega)
    refine good_ok (fun g6 => ⟨fun c => absurd c (by first | decide | omega | (dsimp only; omega) | (dsimp only; decide)), fun _ => ?_⟩) (fun g6 => ⟨fun _ => fin s6 (mm s6 f6) l2 (by first | omega | (dsimp only; omega)) (fun i _ => fw_r f6 _ _ (by first | decide | omega | (dsimp only; omega) | (dsimp only; decide))) (tfr s6 f6 gg), fun c => absurd rfl c⟩)
    have e21 : wgf s6 21 = d := by rw [fw_f f6 21 (by first | decide | omega | (dsimp only; omega) | (dsimp only; decide))]; exact hd
    refine raise_ok k4 e21 d0 (tfr s6 f6 gg g6).2 (fun s7 m1 m2 m3 => ?_)
    have z4 := fw_f m1 4 (by first | decide | omega | (dsimp only; omega) | (dsimp only; decide))
    have z1 := fw_f m1 1 (by first | decide | omega | (dsimp only; omega) | (dsimp only; decide))
    unfold atR at l2
    exact fin s7 (fw_tr (mm s6 f6) (fw_mono m1 (by simp) (fun c h => h))) (by unfold atR; first | omega | (dsimp only; omega)) (by first | omega | (dsimp only; omega)) (fun i i0 => by rw [m2 i i0]; exact fw_r f6 _ _ (by first | decide | omega | (dsimp only; omega) | (dsimp only; decide))) (fun z => ⟨gg (m3 z).1, (m3 z).2⟩)
  · have f5 : fw [2, 3, 4] [] s s5 := fw_tr f4 k1
    exact fin s5 (mm s5 f5) k2 (by first | omega | (dsimp only; omega)) (fun i _ => fw_r f5 _ _ (by first | decide | omega | (dsimp only; omega) | (dsimp only; decide))) (fun z => absurd z k4)
theorem endTerm_ok {s : im_S} {d : Int} {Q : im_S → Prop} (hd : wgf s 21 = d) (d0 : 0 ≤ d ∧ d ≤ 10) (h1 : tf s 589 d) (h2 : tf s 590 d) (h3 : wga s 593 d = 1 ∨ wga s 593 d = -1) (hQ : ∀ s' : im_S, fw [2, 3] [589, 595] s s' → (∀ i : Int, 0 ≤ i → ¬ (9 * d ≤ i ∧ i < 9 * d + 9) → wga s' 589 i = wga s 589 i) → (∀ i : Int, 0 ≤ i → i ≠ d → wga s' 595 i = wga s 595 i) → wga s' 595 d = -1 → (wgf s' 2 = 0 → wgf s 2 = 0 ∧ tf s' 589 d) → Q s') : W_endTerm s Q := by
  unfold W_endTerm
  refine ⟨fun a => fw [2, 3] [589, 595] s a.2 ∧ (∀ i : Int, 0 ≤ i → wga a.2 595 i = wga s 595 i) ∧ (0 ≤ a.1 ∧ a.1 ≤ 9) ∧ (∀ i : Int, 0 ≤ i → ¬ (9 * d ≤ i ∧ i < 9 * d + a.1) → wga a.2 589 i = wga s 589 i) ∧ (wgf a.2 2 = 0 → wgf s 2 = 0 ∧ ∀ j : Int, 0 ≤ j → j < a.1 → fn9 (wga a.2 589 (9 * d + j))), fun a => (9 - a.1).toNat, ⟨fw_rfl, fun _ _ => rfl, by first | decide | omega | (dsimp only; omega) | (dsimp only; decide), fun _ _ _ => rfl, fun z => ⟨z, fun j a1 a2 => absurd (Int.lt_of_le_of_lt a1 a2) (by first | decide | omega | (dsimp only; omega) | (dsimp only; decide))⟩⟩, ?_⟩
  rintro ⟨lk, s2⟩ ⟨i1, i2, i3, i4, i5⟩
  dsimp only at i1 i2 i3 i4 i5 ⊢
  have e21 : wgf s2 21 = d := by rw [fw_f i1 21 (by first | decide | omega | (dsimp only; omega) | (dsimp only; decide))]; exact hd
  unfold W_endTerm_2
  rw [e21]
  refine ⟨fun c => ⟨by first | omega | (dsimp only; omega), fun s3 e3 => hQ s3 (by rw [e3]; exact fw_pa i1 (by first | decide | omega | (dsimp only; omega) | (dsimp only; decide))) (fun i i0 hi => ?_) (fun i i0 hi => ?_) (by rw [e3, wg_same]) (fun z => ?_)⟩, fun c => ?_⟩
  · rw [e3, wg_row (by first | decide | omega | (dsimp only; omega) | (dsimp only; decide))]; exact i4 i i0 (by first | omega | (dsimp only; omega))
  · rw [e3, wg_ne (by first | omega | (dsimp only; omega)) i0 hi]; exact i2 i i0
  · have z' : wgf s2 2 = 0 := by rw [e3] at z; exact z
    exact ⟨(i5 z').1, fun k k0 k9 => by rw [e3, wg_row (by first | decide | omega | (dsimp only; omega) | (dsimp only; decide))]; exact (i5 z').2 k k0 (by first | omega | (dsimp only; omega))⟩
  · have t1 : fn9 (wga s2 589 (9 * d + lk)) := by rw [i4 _ (by first | omega | (dsimp only; omega)) (by first | omega | (dsimp only; omega))]; exact h1 lk (by first | omega | (dsimp only; omega)) (by first | omega | (dsimp only; omega))
    have t2 : fn9 (wga s2 590 (9 * d + lk)) := by rw [fw_r i1 _ _ (by first | decide | omega | (dsimp only; omega) | (dsimp only; decide))]; exact h2 lk (by first | omega | (dsimp only; omega)) (by first | omega | (dsimp only; omega))
    have t3 : wga s2 593 d = 1 ∨ wga s2 593 d = -1 := by rw [fw_r i1 _ _ (by first | decide | omega | (dsimp only; omega) | (dsimp only; decide))]; exact h3
    have t4 : -1000000000 ≤ wga s2 593 d * wga s2 590 (9 * d + lk) ∧ wga s2 593 d * wga s2 590 (9 * d + lk) ≤ 1000000000 := by
      unfold fn9 at t2
      rcases t3 with q | q <;> rw [q] <;> omega
    unfold fn9 at t1
    generalize hM : wga s2 593 d * wga s2 590 (9 * d + lk) = M at t4 ⊢
    refine ⟨by unfold iR; first | omega | (dsimp only; omega), by first | omega | (dsimp only; omega), by first | omega | (dsimp only; omega), by unfold lR; first | omega | (dsimp only; omega), by unfold lR; first | omega | (dsimp only; omega), by first | omega | (dsimp only; omega), fun s3 e3 => ⟨by first | omega | (dsimp only; omega), ?_⟩⟩
    have nxt : ∀ s4 : im_S, fw [2, 3] [] s3 s4 → (wgf s4 2 = 0 → wgf s3 2 = 0 ∧ fn9 (wga s3 589 (9 * d + lk))) → W_endTerm_71 (fun b => (fw [2, 3] [589, 595] s b.2 ∧ (∀ i : Int, 0 ≤ i → wga b.2 595 i = wga s 595 i) ∧ (0 ≤ b.1 ∧ b.1 ≤ 9) ∧ (∀ i : Int, 0 ≤ i → ¬ (9 * d ≤ i ∧ i < 9 * d + b.1) → wga b.2 589 i = wga s 589 i) ∧ (wgf b.2 2 = 0 → wgf s 2 = 0 ∧ ∀ j : Int, 0 ≤ j → j < b.1 → fn9 (wga b.2 589 (9 * d + j)))) ∧ (9 - b.1).toNat < (9 - lk).toNat) lk s4 Q := fun s4 b1 b2 => by
      unfold W_endTerm_71
      refine ⟨by unfold iR; first | omega | (dsimp only; omega), ⟨fw_tr (by rw [e3]; exact fw_pa i1 (by first | decide | omega | (dsimp only; omega) | (dsimp only; decide))) (fw_mono b1 (fun f h => h) (by simp)), fun i i0 => ?_, by first | omega | (dsimp only; omega), fun i i0 hi => ?_, fun z => ?_⟩, by first | omega | (dsimp only; omega)⟩
      · dsimp only
        rw [fw_r b1 _ _ (by first | decide | omega | (dsimp only; omega) | (dsimp only; decide)), e3, wg_row (by first | decide | omega | (dsimp only; omega) | (dsimp only; decide))]; exact i2 i i0
      · dsimp only at hi ⊢
        rw [fw_r b1 _ _ (by first | decide | omega | (dsimp only; omega) | (dsimp only; decide)), e3, wg_ne (by first | omega | (dsimp only; omega)) i0 (by first | omega | (dsimp only; omega))]
        exact i4 i i0 (by first | omega | (dsimp only; omega))
      · dsimp only at z ⊢
        obtain ⟨z1, z2⟩ := b2 z
        have z3 : wgf s2 2 = 0 := by rw [e3] at z1; exact z1
        refine ⟨(i5 z3).1, fun j a1 a2 => ?_⟩
        rw [fw_r b1 _ _ (by first | decide | omega | (dsimp only; omega) | (dsimp only; decide))]
        by_cases q : j = lk
        · rw [q]; exact z2
        · rw [e3, wg_ne (by first | omega | (dsimp only; omega)) (by first | omega | (dsimp only; omega)) (by first | omega | (dsimp only; omega))]
          exact (i5 z3).2 j a1 (by first | omega | (dsimp only; omega))
    have x21 : wgf s3 21 = d := by rw [e3]; exact e21
    refine isFine_ok (fun f => ⟨fun _ => nxt s3 fw_rfl (fun z => ⟨z, f⟩), fun c => absurd c (by first | decide | omega | (dsimp only; omega) | (dsimp only; decide))⟩) (fun f => ⟨fun c => absurd rfl c, fun _ => ⟨by first | omega | (dsimp only; omega), fail_ok (by first | decide | omega | (dsimp only; omega) | (dsimp only; decide)) (fun s4 b1 b2 => nxt s4 b1 (fun z => absurd z b2))⟩⟩)
