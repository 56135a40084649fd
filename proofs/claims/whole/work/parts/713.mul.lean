/-! products of sums -/
def fn9 (x : Int) : Prop := -1000000000 ≤ x ∧ x ≤ 1000000000
def tf (s : im_S) (c : Nat) (d : Int) : Prop := ∀ k : Int, 0 ≤ k → k < 9 → fn9 (wga s c (9 * d + k))
theorem isFine_ok {v : Int} {s : im_S} {Q : Int → im_S → Prop} (h1 : fn9 v → Q 1 s) (h0 : ¬ fn9 v → Q 0 s) : W_isFine v s Q := by
  unfold W_isFine
  intro w hw
  rw [hw]
  unfold fn9 at h1 h0
  split
  · exact h0 (by first | omega | (dsimp only; omega))
  · split
    · exact h0 (by first | omega | (dsimp only; omega))
    · exact h1 (by first | omega | (dsimp only; omega))
theorem fn9_mul {a b : Int} (ha : fn9 a) (hb : fn9 b) : -1000000000000000000 ≤ a * b ∧ a * b ≤ 1000000000000000000 := by
  unfold fn9 at ha hb
  by_cases c : 0 < b
  · exact tmul_b ha ⟨c, hb.2⟩
  · by_cases c2 : b = 0
    · rw [c2, Int.mul_zero]; decide
    · have := tmul_b (b := -b) ha ⟨by first | omega | (dsimp only; omega), by first | omega | (dsimp only; omega)⟩
      rw [Int.mul_neg] at this
      omega
theorem multiply_ok {s : im_S} {w d : Int} {Q : im_S → Prop} (hd : wgf s 21 = d) (d0 : 0 ≤ d ∧ d ≤ 10) (h1 : tf s 590 d) (h2 : tf s 591 d) (hQ : ∀ s' : im_S, fw [2, 3] [590, 592] s s' → (∀ i : Int, 0 ≤ i → ¬ (9 * d ≤ i ∧ i < 9 * d + 9) → wga s' 590 i = wga s 590 i) → (wgf s' 2 = 0 → wgf s 2 = 0 ∧ tf s' 590 d) → Q s') : W_multiply w s Q := by
  unfold W_multiply
  refine ⟨fun a => fw [2, 3] [592] s a.2 ∧ wgf a.2 2 = wgf s 2 ∧ (0 ≤ a.1 ∧ a.1 ≤ 9) ∧ ∀ j : Int, 0 ≤ j → j < a.1 → wga a.2 592 j = 0, fun a => (9 - a.1).toNat, ⟨fw_rfl, rfl, by first | decide | omega | (dsimp only; omega) | (dsimp only; decide), fun j j1 j2 => absurd (Int.lt_of_le_of_lt j1 j2) (by first | decide | omega | (dsimp only; omega) | (dsimp only; decide))⟩, ?_⟩
  rintro ⟨l2, s2⟩ ⟨i1, i2, i3, i4⟩
  dsimp only at i1 i2 i3 i4 ⊢
  unfold W_multiply_2
  refine ⟨fun c => ?_, fun c => ⟨by first | omega | (dsimp only; omega), fun s3 e3 => ⟨by unfold iR; first | omega | (dsimp only; omega), ⟨by dsimp only; rw [e3]; exact fw_pa i1 (by first | decide | omega | (dsimp only; omega) | (dsimp only; decide)), by dsimp only; rw [e3]; exact i2, by first | omega | (dsimp only; omega), fun j j1 j2 => ?_⟩, by first | omega | (dsimp only; omega)⟩⟩⟩
  · refine ⟨fun a => fw [2, 3] [592] s a.2 ∧ (wgf a.2 2 = 0 → wgf s 2 = 0) ∧ (0 ≤ a.1 ∧ a.1 ≤ 9) ∧ ∀ j : Int, 0 ≤ j → j < 9 → -1000000000000000000 * a.1 ≤ wga a.2 592 j ∧ wga a.2 592 j ≤ 1000000000000000000 * a.1, fun a => (9 - a.1).toNat, ⟨i1, fun z => by dsimp only at z; omega, by first | decide | omega | (dsimp only; omega) | (dsimp only; decide), fun j j1 j2 => by dsimp only; rw [i4 j j1 (by first | omega | (dsimp only; omega))]; omega⟩, ?_⟩
    rintro ⟨li, s3⟩ ⟨j1, j2, j3, j4⟩
    dsimp only at j1 j2 j3 j4 ⊢
    unfold W_multiply_23
    refine ⟨fun c9 => ?_, fun c9 => ?_⟩
    · refine ⟨fun a => fw [2, 3] [590, 592] s a.2 ∧ (0 ≤ a.1 ∧ a.1 ≤ 9) ∧ (∀ i : Int, 0 ≤ i → ¬ (9 * d ≤ i ∧ i < 9 * d + 9) → wga a.2 590 i = wga s 590 i) ∧ (wgf a.2 2 = 0 → wgf s 2 = 0 ∧ ∀ k : Int, 0 ≤ k → k < a.1 → fn9 (wga a.2 590 (9 * d + k))), fun a => (9 - a.1).toNat, ⟨fw_mono j1 (by simp) (by simp), by first | decide | omega | (dsimp only; omega) | (dsimp only; decide), fun i _ _ => fw_r j1 _ _ (by first | decide | omega | (dsimp only; omega) | (dsimp only; decide)), fun z => ⟨j2 z, fun k k1 k2 => absurd (Int.lt_of_le_of_lt k1 k2) (by first | decide | omega | (dsimp only; omega) | (dsimp only; decide))⟩⟩, ?_⟩
      rintro ⟨lk, s4⟩ ⟨k1, k2, k3, k4⟩
      dsimp only at k1 k2 k3 k4 ⊢
      have e21 : wgf s4 21 = d := by rw [fw_f k1 21 (by first | decide | omega | (dsimp only; omega) | (dsimp only; decide))]; exact hd
      have step : ∀ s5 : im_S, fw [2, 3] [] s4 s5 → (wgf s5 2 = 0 → wgf s4 2 = 0 ∧ fn9 (wga s4 592 lk)) → ¬ 9 ≤ lk → W_multiply_176 (fun b => (fw [2, 3] [590, 592] s b.2 ∧ (0 ≤ b.1 ∧ b.1 ≤ 9) ∧ (∀ i : Int, 0 ≤ i → ¬ (9 * d ≤ i ∧ i < 9 * d + 9) → wga b.2 590 i = wga s 590 i) ∧ (wgf b.2 2 = 0 → wgf s 2 = 0 ∧ ∀ k : Int, 0 ≤ k → k < b.1 → fn9 (wga b.2 590 (9 * d + k)))) ∧ (9 - b.1).toNat < (9 - lk).toNat) w lk s5 Q := fun s5 b1 b2 b3 => by
        have x21 : wgf s5 21 = d := by rw [fw_f b1 21 (by first | decide | omega | (dsimp only; omega) | (dsimp only; decide))]; exact e21
        have x592 : wga s5 592 lk = wga s4 592 lk := fw_r b1 _ _ (by first | decide | omega | (dsimp only; omega) | (dsimp only; decide))
        have m5 := fw_tr k1 (fw_mono (rs' := [590, 592]) b1 (fun f h => h) (by simp))
        unfold W_multiply_176
        rw [x21, x592]
        refine ⟨by unfold iR; first | omega | (dsimp only; omega), by first | omega | (dsimp only; omega), by first | omega | (dsimp only; omega), fun s6 e6 => ⟨by unfold iR; first | omega | (dsimp only; omega), ⟨by dsimp only; rw [e6]; exact fw_pa m5 (by first | decide | omega | (dsimp only; omega) | (dsimp only; decide)), by first | omega | (dsimp only; omega), fun i i0 hi => ?_, fun z => ?_⟩, by first | omega | (dsimp only; omega)⟩⟩
        · dsimp only
          rw [e6, wg_ne (by first | omega | (dsimp only; omega)) i0 (by first | omega | (dsimp only; omega)), fw_r b1 _ _ (by first | decide | omega | (dsimp only; omega) | (dsimp only; decide))]
          exact k3 i i0 hi
        · dsimp only at z ⊢
          have y2 : wgf s6 2 = wgf s5 2 := by rw [e6]; rfl
          obtain ⟨b4, b5⟩ := b2 (by first | omega | (dsimp only; omega))
          refine ⟨(k4 b4).1, fun k k5 k6 => ?_⟩
          rw [e6]
          by_cases q : k = lk
          · rw [q, wg_same]; exact b5
          · rw [wg_ne (by first | omega | (dsimp only; omega)) (by first | omega | (dsimp only; omega)) (by first | omega | (dsimp only; omega)), fw_r b1 _ _ (by first | decide | omega | (dsimp only; omega) | (dsimp only; decide))]
            exact (k4 b4).2 k k5 (by first | omega | (dsimp only; omega))
      unfold W_multiply_144 W_multiply_202
      refine ⟨fun c => hQ s4 k1 k3 (fun z => ⟨(k4 z).1, fun k k5 k6 => (k4 z).2 k k5 (by first | omega | (dsimp only; omega))⟩), fun c => good_ok (fun g => ⟨fun c => absurd c (by first | decide | omega | (dsimp only; omega) | (dsimp only; decide)), fun _ => ⟨by first | omega | (dsimp only; omega), isFine_ok (fun f => ⟨fun _ => step s4 fw_rfl (fun z => ⟨z, f⟩) c, fun c => absurd c (by first | decide | omega | (dsimp only; omega) | (dsimp only; decide))⟩) (fun f => ⟨fun c => absurd rfl c, fun _ => fail_ok (by first | decide | omega | (dsimp only; omega) | (dsimp only; decide)) (fun s5 b1 b2 => step s5 b1 (fun z => absurd z b2) c)⟩)⟩⟩) (fun g => ⟨fun _ => hQ s4 k1 k3 (fun z => absurd z g), fun c => absurd rfl c⟩)⟩
    · refine ⟨fun a => fw [2, 3] [592] s a.2 ∧ (wgf a.2 2 = 0 → wgf s 2 = 0) ∧ (0 ≤ a.1 ∧ a.1 ≤ 9) ∧ ∀ j : Int, 0 ≤ j → j < 9 → -1000000000000000000 * (li + (if j < li + a.1 then 1 else 0)) ≤ wga a.2 592 j ∧ wga a.2 592 j ≤ 1000000000000000000 * (li + (if j < li + a.1 then 1 else 0)), fun a => (9 - a.1).toNat, ⟨j1, j2, by first | decide | omega | (dsimp only; omega) | (dsimp only; decide), fun j a1 a2 => ?_⟩, ?_⟩
      · dsimp only
        have := j4 j a1 a2
        split <;> omega
      rintro ⟨lj, s4⟩ ⟨k1, k2, k3, k4⟩
      dsimp only at k1 k2 k3 k4 ⊢
      have e21 : wgf s4 21 = d := by rw [fw_f k1 21 (by first | decide | omega | (dsimp only; omega) | (dsimp only; decide))]; exact hd
      have fa : fn9 (wga s4 590 (9 * d + li)) := by rw [fw_r k1 _ _ (by first | decide | omega | (dsimp only; omega) | (dsimp only; decide))]; exact h1 li (by first | omega | (dsimp only; omega)) (by first | omega | (dsimp only; omega))
      unfold W_multiply_31
      rw [e21]
      refine ⟨fun c => ⟨by unfold iR; first | omega | (dsimp only; omega), ⟨k1, k2, by first | omega | (dsimp only; omega), fun j a1 a2 => ?_⟩, by first | omega | (dsimp only; omega)⟩, fun c => ?_⟩
      · dsimp only
        have := k4 j a1 a2
        split at this <;> omega
      · have fb : fn9 (wga s4 591 (9 * d + lj)) := by rw [fw_r k1 _ _ (by first | decide | omega | (dsimp only; omega) | (dsimp only; decide))]; exact h2 lj (by first | omega | (dsimp only; omega)) (by first | omega | (dsimp only; omega))
        have ab := fn9_mul fa fb
        have nxt : ∀ s5 : im_S, fw [2, 3] [592] s4 s5 → (wgf s5 2 = 0 → wgf s4 2 = 0) → (∀ j : Int, 0 ≤ j → j < 9 → j ≠ li + lj → wga s5 592 j = wga s4 592 j) → (li + lj < 9 → -1000000000000000000 * (li + 1) ≤ wga s5 592 (li + lj) ∧ wga s5 592 (li + lj) ≤ 1000000000000000000 * (li + 1)) → (fw [2, 3] [592] s s5 ∧ (wgf s5 2 = 0 → wgf s 2 = 0) ∧ (0 ≤ lj + 1 ∧ lj + 1 ≤ 9) ∧ ∀ j : Int, 0 ≤ j → j < 9 → -1000000000000000000 * (li + (if j < li + (lj + 1) then 1 else 0)) ≤ wga s5 592 j ∧ wga s5 592 j ≤ 1000000000000000000 * (li + (if j < li + (lj + 1) then 1 else 0))) ∧ (9 - (lj + 1)).toNat < (9 - lj).toNat := fun s5 b1 b2 b3 b4 => by
          refine ⟨⟨fw_tr k1 b1, fun z => k2 (b2 z), by first | omega | (dsimp only; omega), fun j a1 a2 => ?_⟩, by first | omega | (dsimp only; omega)⟩
          by_cases q : j = li + lj
          · rw [q, if_pos (by first | omega | (dsimp only; omega))]
            exact b4 (by first | omega | (dsimp only; omega))
          · rw [b3 j a1 a2 q]
            have := k4 j a1 a2
            split at this <;> split <;> omega
        have old : li + lj < 9 → -1000000000000000000 * li ≤ wga s4 592 (li + lj) ∧ wga s4 592 (li + lj) ≤ 1000000000000000000 * li := fun q => by
          have := k4 (li + lj) (by first | omega | (dsimp only; omega)) q
          rw [if_neg (by first | omega | (dsimp only; omega)), Int.add_zero] at this
          exact this
        generalize wga s4 590 (9 * d + li) = A at *
        generalize wga s4 591 (9 * d + lj) = B at *
        have same : W_multiply_100 (fun b => (fw [2, 3] [592] s b.2 ∧ (wgf b.2 2 = 0 → wgf s 2 = 0) ∧ (0 ≤ b.1 ∧ b.1 ≤ 9) ∧ ∀ j : Int, 0 ≤ j → j < 9 → -1000000000000000000 * b.1 ≤ wga b.2 592 j ∧ wga b.2 592 j ≤ 1000000000000000000 * b.1) ∧ (9 - b.1).toNat < (9 - li).toNat) (fun b => (fw [2, 3] [592] s b.2 ∧ (wgf b.2 2 = 0 → wgf s 2 = 0) ∧ (0 ≤ b.1 ∧ b.1 ≤ 9) ∧ ∀ j : Int, 0 ≤ j → j < 9 → -1000000000000000000 * (li + (if j < li + b.1 then 1 else 0)) ≤ wga b.2 592 j ∧ wga b.2 592 j ≤ 1000000000000000000 * (li + (if j < li + b.1 then 1 else 0))) ∧ (9 - b.1).toNat < (9 - lj).toNat) w li lj A B s4 Q ∨ ¬ (A = 0 ∨ B = 0 ∨ li + lj < 9) := by
          by_cases q : A = 0 ∨ B = 0 ∨ li + lj < 9
          · refine Or.inl ?_
            have stay := nxt s4 fw_rfl (fun z => z) (fun _ _ _ _ => rfl) (fun q => by have := old q; omega)
            unfold W_multiply_100 W_multiply_130
            refine ⟨fun _ => ⟨by unfold iR; first | omega | (dsimp only; omega), stay⟩, fun a0 => ⟨fun _ => ⟨by unfold iR; first | omega | (dsimp only; omega), stay⟩, fun b0 => ?_⟩⟩
            have lt : li + lj < 9 := by first | omega | (dsimp only; omega)
            have o := old lt
            refine ⟨by first | omega | (dsimp only; omega), by unfold lR; first | omega | (dsimp only; omega), by unfold lR; first | omega | (dsimp only; omega), by first | omega | (dsimp only; omega), fun s5 e5 => ⟨by unfold iR; first | omega | (dsimp only; omega), ?_⟩⟩
            refine nxt s5 (by rw [e5]; exact fw_pa fw_rfl (by first | decide | omega | (dsimp only; omega) | (dsimp only; decide))) (fun z => by rw [e5] at z; exact z) (fun j a1 a2 a3 => by rw [e5]; exact wg_ne (by first | omega | (dsimp only; omega)) a1 a3) (fun _ => ?_)
            rw [e5, wg_same]
            omega
          · exact Or.inr q
        refine ⟨by unfold iR; first | omega | (dsimp only; omega), by first | omega | (dsimp only; omega), by first | omega | (dsimp only; omega), fun a0 => same.resolve_right (by first | omega | (dsimp only; omega)), fun a0 => ⟨fun b0 => same.resolve_right (by first | omega | (dsimp only; omega)), fun b0 => ⟨by unfold iR; first | omega | (dsimp only; omega), fun lt => same.resolve_right (by first | omega | (dsimp only; omega)), fun ge => fail_ok (by first | decide | omega | (dsimp only; omega) | (dsimp only; decide)) (fun s5 b1 b2 => ?_)⟩⟩⟩
        unfold W_multiply_130
        exact ⟨by unfold iR; first | omega | (dsimp only; omega), nxt s5 (fw_mono b1 (fun f h => h) (by simp)) (fun z => absurd z b2) (fun j _ _ _ => fw_r b1 _ _ (by first | decide | omega | (dsimp only; omega) | (dsimp only; decide))) (fun q => absurd q ge)⟩
  · dsimp only at j2 ⊢
    rw [e3]
    by_cases q : j = l2
    · rw [q, wg_same]
    · rw [wg_ne (by first | omega | (dsimp only; omega)) j1 q]
      exact i4 j j1 (by first | omega | (dsimp only; omega))
