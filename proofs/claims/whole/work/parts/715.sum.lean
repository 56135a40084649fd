/-! sums -/
abbrev sR : List Nat := [589, 590, 591, 592, 593, 594, 595, 596]
def lv (s : im_S) (e : Int) : Prop := tf s 589 e ∧ (wga s 593 e = 1 ∨ wga s 593 e = -1) ∧ (0 ≤ wga s 595 e → tf s 590 e)
def sI (s : im_S) (w : Int) : Prop := (∀ e : Int, 0 ≤ e → e ≤ wgf s 21 → lv s e) ∧ (w = 0 → tf s 590 (wgf s 21))
theorem tf_co {s s' : im_S} {c : Nat} {e : Int} (h : ∀ k : Int, 0 ≤ k → k < 9 → wga s' c (9 * e + k) = wga s c (9 * e + k)) (ht : tf s c e) : tf s' c e := fun k k0 k9 => by rw [h k k0 k9]; exact ht k k0 k9
theorem tb_146 {s0 s : im_S} {Q : Int → im_S → Prop} {d : Int} (hd : wgf s 21 = d) (hd0 : wgf s0 21 = d) (d0 : 0 ≤ d ∧ d ≤ 10) (h1 : fw [2, 3, 4, 21] sR s0 s) (h2 : atR s) (h3 : wgf s0 4 ≤ wgf s 4) (h4 : wgf s 2 = 0 → wgf s0 4 < wgf s 4 ∧ tf s 591 d) (h5 : ∀ (c : Nat) (i : Int), c = 589 ∨ c = 590 ∨ c = 593 ∨ c = 595 → wga s c i = wga s0 c i) (hI : sI s0 1) (hQ : ∀ (v : Int) (s' : im_S), fw [2, 3, 4, 21] sR s0 s' → atR s' → wgf s0 4 ≤ wgf s' 4 → (0 ≤ wgf s' 21 ∧ wgf s' 21 ≤ 10) → (wgf s' 2 = 0 → wgf s0 4 < wgf s' 4 ∧ sI s' v) → Q v s') : W_takeBase_146 s Q := by
  unfold W_takeBase_146 W_takeBase_157
  refine good_ok (fun g => ⟨fun c => absurd c (by first | decide | omega | (dsimp only; omega) | (dsimp only; decide)), fun _ => ?_⟩) (fun g => ⟨fun _ => hQ 0 s h1 h2 h3 (by first | omega | (dsimp only; omega)) (fun z => absurd z g), fun c => absurd rfl c⟩)
  have l0 := hI.1 d d0.1 (by first | omega | (dsimp only; omega))
  refine endBase_ok h2 hd d0 (fun z => ⟨(h4 z).2, fun c => tf_co (fun k _ _ => h5 590 _ (by first | omega | (dsimp only; omega))) (l0.2.2 (by rw [← h5 595 _ (by first | omega | (dsimp only; omega))]; exact c))⟩) (fun s1 a1 a2 a3 a4 a5 => ?_)
  have e21 : wgf s1 21 = d := by rw [fw_f a1 21 (by first | decide | omega | (dsimp only; omega) | (dsimp only; decide))]; exact hd
  refine hQ 0 s1 (fw_tr h1 (fw_mono a1 (by simp) (by simp))) a2 (by first | omega | (dsimp only; omega)) (by first | omega | (dsimp only; omega)) (fun z => ⟨by have := (h4 (a5 z).1).1; omega, fun e e0 e1 => ?_, fun _ => by rw [e21]; exact (a5 z).2⟩)
  obtain ⟨p1, p2, p3⟩ := hI.1 e e0 (by first | omega | (dsimp only; omega))
  have r : ∀ (c : Nat) (i : Int), c = 589 ∨ c = 593 ∨ c = 595 → wga s1 c i = wga s0 c i := fun c i hc => by rw [fw_r a1 _ _ (by rcases hc with q | q | q <;> rw [q] <;> decide)]; exact h5 c i (by first | omega | (dsimp only; omega))
  refine ⟨tf_co (fun k _ _ => r 589 _ (by first | omega | (dsimp only; omega))) p1, by rw [r 593 _ (by first | omega | (dsimp only; omega))]; exact p2, fun q => ?_⟩
  by_cases c : e = d
  · rw [c]; exact (a5 z).2
  · rw [r 595 _ (by first | omega | (dsimp only; omega))] at q
    exact tf_co (fun k k0 k9 => by rw [a4 _ (by first | omega | (dsimp only; omega)) (by first | omega | (dsimp only; omega))]; exact h5 590 _ (by first | omega | (dsimp only; omega))) (p3 q)
theorem takeBase_ok {s : im_S} {c : Int} {Q : Int → im_S → Prop} (ha : atR s) (d0 : 0 ≤ wgf s 21 ∧ wgf s 21 ≤ 10) (g : wgf s 2 = 0) (hc : c ≠ -1 → wgf s 4 < wgf s 1 ∧ c = wga s 583 (wgf s 4)) (hI : sI s 1) (hQ : ∀ (v : Int) (s' : im_S), fw [2, 3, 4, 21] sR s s' → atR s' → wgf s 4 ≤ wgf s' 4 → (0 ≤ wgf s' 21 ∧ wgf s' 21 ≤ 10) → (wgf s' 2 = 0 → wgf s 4 < wgf s' 4 ∧ sI s' v) → Q v s') : W_takeBase c s Q := by
  obtain ⟨d, hd⟩ : ∃ d, wgf s 21 = d := ⟨_, rfl⟩
  rw [hd] at d0
  have ha' := ha
  unfold atR at ha'
  unfold W_takeBase
  refine ⟨fun a => fw [2, 3, 4, 21] [591] s a.2 ∧ a.2.1 = s.1 ∧ (0 ≤ a.1 ∧ a.1 ≤ 9) ∧ ∀ j : Int, 0 ≤ j → j < a.1 → wga a.2 591 (9 * d + j) = 0, fun a => (9 - a.1).toNat, ⟨fw_rfl, rfl, by first | decide | omega | (dsimp only; omega) | (dsimp only; decide), fun j a1 a2 => absurd (Int.lt_of_le_of_lt a1 a2) (by first | decide | omega | (dsimp only; omega) | (dsimp only; decide))⟩, ?_⟩
  rintro ⟨lk, s2⟩ ⟨i1, i2, i3, i4⟩
  dsimp only at i1 i2 i3 i4 ⊢
  have ff : ∀ f : Nat, wgf s2 f = wgf s f := fun f => by unfold wgf; rw [i2]
  have e21 := ff 21
  have e4 := ff 4
  have e1 := ff 1
  have e2 := ff 2
  rw [hd] at e21
  have m2 : fw [2, 3, 4, 21] sR s s2 := fw_mono i1 (fun f h => h) (by simp)
  have a2 : atR s2 := by unfold atR; first | omega | (dsimp only; omega)
  have rows : ∀ (c : Nat) (i : Int), c = 589 ∨ c = 590 ∨ c = 593 ∨ c = 595 → wga s2 c i = wga s c i := fun c i hc => fw_r i1 _ _ (by rcases hc with q | q | q | q <;> rw [q] <;> decide)
  unfold W_takeBase_2
  rw [e21]
  refine ⟨fun c9 => ?_, fun c9 => ⟨by unfold iR; first | omega | (dsimp only; omega), by first | omega | (dsimp only; omega), fun s3 e3 => ⟨by unfold iR; first | omega | (dsimp only; omega), ⟨by dsimp only; rw [e3]; exact fw_pa i1 (by first | decide | omega | (dsimp only; omega) | (dsimp only; decide)), by dsimp only; rw [e3]; exact i2, by first | omega | (dsimp only; omega), fun j a1 a2 => ?_⟩, by first | omega | (dsimp only; omega)⟩⟩⟩
  · have z9 : ∀ j : Int, 0 ≤ j → j < 9 → wga s2 591 (9 * d + j) = 0 := fun j j0 j9 => i4 j j0 (by first | omega | (dsimp only; omega))
    refine isDigit_ok (fun g1 g2 => ⟨fun c => absurd c (by first | decide | omega | (dsimp only; omega) | (dsimp only; decide)), fun _ => ⟨by unfold iR; first | omega | (dsimp only; omega), ?_⟩⟩) (fun _ => ⟨fun _ => ⟨fun cx => ⟨fun cp => ?_, fun cp => ⟨fun c10 => ?_, fun c10 => ?_⟩⟩, fun cx => ?_⟩, fun c => absurd rfl c⟩)
    · obtain ⟨h1, h2⟩ := hc (by first | omega | (dsimp only; omega))
      refine number_ok a2 (fun v s3 b1 b2 b3 b4 b5 b6 => ⟨by first | omega | (dsimp only; omega), fun s4 x4 => ?_⟩)
      rw [e21] at x4
      have y4 : wgf s4 4 = wgf s3 4 := by rw [x4]; rfl
      have y1 : wgf s4 1 = wgf s3 1 := by rw [x4]; rfl
      have y21 : wgf s4 21 = d := by rw [x4]; show wgf s3 21 = d; rw [fw_f b1 21 (by first | decide | omega | (dsimp only; omega) | (dsimp only; decide))]; exact e21
      unfold atR at b2
      have lt := b6 (by first | omega | (dsimp only; omega)) (by first | omega | (dsimp only; omega)) (by rw [e4, fw_r i1 _ _ (by first | decide | omega | (dsimp only; omega) | (dsimp only; decide)), ← h2]; exact g1) (by rw [e4, fw_r i1 _ _ (by first | decide | omega | (dsimp only; omega) | (dsimp only; decide)), ← h2]; exact g2)
      refine tb_146 y21 hd d0 (by rw [x4]; exact fw_pa (fw_tr m2 (fw_mono b1 (by simp) (by simp))) (by first | decide | omega | (dsimp only; omega) | (dsimp only; decide))) (by unfold atR; first | omega | (dsimp only; omega)) (by first | omega | (dsimp only; omega)) (fun z => ⟨by first | omega | (dsimp only; omega), fun k k0 k9 => ?_⟩) (fun c i hc => ?_) hI hQ
      · rw [x4]
        by_cases q : k = 0
        · rw [q, Int.add_zero, wg_same]
          unfold fn9
          omega
        · rw [wg_ne (by first | omega | (dsimp only; omega)) (by first | omega | (dsimp only; omega)) (by first | omega | (dsimp only; omega)), fw_r b1 _ _ (by first | decide | omega | (dsimp only; omega) | (dsimp only; decide)), z9 k k0 k9]
          unfold fn9
          omega
      · rw [x4, wg_row (by first | omega | (dsimp only; omega)), fw_r b1 _ _ (by simp)]; exact rows c i hc
    · refine cannot_ok a2 (fun s3 b1 b2 b3 b4 => ?_)
      have y21 : wgf s3 21 = d := by rw [fw_f b1 21 (by first | decide | omega | (dsimp only; omega) | (dsimp only; decide))]; exact e21
      exact tb_146 y21 hd d0 (fw_tr m2 (fw_mono b1 (by simp) (by simp))) b2 (by first | omega | (dsimp only; omega)) (fun z => absurd z b4) (fun c i hc => by rw [fw_r b1 _ _ (by simp)]; exact rows c i hc) hI hQ
    · obtain ⟨h1, h2⟩ := hc (by first | omega | (dsimp only; omega))
      refine ⟨by unfold iR; first | omega | (dsimp only; omega), fun s3 x3 => ?_⟩
      have y21 : wgf s3 21 = d := by rw [x3, wf_ne (by first | decide | omega | (dsimp only; omega) | (dsimp only; decide))]; exact e21
      rw [y21]
      refine ⟨by unfold iR; first | omega | (dsimp only; omega), fun s4 x4 => ?_⟩
      have w21 : wgf s4 21 = d + 1 := by rw [x4, wf_same]
      have w4 : wgf s4 4 = wgf s 4 + 1 := by rw [x4, wf_ne (by first | decide | omega | (dsimp only; omega) | (dsimp only; decide)), x3, wf_same, e4]
      have w1 : wgf s4 1 = wgf s 1 := by rw [x4, wf_ne (by first | decide | omega | (dsimp only; omega) | (dsimp only; decide)), x3, wf_ne (by first | decide | omega | (dsimp only; omega) | (dsimp only; decide)), e1]
      have m4 : fw [2, 3, 4, 21] sR s s4 := by rw [x4, x3]; exact fw_pf (fw_pf m2 (by first | decide | omega | (dsimp only; omega) | (dsimp only; decide))) (by first | decide | omega | (dsimp only; omega) | (dsimp only; decide))
      have rows4 : ∀ (c : Nat) (i : Int), c = 589 ∨ c = 590 ∨ c = 593 ∨ c = 595 → wga s4 c i = wga s c i := fun c i hc => by rw [x4, wg_pf, x3, wg_pf]; exact rows c i hc
      refine beginSum_ok (d := d + 1) (by unfold atR; first | omega | (dsimp only; omega)) w21 (by first | omega | (dsimp only; omega)) (fun s5 b1 b2 b3 b4 b5 b6 b7 b8 => ?_)
      have v21 : wgf s5 21 = d + 1 := by rw [fw_f b1 21 (by first | decide | omega | (dsimp only; omega) | (dsimp only; decide))]; exact w21
      refine hQ 1 s5 (fw_tr m4 (fw_mono b1 (by simp) (by simp))) b2 (by first | omega | (dsimp only; omega)) (by first | omega | (dsimp only; omega)) (fun z => ⟨by first | omega | (dsimp only; omega), fun e e0 e5 => ?_, fun c => absurd c (by first | decide | omega | (dsimp only; omega) | (dsimp only; decide))⟩)
      by_cases q : e = d + 1
      · rw [q]
        exact ⟨b6, b7, fun w => by rw [b8] at w; exact absurd w (by first | decide | omega | (dsimp only; omega) | (dsimp only; decide))⟩
      · obtain ⟨p1, p2, p3⟩ := hI.1 e e0 (by first | omega | (dsimp only; omega))
        refine ⟨tf_co (fun k k0 k9 => by rw [b4 _ (by first | omega | (dsimp only; omega)) (by first | omega | (dsimp only; omega))]; exact rows4 589 _ (by first | omega | (dsimp only; omega))) p1, by rw [(b5 e e0 q).1, rows4 593 _ (by first | omega | (dsimp only; omega))]; exact p2, fun w => ?_⟩
        rw [(b5 e e0 q).2, rows4 595 _ (by first | omega | (dsimp only; omega))] at w
        exact tf_co (fun k k0 k9 => by rw [fw_r b1 _ _ (by first | decide | omega | (dsimp only; omega) | (dsimp only; decide))]; exact rows4 590 _ (by first | omega | (dsimp only; omega))) (p3 w)
    · refine fail_ok (by first | decide | omega | (dsimp only; omega) | (dsimp only; decide)) (fun s3 b1 b2 => ?_)
      have y21 : wgf s3 21 = d := by rw [fw_f b1 21 (by first | decide | omega | (dsimp only; omega) | (dsimp only; decide))]; exact e21
      have y4 := fw_f b1 4 (by first | decide | omega | (dsimp only; omega) | (dsimp only; decide))
      have y1 := fw_f b1 1 (by first | decide | omega | (dsimp only; omega) | (dsimp only; decide))
      exact hQ 1 s3 (fw_tr m2 (fw_mono b1 (by simp) (by simp))) (by unfold atR; first | omega | (dsimp only; omega)) (by first | omega | (dsimp only; omega)) (by first | omega | (dsimp only; omega)) (fun z => absurd z b2)
    · obtain ⟨h1, h2⟩ := hc (by first | omega | (dsimp only; omega))
      refine ⟨by unfold iR; first | omega | (dsimp only; omega), by first | omega | (dsimp only; omega), fun s3 x3 => ?_⟩
      rw [e21] at x3
      have y4 : wgf s3 4 = wgf s 4 := by rw [x3]; exact e4
      refine ⟨by unfold iR; first | omega | (dsimp only; omega), fun s4 x4 => ?_⟩
      have w21 : wgf s4 21 = d := by rw [x4, wf_ne (by first | decide | omega | (dsimp only; omega) | (dsimp only; decide)), x3]; exact e21
      have w4 : wgf s4 4 = wgf s 4 + 1 := by rw [x4, wf_same, y4]
      have w1 : wgf s4 1 = wgf s 1 := by rw [x4, wf_ne (by first | decide | omega | (dsimp only; omega) | (dsimp only; decide)), x3]; exact e1
      refine tb_146 w21 hd d0 (by rw [x4, x3]; exact fw_pf (fw_pa m2 (by first | decide | omega | (dsimp only; omega) | (dsimp only; decide))) (by first | decide | omega | (dsimp only; omega) | (dsimp only; decide))) (by unfold atR; first | omega | (dsimp only; omega)) (by first | omega | (dsimp only; omega)) (fun z => ⟨by first | omega | (dsimp only; omega), fun k k0 k9 => ?_⟩) (fun c i hc => ?_) hI hQ
      · rw [x4, wg_pf, x3]
        by_cases q : k = 1
        · rw [q, wg_same]
          unfold fn9
          omega
        · rw [wg_ne (by first | omega | (dsimp only; omega)) (by first | omega | (dsimp only; omega)) (by first | omega | (dsimp only; omega)), z9 k k0 k9]
          unfold fn9
          omega
      · rw [x4, wg_pf, x3, wg_row (by first | omega | (dsimp only; omega))]; exact rows c i hc
  · dsimp only at a2 ⊢
    rw [e3]
    by_cases q : j = lk
    · rw [q, wg_same]
    · rw [wg_ne (by first | omega | (dsimp only; omega)) (by first | omega | (dsimp only; omega)) (by first | omega | (dsimp only; omega))]
      exact i4 j a1 (by first | omega | (dsimp only; omega))
theorem endBracket_ok {s : im_S} {c : Int} {Q : im_S → Prop} (ha : atR s) (d0 : 1 ≤ wgf s 21 ∧ wgf s 21 ≤ 10) (g : wgf s 2 = 0) (hc : c ≠ -1 → wgf s 4 < wgf s 1) (hI : ∀ e : Int, 0 ≤ e → e ≤ wgf s 21 → lv s e) (hQ : ∀ s' : im_S, fw [2, 3, 4, 21] sR s s' → atR s' → wgf s 4 ≤ wgf s' 4 → (0 ≤ wgf s' 21 ∧ wgf s' 21 ≤ 10) → (wgf s' 2 = 0 → wgf s 4 < wgf s' 4 ∧ sI s' 0) → Q s') : W_endBracket c s Q := by
  obtain ⟨d, hd⟩ : ∃ d, wgf s 21 = d + 1 := ⟨wgf s 21 - 1, by first | omega | (dsimp only; omega)⟩
  have ha' := ha
  unfold atR at ha'
  unfold W_endBracket
  refine ⟨fun c41 => ⟨by unfold iR; first | omega | (dsimp only; omega), fun s1 e1 => ?_⟩, fun _ => cannot_ok ha (fun s1 b1 b2 b3 b4 => ?_)⟩
  · have lt := hc (by first | omega | (dsimp only; omega))
    have x21 : wgf s1 21 = d + 1 := by rw [e1, wf_ne (by first | decide | omega | (dsimp only; omega) | (dsimp only; decide))]; exact hd
    rw [x21]
    refine ⟨by unfold iR; first | omega | (dsimp only; omega), fun s2 e2 => ?_⟩
    have w21 : wgf s2 21 = d := by rw [e2, wf_same]; omega
    have w4 : wgf s2 4 = wgf s 4 + 1 := by rw [e2, wf_ne (by first | decide | omega | (dsimp only; omega) | (dsimp only; decide)), e1, wf_same]
    have w1 : wgf s2 1 = wgf s 1 := by rw [e2, wf_ne (by first | decide | omega | (dsimp only; omega) | (dsimp only; decide)), e1, wf_ne (by first | decide | omega | (dsimp only; omega) | (dsimp only; decide))]
    have m2 : fw [2, 3, 4, 21] sR s s2 := by rw [e2, e1]; exact fw_pf (fw_pf fw_rfl (by first | decide | omega | (dsimp only; omega) | (dsimp only; decide))) (by first | decide | omega | (dsimp only; omega) | (dsimp only; decide))
    have rows2 : ∀ (c : Nat) (i : Int), wga s2 c i = wga s c i := fun c i => by rw [e2, wg_pf, e1, wg_pf]
    refine ⟨fun a => fw [2, 3, 4, 21] [591] s2 a.2 ∧ a.2.1 = s2.1 ∧ (0 ≤ a.1 ∧ a.1 ≤ 9) ∧ ∀ j : Int, 0 ≤ j → j < a.1 → fn9 (wga a.2 591 (9 * d + j)), fun a => (9 - a.1).toNat, ⟨fw_rfl, rfl, by first | decide | omega | (dsimp only; omega) | (dsimp only; decide), fun j a1 a2 => absurd (Int.lt_of_le_of_lt a1 a2) (by first | decide | omega | (dsimp only; omega) | (dsimp only; decide))⟩, ?_⟩
    rintro ⟨lk, s3⟩ ⟨i1, i2, i3, i4⟩
    dsimp only at i1 i2 i3 i4 ⊢
    have ff : ∀ f : Nat, wgf s3 f = wgf s2 f := fun f => by unfold wgf; rw [i2]
    have f21 : wgf s3 21 = d := by rw [ff 21]; exact w21
    have f4 := ff 4
    have f1 := ff 1
    unfold W_endBracket_33
    rw [f21]
    refine ⟨fun c9 => ?_, fun c9 => ⟨by unfold iR; first | omega | (dsimp only; omega), by unfold iR; first | omega | (dsimp only; omega), by unfold iR; first | omega | (dsimp only; omega), by first | omega | (dsimp only; omega), by first | omega | (dsimp only; omega), fun s4 e4 => ⟨by unfold iR; first | omega | (dsimp only; omega), ⟨by dsimp only; rw [e4]; exact fw_pa i1 (by first | decide | omega | (dsimp only; omega) | (dsimp only; decide)), by dsimp only; rw [e4]; exact i2, by first | omega | (dsimp only; omega), fun j a1 a2 => ?_⟩, by first | omega | (dsimp only; omega)⟩⟩⟩
    · have l0 := hI d (by first | omega | (dsimp only; omega)) (by first | omega | (dsimp only; omega))
      have r3 : ∀ (c : Nat) (i : Int), c ≠ 591 → wga s3 c i = wga s c i := fun c i hc => by rw [fw_r i1 _ _ (by simpa using hc)]; exact rows2 c i
      refine endBase_ok (d := d) (by unfold atR; first | omega | (dsimp only; omega)) f21 (by first | omega | (dsimp only; omega)) (fun z => ⟨fun k k0 k9 => i4 k k0 (by first | omega | (dsimp only; omega)), fun q => tf_co (fun k _ _ => r3 590 _ (by first | decide | omega | (dsimp only; omega) | (dsimp only; decide))) (l0.2.2 (by rw [← r3 595 _ (by first | decide | omega | (dsimp only; omega) | (dsimp only; decide))]; exact q))⟩) (fun s4 b1 b2 b3 b4 b5 => ?_)
      have v21 : wgf s4 21 = d := by rw [fw_f b1 21 (by first | decide | omega | (dsimp only; omega) | (dsimp only; decide))]; exact f21
      refine hQ s4 (fw_tr (fw_tr m2 (fw_mono i1 (fun f h => h) (by simp))) (fw_mono b1 (by simp) (by simp))) b2 (by first | omega | (dsimp only; omega)) (by first | omega | (dsimp only; omega)) (fun z => ⟨by first | omega | (dsimp only; omega), fun e e0 e5 => ?_, fun _ => by rw [v21]; exact (b5 z).2⟩)
      obtain ⟨p1, p2, p3⟩ := hI e e0 (by first | omega | (dsimp only; omega))
      have r : ∀ (c : Nat) (i : Int), c = 589 ∨ c = 593 ∨ c = 595 → wga s4 c i = wga s c i := fun c i hc => by rw [fw_r b1 _ _ (by rcases hc with q | q | q <;> rw [q] <;> decide)]; exact r3 c i (by first | omega | (dsimp only; omega))
      refine ⟨tf_co (fun k _ _ => r 589 _ (by first | omega | (dsimp only; omega))) p1, by rw [r 593 _ (by first | omega | (dsimp only; omega))]; exact p2, fun q => ?_⟩
      by_cases c : e = d
      · rw [c]; exact (b5 z).2
      · rw [r 595 _ (by first | omega | (dsimp only; omega))] at q
        exact tf_co (fun k k0 k9 => by rw [b4 _ (by first | omega | (dsimp only; omega)) (by first | omega | (dsimp only; omega))]; exact r3 590 _ (by first | decide | omega | (dsimp only; omega) | (dsimp only; decide))) (p3 q)
    · dsimp only at a2 ⊢
      rw [e4]
      by_cases q : j = lk
      · rw [q, wg_same, fw_r i1 _ _ (by first | decide | omega | (dsimp only; omega) | (dsimp only; decide)), rows2]
        exact (hI (d + 1) (by first | omega | (dsimp only; omega)) (by first | omega | (dsimp only; omega))).1 lk (by first | omega | (dsimp only; omega)) (by first | omega | (dsimp only; omega))
      · rw [wg_ne (by first | omega | (dsimp only; omega)) (by first | omega | (dsimp only; omega)) (by first | omega | (dsimp only; omega))]
        exact i4 j a1 (by first | omega | (dsimp only; omega))
  · have y21 := fw_f b1 21 (by first | decide | omega | (dsimp only; omega) | (dsimp only; decide))
    exact hQ s1 (fw_mono b1 (by simp) (by simp)) b2 b3 (by first | omega | (dsimp only; omega)) (fun z => absurd z b4)
