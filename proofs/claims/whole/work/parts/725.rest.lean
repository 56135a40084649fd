/-! the reference's other questions -/
theorem holdingMany_ok {s : im_S} {Q : Int → im_S → Prop} (h : 0 ≤ wgf s 41 ∧ wgf s 41 ≤ 80) (hQ : ∀ v : Int, Q v s) : W_holdingMany s Q := by
  unfold W_holdingMany
  refine ⟨fun a => a.2.2 = s ∧ (0 ≤ a.2.1 ∧ a.2.1 ≤ 2 * wgf s 41 + 1) ∧ (0 ≤ a.1 ∧ a.1 ≤ a.2.1), fun a => (2 * wgf s 41 + 1 - a.2.1).toNat, ⟨rfl, ⟨by first | decide | omega | (dsimp only; omega) | (dsimp only; decide), by show (0 : Int) ≤ _; omega⟩, by first | decide | omega | (dsimp only; omega) | (dsimp only; decide), by first | decide | omega | (dsimp only; omega) | (dsimp only; decide)⟩, ?_⟩
  rintro ⟨l1, l2, s2⟩ ⟨i1, i2, i3⟩
  dsimp only at i1 i2 i3 ⊢
  subst i1
  unfold W_holdingMany_4
  refine cells_ok h ⟨fun _ => hQ _, fun c => ⟨by first | omega | (dsimp only; omega), fun v hv => ?_⟩⟩
  have v1 : 0 ≤ v ∧ v ≤ 1 := by split at hv <;> omega
  exact ⟨by unfold iR; first | omega | (dsimp only; omega), by unfold iR; first | omega | (dsimp only; omega), ⟨rfl, by first | omega | (dsimp only; omega), by first | omega | (dsimp only; omega)⟩, by first | omega | (dsimp only; omega)⟩
theorem rd_41 {s : im_S} (hr : rd s) (h5 : wgf s 5 ≠ 0) : 0 ≤ wgf s 41 ∧ wgf s 41 ≤ 80 := by
  rcases hr with q | ⟨n, nb, f, F, lo, hi, hr⟩
  · exact absurd q h5
  · have n80 := hr.1.1
    have e41 := hr.2.1
    omega
theorem count_q {w : Int} {s : im_S} {Q : Int → im_S → Prop} (hr : rd s) (hQ : ∀ v : Int, Q v s) : W_count w s Q := by
  have c3 : wgf s 5 ≠ 0 → W_count_23 w s Q := fun h => by
    unfold W_count_23 W_count_86
    exact ⟨fun _ => ⟨fun _ => ⟨fun _ => ⟨fun _ => ⟨fun _ => holdingMany_ok (rd_41 hr h) hQ, fun _ => hQ _⟩, fun _ => hQ _⟩, fun _ => hQ _⟩, fun _ => hQ _⟩, fun _ => hQ _⟩
  unfold W_count W_count_21
  refine ⟨fun _ => hQ _, fun w0 => ⟨fun _ => hQ _, fun w5 => ⟨fun le => ?_, fun gt => ⟨fun c5 => c3 c5, fun _ => hQ _⟩⟩⟩⟩
  unfold W_count_23 W_count_86
  exact ⟨fun a => ⟨fun b => ⟨fun c => absurd le (by first | omega | (dsimp only; omega)), fun _ => hQ _⟩, fun _ => hQ _⟩, fun _ => hQ _⟩
theorem holds_q {c : Int} {s : im_S} {Q : Int → im_S → Prop} (hr : rd s) (hQ : ∀ v : Int, Q v s) : W_holds c s Q := by
  unfold W_holds
  refine isCell_ok hr (fun c5 c0 c1 => ⟨fun _ => ?_, fun v _ => hQ v⟩) ⟨fun q => absurd rfl q, fun v _ => hQ v⟩
  have := rd_41 hr c5
  omega
theorem sign_q {c i : Int} {s : im_S} {Q : Int → im_S → Prop} (hr : rd s) (hQ : ∀ v : Int, Q v s) : W_sign c i s Q := by
  unfold W_sign W_sign_32
  refine isCell_ok hr (fun c5 c0 c1 => ⟨fun q => absurd q (by first | decide | omega | (dsimp only; omega) | (dsimp only; decide)), fun _ => isAtom_ok (fun _ i0 i6 => ⟨fun _ => ?_, fun _ => ?_, fun v _ => hQ v⟩) ⟨fun q => absurd rfl q, fun q => absurd rfl q, fun v _ => hQ v⟩⟩) ⟨fun _ => hQ _, fun q => absurd rfl q⟩
  · have := rd_41 hr c5
    unfold iR
    omega
  · have := rd_41 hr c5
    rcases hr with q | ⟨n, nb, f, F, lo, hi, hr⟩
    · exact absurd q c5
    · have := hr.2.2.2.2.2.1
      omega
theorem judge_q {w : Int} {s : im_S} {Q : Int → im_S → Prop} (hr : rd s) (hQ : ∀ v : Int, Q v s) : W_judge w s Q := by
  unfold W_judge W_judge_17
  refine ⟨fun _ => hQ _, fun c5 => ⟨fun _ => hQ _, fun w0 => ⟨fun w8 => ?_, fun _ => hQ _⟩⟩⟩
  have r41 := rd_41 hr c5
  refine ⟨fun a => a.2.2.2.2 = s ∧ (0 ≤ a.2.2.2.1 ∧ a.2.2.2.1 ≤ 2 * wgf s 41 + 1) ∧ (0 ≤ a.2.2.1 ∧ a.2.2.1 ≤ a.2.2.2.1), fun a => (2 * wgf s 41 + 1 - a.2.2.2.1).toNat, ⟨rfl, ⟨by first | decide | omega | (dsimp only; omega) | (dsimp only; decide), by show (0 : Int) ≤ _; omega⟩, by first | decide | omega | (dsimp only; omega) | (dsimp only; decide), by first | decide | omega | (dsimp only; omega) | (dsimp only; decide)⟩, ?_⟩
  rintro ⟨l2, l3, l4, l5, s2⟩ ⟨i1, i2, i3⟩
  dsimp only at i1 i2 i3 ⊢
  subst i1
  unfold W_judge_31
  refine cells_ok r41 ⟨fun c => holdingMany_ok r41 (fun m => ⟨fun _ v _ => hQ v, fun _ => cells_ok r41 (fun v _ => hQ v), fun _ => hQ _, fun _ => hQ _, fun _ => hQ _, fun _ v _ => hQ v, fun _ v _ => hQ v, fun _ => ⟨by first | decide | omega | (dsimp only; omega) | (dsimp only; decide), fun v _ => hQ v⟩, fun _ => cells_ok r41 ⟨by first | omega | (dsimp only; omega), fun v _ => hQ v⟩⟩), fun c => ⟨by first | omega | (dsimp only; omega), fun _ _ => by unfold iR; first | omega | (dsimp only; omega), fun _ _ _ => by unfold iR; first | omega | (dsimp only; omega), fun _ _ _ _ => by unfold iR; first | omega | (dsimp only; omega), fun _ _ _ _ => by unfold iR; first | omega | (dsimp only; omega), fun _ _ => by unfold iR; first | omega | (dsimp only; omega), fun _ _ _ => by unfold iR; first | omega | (dsimp only; omega), fun _ _ _ _ => by unfold iR; first | omega | (dsimp only; omega), fun _ _ _ _ => by unfold iR; first | omega | (dsimp only; omega), fun v1 _ v2 _ v3 hv3 => ⟨by unfold iR; first | omega | (dsimp only; omega), ⟨rfl, by first | omega | (dsimp only; omega), ?_⟩, by first | omega | (dsimp only; omega)⟩⟩⟩
  dsimp only
  have b : l4 ≤ v3 ∧ v3 ≤ l4 + 1 := by
    rw [hv3]
    split
    · omega
    · split
      · split
        · omega
        · split <;> omega
      · split
        · omega
        · split <;> omega
  omega
theorem type_q {x : Int} {s : im_S} {Q : Int → im_S → Prop} (h1 : 0 ≤ wgf s 1 ∧ wgf s 1 ≤ 400) (hQ : ∀ (z : Int) (s' : im_S), fw [1] [583] s s' → ((z = -1 ∧ wgf s' 1 = wgf s 1 ∧ (x < 32 ∨ 126 < x ∨ wgf s 1 = 400)) ∨ (z = wgf s 1 + 1 ∧ wgf s' 1 = z ∧ 32 ≤ x ∧ x ≤ 126 ∧ wgf s 1 < 400)) → Q z s') : W_type x s Q := by
  unfold W_type W_type_17 W_isSign
  intro v hv
  refine ⟨fun c => hQ _ s fw_rfl (Or.inl ⟨rfl, rfl, ?_⟩), fun c => ⟨fun c4 => ⟨by first | omega | (dsimp only; omega), fun s1 e1 => ?_⟩, fun c4 => hQ _ s fw_rfl (Or.inl ⟨rfl, rfl, Or.inr (Or.inr c4)⟩)⟩⟩
  · split at hv
    · omega
    · split at hv <;> omega
  · have z1 : wgf s1 1 = wgf s 1 := by rw [e1]; rfl
    refine ⟨by unfold iR; first | omega | (dsimp only; omega), fun s2 e2 => ?_⟩
    have z2 : wgf s2 1 = wgf s 1 + 1 := by rw [e2, wf_same, z1]
    refine hQ _ s2 (by rw [e2, e1]; exact fw_pf (fw_pa fw_rfl (by first | decide | omega | (dsimp only; omega) | (dsimp only; decide))) (by first | decide | omega | (dsimp only; omega) | (dsimp only; decide))) (Or.inr ⟨z2, rfl, ?_, ?_, by first | omega | (dsimp only; omega)⟩)
    · split at hv
      · omega
      · split at hv <;> omega
    · split at hv
      · omega
      · split at hv <;> omega
theorem fw_pol {s s' : im_S} {f : Int} {P : List Int} (h : fw [1] [583] s s') (hp : pol s f P) : pol s' f P := by
  obtain ⟨f1, f2, f3, f4, f5, f6⟩ := hp
  refine ⟨f1, by rw [fw_f h 28 (by first | decide | omega | (dsimp only; omega) | (dsimp only; decide))]; exact f2, by rw [fw_f h 28 (by first | decide | omega | (dsimp only; omega) | (dsimp only; decide))]; exact f3, f4, by rw [fw_r h 598 _ (by first | decide | omega | (dsimp only; omega) | (dsimp only; decide))]; exact f5, fun i hi => ?_⟩
  rw [fw_r h 599 _ (by first | decide | omega | (dsimp only; omega) | (dsimp only; decide))]
  obtain ⟨n1, n2⟩ := f6 i hi
  exact ⟨num_co n1 n1.1 n1.2.1 (fun t _ _ => fw_r h 597 _ (by first | decide | omega | (dsimp only; omega) | (dsimp only; decide))), by rw [fw_f h 24 (by first | decide | omega | (dsimp only; omega) | (dsimp only; decide))]; exact n2⟩
theorem fw_rk {s s' : im_S} {R : Nat} {f : Int} {F : List Int} {lo hi : Rat} (h : fw [1] [583] s s') (hk : rk s R f F lo hi) : rk s' R f F lo hi := by
  have r9 : ∀ (c : Nat) (i : Int), c ≠ 583 → wga s' c i = wga s c i := fun c i h1 => fw_r h c i (by simpa using h1)
  rcases hk with k | ⟨k1, k2, k3, hh, E, k4, ⟨i1, i2, i3, i4, i5, i6, i7, i8⟩, k6, k7⟩
  · exact Or.inl (by rw [r9 609 _ (by first | decide | omega | (dsimp only; omega) | (dsimp only; decide)), r9 608 _ (by first | decide | omega | (dsimp only; omega) | (dsimp only; decide))]; exact k)
  · exact Or.inr ⟨by rw [r9 609 _ (by first | decide | omega | (dsimp only; omega) | (dsimp only; decide))]; exact k1, k2, fw_pol h k3, hh, E, k4, ⟨by rw [r9 610 _ (by first | decide | omega | (dsimp only; omega) | (dsimp only; decide))]; exact i1, by rw [r9 611 _ (by first | decide | omega | (dsimp only; omega) | (dsimp only; decide))]; exact i2, by rw [r9 612 _ (by first | decide | omega | (dsimp only; omega) | (dsimp only; decide))]; exact i3, num_co i4 i4.1 i4.2.1 (fun t _ _ => r9 597 _ (by first | decide | omega | (dsimp only; omega) | (dsimp only; decide))), i5, i6, i7, by rw [r9 613 _ (by first | decide | omega | (dsimp only; omega) | (dsimp only; decide))]; exact i8⟩, k6, k7⟩
theorem fw_rd {s s' : im_S} (h : fw [1] [583] s s') (hr : rd s) : rd s' := by
  rcases hr with q | ⟨n, nb, f, F, lo, hi, r0, r1, r2, r3, r4, r5, r6, r7, r8, r9, r10⟩
  · exact Or.inl (by rw [fw_f h 5 (by first | decide | omega | (dsimp only; omega) | (dsimp only; decide))]; exact q)
  · have rr : ∀ (c : Nat) (i : Int), c ≠ 583 → wga s' c i = wga s c i := fun c i h1 => fw_r h c i (by simpa using h1)
    refine Or.inr ⟨n, nb, f, F, lo, hi, ⟨r0.1, fun R hR => fw_rk h (r0.2 R hR)⟩, by rw [fw_f h 41 (by first | decide | omega | (dsimp only; omega) | (dsimp only; decide))]; exact r1, by rw [fw_f h 34 (by first | decide | omega | (dsimp only; omega) | (dsimp only; decide))]; exact r2, r3, by rw [fw_f h 24 (by first | decide | omega | (dsimp only; omega) | (dsimp only; decide))]; exact r4, by rw [fw_f h 6 (by first | decide | omega | (dsimp only; omega) | (dsimp only; decide))]; exact r5, fun k hk => ?_, fun R hR => ?_, fun i hi => ?_, fun b hb => ?_, fun i hi => ?_⟩
    · rw [rr 614 _ (by first | decide | omega | (dsimp only; omega) | (dsimp only; decide))]; exact r6 k hk
    · rw [rr 607 _ (by first | decide | omega | (dsimp only; omega) | (dsimp only; decide))]; exact r7 R hR
    · rw [rr 606 _ (by first | decide | omega | (dsimp only; omega) | (dsimp only; decide))]; exact r8 i hi
    · rw [rr 602 _ (by first | decide | omega | (dsimp only; omega) | (dsimp only; decide)), rr 598 _ (by first | decide | omega | (dsimp only; omega) | (dsimp only; decide))]; exact r9 b hb
    · rw [fw_f h 6 (by first | decide | omega | (dsimp only; omega) | (dsimp only; decide))] at hi
      rw [rr 584 _ (by first | decide | omega | (dsimp only; omega) | (dsimp only; decide))]; exact r10 i hi
