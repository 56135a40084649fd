/-! THE QUESTIONS OF THE REFERENCE -/
def rdy (s : im_S) (n nb : Nat) (f : Nat → Int) (F : Nat → List Int) (lo hi : Nat → Rat) : Prop := rkl s n f F lo hi ∧ wgf s 41 = n ∧ wgf s 34 = nb ∧ nb ≤ 80 ∧ (0 ≤ wgf s 24 ∧ wgf s 24 ≤ 100000) ∧ (0 ≤ wgf s 6 ∧ wgf s 6 ≤ 10) ∧ (∀ k : Nat, k < n → ∃ R : Nat, R < n ∧ wga s 614 (k : Int) = R) ∧ (∀ R : Nat, R < n → 0 ≤ wga s 607 (R : Int) ∧ wga s 607 (R : Int) < 80) ∧ (∀ i : Nat, i < 2000 → 0 ≤ wga s 606 (i : Int) ∧ wga s 606 (i : Int) ≤ 8) ∧ (∀ b : Nat, b < nb → (0 ≤ wga s 602 (b : Int) ∧ wga s 602 (b : Int) < 1200) ∧ 0 ≤ wga s 598 (wga s 602 (b : Int)) ∧ wga s 598 (wga s 602 (b : Int)) ≤ 8) ∧ (∀ i : Nat, (i : Int) < 9 * wgf s 6 → -1000000000 ≤ wga s 584 (i : Int) ∧ wga s 584 (i : Int) ≤ 1000000000)
def rd (s : im_S) : Prop := wgf s 5 = 0 ∨ ∃ (n nb : Nat) (f : Nat → Int) (F : Nat → List Int) (lo hi : Nat → Rat), rdy s n nb f F lo hi
theorem rdy_rfq {s s' : im_S} {n nb : Nat} {f : Nat → Int} {F : Nat → List Int} {lo hi : Nat → Rat} (h : rfq s s') (hk : rkl s' n f F lo hi) (hr : rdy s n nb f F lo hi) : rdy s' n nb f F lo hi := by
  obtain ⟨_, r1, r2, r3, r4, r5, r6, r7, r8, r9, r10⟩ := hr
  have rf := fun f hf => rfq_f h f hf
  have rr := fun c i h1 h2 => rfq_row h c i h1 h2
  refine ⟨hk, by rw [rf 41 (by first | decide | omega | (dsimp only; omega) | (dsimp only; decide))]; exact r1, by rw [rf 34 (by first | decide | omega | (dsimp only; omega) | (dsimp only; decide))]; exact r2, r3, by rw [rf 24 (by first | decide | omega | (dsimp only; omega) | (dsimp only; decide))]; exact r4, by rw [rf 6 (by first | decide | omega | (dsimp only; omega) | (dsimp only; decide))]; exact r5, fun k hk => ?_, fun R hR => ?_, fun i hi => ?_, fun b hb => ?_, fun i hi => ?_⟩
  · rw [rr 614 _ (by first | decide | omega | (dsimp only; omega) | (dsimp only; decide)) (by first | decide | omega | (dsimp only; omega) | (dsimp only; decide))]; exact r6 k hk
  · rw [rr 607 _ (by first | decide | omega | (dsimp only; omega) | (dsimp only; decide)) (by first | decide | omega | (dsimp only; omega) | (dsimp only; decide))]; exact r7 R hR
  · rw [rr 606 _ (by first | decide | omega | (dsimp only; omega) | (dsimp only; decide)) (by first | decide | omega | (dsimp only; omega) | (dsimp only; decide))]; exact r8 i hi
  · rw [rr 602 _ (by first | decide | omega | (dsimp only; omega) | (dsimp only; decide)) (by first | decide | omega | (dsimp only; omega) | (dsimp only; decide)), rr 598 _ (by first | decide | omega | (dsimp only; omega) | (dsimp only; decide)) (by first | decide | omega | (dsimp only; omega) | (dsimp only; decide))]; exact r9 b hb
  · rw [rf 6 (by first | decide | omega | (dsimp only; omega) | (dsimp only; decide))] at hi
    rw [rr 584 _ (by first | decide | omega | (dsimp only; omega) | (dsimp only; decide)) (by first | decide | omega | (dsimp only; omega) | (dsimp only; decide))]; exact r10 i hi
theorem isAtom_ok {i : Int} {s : im_S} {Q : Int → im_S → Prop} (h1 : wgf s 5 ≠ 0 → 0 ≤ i → i < wgf s 6 → Q 1 s) (h0 : Q 0 s) : W_isAtom i s Q := by
  unfold W_isAtom
  intro v hv
  rw [hv]
  split
  · exact h0
  · split
    · exact h0
    · split
      · exact h0
      · exact h1 (by assumption) (by first | omega | (dsimp only; omega)) (by first | omega | (dsimp only; omega))
theorem isRoot_ok {i : Int} {s : im_S} {Q : Int → im_S → Prop} (h1 : wgf s 5 ≠ 0 → 0 ≤ i → i < wgf s 41 → Q 1 s) (h0 : Q 0 s) : W_isRoot i s Q := by
  unfold W_isRoot
  intro v hv
  rw [hv]
  split
  · exact h0
  · split
    · exact h0
    · split
      · exact h0
      · exact h1 (by assumption) (by first | omega | (dsimp only; omega)) (by first | omega | (dsimp only; omega))
theorem isNumber_ok {p q : Int} {s : im_S} {Q : Int → im_S → Prop} (h1 : -1000000000 ≤ p → p ≤ 1000000000 → 1 ≤ q → q ≤ 1000000000 → Q 1 s) (h0 : Q 0 s) : W_isNumber p q s Q := by
  unfold W_isNumber
  intro v hv
  rw [hv]
  split
  · exact h0
  · split
    · exact h0
    · split
      · exact h0
      · split
        · exact h0
        · exact h1 (by first | omega | (dsimp only; omega)) (by first | omega | (dsimp only; omega)) (by first | omega | (dsimp only; omega)) (by first | omega | (dsimp only; omega))
theorem cells_ok {s : im_S} {Q : Int → im_S → Prop} (h : 0 ≤ wgf s 41 ∧ wgf s 41 ≤ 80) (hQ : Q (2 * wgf s 41 + 1) s) : W_cells s Q := by
  unfold W_cells
  exact ⟨by unfold iR; first | omega | (dsimp only; omega), by unfold iR; first | omega | (dsimp only; omega), hQ⟩
theorem isCell_ok {i : Int} {s : im_S} {Q : Int → im_S → Prop} (hr : rd s) (h1 : wgf s 5 ≠ 0 → 0 ≤ i → i ≤ 2 * wgf s 41 → Q 1 s) (h0 : Q 0 s) : W_isCell i s Q := by
  unfold W_isCell W_isCell_23 W_isCell_24
  refine ⟨fun _ => h0, fun c => ⟨fun _ => h0, fun c2 => ?_⟩⟩
  rcases hr with q | ⟨n, nb, f, F, lo, hi, hr⟩
  · exact absurd q c
  have n80 := hr.1.1
  have e41 := hr.2.1
  refine cells_ok (by first | omega | (dsimp only; omega)) (fun v hv => ?_)
  rw [hv]
  split
  · exact h0
  · exact h1 c (by first | omega | (dsimp only; omega)) (by first | omega | (dsimp only; omega))
theorem degreeOf_ok {i : Int} {s : im_S} {Q : Int → im_S → Prop} (hi : 0 ≤ i ∧ i < 10) (hQ : ∀ v : Int, -1 ≤ v ∧ v ≤ 8 → Q v s) : W_degreeOf i s Q := by
  unfold W_degreeOf
  refine ⟨fun a => a.2 = s ∧ -1 ≤ a.1 ∧ a.1 ≤ 8, fun a => (a.1 + 1).toNat, ⟨rfl, by first | decide | omega | (dsimp only; omega) | (dsimp only; decide), by first | decide | omega | (dsimp only; omega) | (dsimp only; decide)⟩, ?_⟩
  rintro ⟨l, s2⟩ ⟨i1, i2, i3⟩
  dsimp only at i1 i2 i3 ⊢
  subst i1
  unfold W_degreeOf_3 W_degreeOf_29
  refine ⟨fun _ => hQ l (by first | omega | (dsimp only; omega)), fun c => ⟨by unfold iR; first | omega | (dsimp only; omega), by first | omega | (dsimp only; omega), fun _ => hQ l (by first | omega | (dsimp only; omega)), fun _ => ⟨by unfold iR; first | omega | (dsimp only; omega), ⟨rfl, by first | omega | (dsimp only; omega), by first | omega | (dsimp only; omega)⟩, by first | omega | (dsimp only; omega)⟩⟩⟩
theorem timesAt_ok {s : im_S} {n nb : Nat} {f : Nat → Int} {F : Nat → List Int} {lo hi : Nat → Rat} {k i : Int} {Q : Int → im_S → Prop} (hr : rdy s n nb f F lo hi) (hk : 0 ≤ k ∧ k < n) (hi : 0 ≤ i ∧ i < 10) (hQ : ∀ v : Int, 0 ≤ v ∧ v ≤ 8 → Q v s) : W_timesAt k i s Q := by
  obtain ⟨r0, r1, r2, r3, r4, r5, r6, r7, r8, r9, r10⟩ := hr
  have n80 := r0.1
  obtain ⟨kn, rfl⟩ : ∃ kn : Nat, k = kn := ⟨k.toNat, by first | omega | (dsimp only; omega)⟩
  obtain ⟨R, hR, eR⟩ := r6 kn (by first | omega | (dsimp only; omega))
  have b := r7 R hR
  unfold W_timesAt
  rw [eR]
  obtain ⟨z, hz⟩ : ∃ z : Nat, 10 * wga s 607 (R : Int) + i = z := ⟨(10 * wga s 607 (R : Int) + i).toNat, by first | omega | (dsimp only; omega)⟩
  refine ⟨by first | omega | (dsimp only; omega), by first | omega | (dsimp only; omega), by unfold iR; first | omega | (dsimp only; omega), by first | omega | (dsimp only; omega), ?_⟩
  rw [hz]
  exact hQ _ (r8 z (by first | omega | (dsimp only; omega)))
theorem atom_q {i k : Int} {s : im_S} {Q : Int → im_S → Prop} (hr : rd s) (hQ : ∀ v : Int, Q v s) : W_atom i k s Q := by
  unfold W_atom W_atom_18
  refine isAtom_ok (fun c5 i0 i6 => ⟨fun c => absurd c (by first | decide | omega | (dsimp only; omega) | (dsimp only; decide)), fun _ => ⟨fun _ => hQ _, fun k0 => ⟨fun k12 => ⟨fun k9 => ?_, fun k9 => ?_⟩, fun _ => hQ _⟩⟩⟩) ⟨fun _ => hQ _, fun c => absurd rfl c⟩
  · rcases hr with q | ⟨n, nb, f, F, lo, hi, hr⟩
    · exact absurd q c5
    have hr' := hr
    obtain ⟨r0, r1, r2, r3, r4, r5, r6, r7, r8, r9, r10⟩ := hr
    have n80 := r0.1
    refine degreeOf_ok (by first | omega | (dsimp only; omega)) (fun v hv => ⟨fun c9 => ⟨fun c10 => ?_, fun _ => ⟨by first | omega | (dsimp only; omega), hQ _⟩⟩, fun _ w _ => hQ w⟩)
    refine ⟨fun a => a.2.2 = s ∧ (0 ≤ a.2.1 ∧ a.2.1 ≤ n) ∧ (0 ≤ a.1 ∧ a.1 ≤ a.2.1), fun a => (n - a.2.1).toNat, ⟨rfl, ⟨by first | decide | omega | (dsimp only; omega) | (dsimp only; decide), by show (0 : Int) ≤ n; omega⟩, by first | decide | omega | (dsimp only; omega) | (dsimp only; decide), by first | decide | omega | (dsimp only; omega) | (dsimp only; decide)⟩, ?_⟩
    rintro ⟨l4, l6, s2⟩ ⟨i1, i2, i3⟩
    dsimp only at i1 i2 i3 ⊢
    subst i1
    unfold W_atom_86
    refine ⟨fun c => ?_, fun c => timesAt_ok hr' (by first | omega | (dsimp only; omega)) (by first | omega | (dsimp only; omega)) (fun v hv w hw => ⟨by unfold iR; split at hw <;> omega, by unfold iR; first | omega | (dsimp only; omega), ⟨rfl, by first | omega | (dsimp only; omega), by dsimp only; split at hw <;> omega⟩, by first | omega | (dsimp only; omega)⟩)⟩
    refine ⟨fun a => a.2.2 = s2 ∧ (0 ≤ a.2.1 ∧ a.2.1 ≤ nb) ∧ (0 ≤ a.1 ∧ a.1 ≤ 8 * a.2.1), fun a => (nb - a.2.1).toNat, ⟨rfl, ⟨by first | decide | omega | (dsimp only; omega) | (dsimp only; decide), by show (0 : Int) ≤ nb; omega⟩, by first | decide | omega | (dsimp only; omega) | (dsimp only; decide), by first | decide | omega | (dsimp only; omega) | (dsimp only; decide)⟩, ?_⟩
    rintro ⟨l5, l7, s3⟩ ⟨j1, j2, j3⟩
    dsimp only at j1 j2 j3 ⊢
    subst j1
    unfold W_atom_124
    refine ⟨fun c => ⟨fun _ => by unfold iR; first | omega | (dsimp only; omega), fun w _ => hQ w⟩, fun c => ?_⟩
    obtain ⟨b, rfl⟩ : ∃ b : Nat, l7 = b := ⟨l7.toNat, by first | omega | (dsimp only; omega)⟩
    obtain ⟨b1, b2⟩ := r9 b (by first | omega | (dsimp only; omega))
    refine ⟨by unfold iR; first | omega | (dsimp only; omega), by first | omega | (dsimp only; omega), fun _ => by first | omega | (dsimp only; omega), fun _ => b1, fun w hw => ?_⟩
    have w1 : 0 ≤ w ∧ w ≤ 8 := by split at hw <;> omega
    exact ⟨by unfold iR; first | omega | (dsimp only; omega), by unfold iR; first | omega | (dsimp only; omega), ⟨rfl, by first | omega | (dsimp only; omega), by first | omega | (dsimp only; omega)⟩, by first | omega | (dsimp only; omega)⟩
  · rcases hr with q | ⟨n, nb, f, F, lo, hi, hr⟩
    · exact absurd q c5
    obtain ⟨r0, r1, r2, r3, r4, r5, r6, r7, r8, r9, r10⟩ := hr
    obtain ⟨z, hz⟩ : ∃ z : Nat, 9 * i + k = z := ⟨(9 * i + k).toNat, by first | omega | (dsimp only; omega)⟩
    have b := r10 z (by first | omega | (dsimp only; omega))
    refine ⟨by unfold iR; first | omega | (dsimp only; omega), by first | omega | (dsimp only; omega), ?_, hQ _⟩
    rw [hz]
    unfold iR
    omega
theorem times_q {k i : Int} {s : im_S} {Q : Int → im_S → Prop} (hr : rd s) (hQ : ∀ v : Int, Q v s) : W_times k i s Q := by
  unfold W_times W_times_16 W_times_39
  refine isRoot_ok (fun c5 k0 k41 => ⟨fun c => absurd c (by first | decide | omega | (dsimp only; omega) | (dsimp only; decide)), fun _ => isAtom_ok (fun _ i0 i6 => ⟨fun _ => ?_, fun c => absurd c (by first | decide | omega | (dsimp only; omega) | (dsimp only; decide))⟩) ⟨fun c => absurd rfl c, fun _ => hQ _⟩⟩) ⟨fun _ => hQ _, fun c => absurd rfl c⟩
  rcases hr with q | ⟨n, nb, f, F, lo, hi, hr⟩
  · exact absurd q c5
  have e41 := hr.2.1
  have e6 := hr.2.2.2.2.2.1
  exact degreeOf_ok (by first | omega | (dsimp only; omega)) (fun v hv => ⟨fun _ => timesAt_ok hr (by first | omega | (dsimp only; omega)) (by first | omega | (dsimp only; omega)) (fun v _ => hQ v), fun _ => hQ _⟩)
theorem exact_q {k w : Int} {s : im_S} {Q : Int → im_S → Prop} (hr : rd s) (hQ : ∀ v : Int, Q v s) : W_exact k w s Q := by
  unfold W_exact W_exact_17
  refine isRoot_ok (fun c5 k0 k41 => ⟨fun c => absurd c (by first | decide | omega | (dsimp only; omega) | (dsimp only; decide)), fun _ => ⟨fun _ => hQ _, fun _ => ⟨fun _ => ?_, fun _ => hQ _⟩⟩⟩) ⟨fun _ => hQ _, fun c => absurd rfl c⟩
  rcases hr with q | ⟨n, nb, f, F, lo, hi, hr⟩
  · exact absurd q c5
  have n80 := hr.1.1
  have e41 := hr.2.1
  obtain ⟨kn, rfl⟩ : ∃ kn : Nat, k = kn := ⟨k.toNat, by first | omega | (dsimp only; omega)⟩
  obtain ⟨R, hR, eR⟩ := hr.2.2.2.2.2.2.1 kn (by first | omega | (dsimp only; omega))
  rw [eR]
  exact ⟨by first | omega | (dsimp only; omega), by first | omega | (dsimp only; omega), fun v _ => hQ v⟩
theorem common_q {k : Int} {s : im_S} {Q : Int → im_S → Prop} (hr : rd s) (hQ : ∀ v : Int, Q v s) : W_common k s Q := by
  unfold W_common
  refine isRoot_ok (fun c5 k0 k41 => ⟨fun _ => ?_, fun c => absurd c (by first | decide | omega | (dsimp only; omega) | (dsimp only; decide))⟩) ⟨fun c => absurd rfl c, fun _ => hQ _⟩
  rcases hr with q | ⟨n, nb, f, F, lo, hi, hr⟩
  · exact absurd q c5
  have hr' := hr
  obtain ⟨r0, r1, r2, r3, r4, r5, r6, r7, r8, r9, r10⟩ := hr
  have n80 := r0.1
  refine ⟨fun a => a.2.2 = s ∧ (0 ≤ a.2.1 ∧ a.2.1 ≤ nb) ∧ (0 ≤ a.1 ∧ a.1 ≤ 8 * a.2.1), fun a => (nb - a.2.1).toNat, ⟨rfl, ⟨by first | decide | omega | (dsimp only; omega) | (dsimp only; decide), by show (0 : Int) ≤ nb; omega⟩, by first | decide | omega | (dsimp only; omega) | (dsimp only; decide), by first | decide | omega | (dsimp only; omega) | (dsimp only; decide)⟩, ?_⟩
  rintro ⟨l2, l3, s2⟩ ⟨i1, i2, i3⟩
  dsimp only at i1 i2 i3 ⊢
  subst i1
  unfold W_common_14
  refine ⟨fun _ => hQ _, fun c => ?_⟩
  refine ⟨fun a => a.2.2 = s2 ∧ (0 ≤ a.2.1 ∧ a.2.1 ≤ wgf s2 6), fun a => (wgf s2 6 - a.2.1).toNat, ⟨rfl, by first | decide | omega | (dsimp only; omega) | (dsimp only; decide), by show (0 : Int) ≤ wgf s2 6; omega⟩, ?_⟩
  rintro ⟨l4, l5, s3⟩ ⟨j1, j2⟩
  dsimp only at j1 j2 ⊢
  subst j1
  unfold W_common_28 W_common_72
  obtain ⟨b, rfl⟩ : ∃ b : Nat, l3 = b := ⟨l3.toNat, by first | omega | (dsimp only; omega)⟩
  obtain ⟨b1, b2⟩ := r9 b (by first | omega | (dsimp only; omega))
  refine ⟨fun _ => ⟨fun _ => by first | omega | (dsimp only; omega), fun _ => b1, fun w hw => ?_⟩, fun c' => ⟨fun _ => ⟨by unfold iR; first | omega | (dsimp only; omega), ⟨rfl, by first | omega | (dsimp only; omega)⟩, by first | omega | (dsimp only; omega)⟩, fun _ => timesAt_ok hr' (by first | omega | (dsimp only; omega)) (by first | omega | (dsimp only; omega)) (fun v hv => ⟨fun _ => by unfold iR; first | omega | (dsimp only; omega), fun _ => by first | omega | (dsimp only; omega), fun w _ => ⟨by unfold iR; first | omega | (dsimp only; omega), ⟨rfl, by first | omega | (dsimp only; omega)⟩, by first | omega | (dsimp only; omega)⟩⟩)⟩⟩
  have w1 : 0 ≤ w ∧ w ≤ 8 := by split at hw <;> omega
  exact ⟨by unfold iR; first | omega | (dsimp only; omega), by unfold iR; first | omega | (dsimp only; omega), ⟨rfl, by first | omega | (dsimp only; omega), by first | omega | (dsimp only; omega)⟩, by first | omega | (dsimp only; omega)⟩
theorem cellOf_q {p q : Int} {s : im_S} {Q : Int → im_S → Prop} (hr : rd s) (hQ : ∀ (v : Int) (s' : im_S), rfq s s' → rd s' → Q v s') : W_cellOf p q s Q := by
  unfold W_cellOf W_cellOf_15
  refine isNumber_ok (fun p1 p2 q1 q2 => ⟨fun c => absurd c (by first | decide | omega | (dsimp only; omega) | (dsimp only; decide)), fun _ => ⟨fun c5 => ?_, fun _ => hQ _ s rfq_rfl hr⟩⟩) ⟨fun _ => hQ _ s rfq_rfl hr, fun c => absurd rfl c⟩
  rcases hr with q | ⟨n, nb, f, F, lo, hi, hr⟩
  · exact absurd q c5
  refine ⟨fun a => rfq s a.2.2 ∧ rdy a.2.2 n nb f F lo hi ∧ (0 ≤ a.1 ∧ a.1 ≤ n) ∧ (-1 ≤ a.2.1 ∧ a.2.1 ≤ 1), fun a => (n - a.1).toNat + (if a.2.1 < 0 then 1 else 0), ⟨rfq_rfl, hr, ⟨by first | decide | omega | (dsimp only; omega) | (dsimp only; decide), by show (0 : Int) ≤ n; omega⟩, by first | decide | omega | (dsimp only; omega) | (dsimp only; decide), by first | decide | omega | (dsimp only; omega) | (dsimp only; decide)⟩, ?_⟩
  rintro ⟨l3, l4, s2⟩ ⟨i1, i2, i3, i4⟩
  dsimp only at i1 i2 i3 i4 ⊢
  have n80 := hr.1.1
  have e41 := i2.2.1
  have e24 := i2.2.2.2.2.1
  have fin : W_cellOf_67 l3 l4 s2 Q := by
    unfold W_cellOf_67
    refine ⟨fun _ _ => by unfold iR; first | omega | (dsimp only; omega), fun _ _ => by unfold iR; first | omega | (dsimp only; omega), fun _ _ => by unfold iR; first | omega | (dsimp only; omega), fun _ => by unfold iR; first | omega | (dsimp only; omega), fun v _ => hQ v s2 i1 (Or.inr ⟨n, nb, f, F, lo, hi, i2⟩)⟩
  unfold W_cellOf_22
  refine ⟨fun _ => fin, fun c => ⟨fun _ => fin, fun c' => ⟨by first | omega | (dsimp only; omega), ?_⟩⟩⟩
  obtain ⟨kn, rfl⟩ : ∃ kn : Nat, l3 = kn := ⟨l3.toNat, by first | omega | (dsimp only; omega)⟩
  obtain ⟨R, hR, eR⟩ := i2.2.2.2.2.2.2.1 kn (by first | omega | (dsimp only; omega))
  rw [eR]
  refine against_ok i2.1 hR (by first | omega | (dsimp only; omega)) (by first | omega | (dsimp only; omega)) (by first | omega | (dsimp only; omega)) (by first | omega | (dsimp only; omega)) (fun v s3 hv a b w hw => ?_)
  refine ⟨by unfold iR; split at hw <;> omega, ⟨rfq_tr i1 a, rdy_rfq a b i2, ?_, hv⟩, ?_⟩
  · split at hw <;> omega
  · rw [if_pos (show l4 < 0 by first | omega | (dsimp only; omega))]
    split at hw
    · rw [if_neg (show ¬ v < 0 by first | omega | (dsimp only; omega))]; omega
    · rw [if_pos (show v < 0 by first | omega | (dsimp only; omega))]; omega
theorem root_q {k n' : Int} {s : im_S} {Q : Int → im_S → Prop} (hr : rd s) (hQ : ∀ (v : Int) (s' : im_S), rfq s s' → rd s' → Q v s') : W_root k n' s Q := by
  unfold W_root W_root_18
  refine isRoot_ok (fun c5 k0 k41 => ⟨fun c => absurd c (by first | decide | omega | (dsimp only; omega) | (dsimp only; decide)), fun _ => ⟨fun _ => hQ _ s rfq_rfl hr, fun n0 => ⟨fun n8 => ?_, fun _ => hQ _ s rfq_rfl hr⟩⟩⟩) ⟨fun _ => hQ _ s rfq_rfl hr, fun c => absurd rfl c⟩
  rcases hr with q | ⟨n, nb, f, F, lo, hi, hr⟩
  · exact absurd q c5
  refine ⟨fun a => a.2.2 = s ∧ (0 ≤ a.2.1 ∧ a.2.1 ≤ 8) ∧ ∃ j : Nat, a.2.1 = j ∧ a.1 = 10 ^ j, fun a => (8 - a.2.1).toNat, ⟨rfl, ⟨by first | decide | omega | (dsimp only; omega) | (dsimp only; decide), by first | decide | omega | (dsimp only; omega) | (dsimp only; decide)⟩, 0, rfl, rfl⟩, ?_⟩
  rintro ⟨l3, l5, s2⟩ ⟨i1, i2, j, j1, j2⟩
  dsimp only at i1 i2 j1 j2 ⊢
  subst i1
  have p1 : (1 : Int) ≤ 10 ^ j ∧ (10 : Int) ^ j ≤ 100000000 := by
    have a : 10 ^ j ≤ 10 ^ 8 := Nat.pow_le_pow_right (by first | decide | omega | (dsimp only; omega) | (dsimp only; decide)) (by first | omega | (dsimp only; omega))
    have b : 1 ≤ 10 ^ j := Nat.one_le_pow _ _ (by first | decide | omega | (dsimp only; omega) | (dsimp only; decide))
    have e : ((10 ^ j : Nat) : Int) = (10 : Int) ^ j := by rw [Int.natCast_pow]; rfl
    omega
  unfold W_root_27
  refine ⟨fun _ => ⟨by have := hr.1.1; have := hr.2.1; omega, ?_⟩, fun c => ⟨by unfold lR; first | omega | (dsimp only; omega), by unfold iR; first | omega | (dsimp only; omega), ⟨rfl, by first | omega | (dsimp only; omega), j + 1, by first | omega | (dsimp only; omega), by rw [j2, Int.pow_succ]⟩, by first | omega | (dsimp only; omega)⟩⟩
  have e41 := hr.2.1
  have e24 := hr.2.2.2.2.1
  obtain ⟨kn, rfl⟩ : ∃ kn : Nat, k = kn := ⟨k.toNat, by first | omega | (dsimp only; omega)⟩
  obtain ⟨R, hR, eR⟩ := hr.2.2.2.2.2.2.1 kn (by first | omega | (dsimp only; omega))
  rw [eR]
  exact floorOf_ok hr.1 hR (by first | omega | (dsimp only; omega)) (by first | omega | (dsimp only; omega)) (by first | omega | (dsimp only; omega)) (fun v s3 _ a b => hQ v s3 a (Or.inr ⟨n, nb, f, F, lo, hi, rdy_rfq a b hr⟩))
theorem simple_q {c w : Int} {s : im_S} {Q : Int → im_S → Prop} (hr : rd s) (hQ : ∀ (v : Int) (s' : im_S), rfq s s' → rd s' → Q v s') : W_simple c w s Q := by
  unfold W_simple W_simple_17
  refine isCell_ok hr (fun c5 c0 c41 => ⟨fun c => absurd c (by first | decide | omega | (dsimp only; omega) | (dsimp only; decide)), fun _ => ⟨fun _ => hQ _ s rfq_rfl hr, fun w0 => ⟨fun w1 => ⟨fun odd v1 hv1 => ?_, fun odd => ?_⟩, fun _ => hQ _ s rfq_rfl hr⟩⟩⟩) ⟨fun _ => hQ _ s rfq_rfl hr, fun c => absurd rfl c⟩
  · rcases hr with q | ⟨n, nb, f, F, lo, hi, hr⟩
    · exact absurd q c5
    have n80 := hr.1.1
    have e41 := hr.2.1
    refine cells_ok (by first | omega | (dsimp only; omega)) ⟨by unfold iR; first | omega | (dsimp only; omega), fun v2 hv2 => ?_⟩
    refine ⟨fun a => rfq s a.2 ∧ rdy a.2 n nb f F lo hi ∧ (1 ≤ a.1 ∧ a.1 ≤ 2001), fun a => (2001 - a.1).toNat, ⟨rfq_rfl, hr, by first | decide | omega | (dsimp only; omega) | (dsimp only; decide), by first | decide | omega | (dsimp only; omega) | (dsimp only; decide)⟩, ?_⟩
    rintro ⟨l5, s2⟩ ⟨i1, i2, i3⟩
    dsimp only at i1 i2 i3 ⊢
    have td : c.tdiv 2 = c / 2 := Int.tdiv_eq_ediv_of_nonneg c0
    have tm : c.tmod 2 = c % 2 := Int.tmod_eq_emod_of_nonneg c0
    rw [tm] at odd
    have u183 : ∀ (l7 k0 : Int) (s3 : im_S), rfq s s3 → rdy s3 n nb f F lo hi → W_simple_183 (fun b => (rfq s b.2 ∧ rdy b.2 n nb f F lo hi ∧ (1 ≤ b.1 ∧ b.1 ≤ 2001)) ∧ (2001 - b.1).toNat < (2001 - l5).toNat) c w v1 v2 l5 l7 k0 s3 Q ∨ 2000 < l5 := fun l7 k0 s3 a1 a2 => by
      by_cases big : 2000 < l5
      · exact Or.inr big
      refine Or.inl ?_
      unfold W_simple_183 W_simple_248
      have ok : ∀ z : Int, Q z s3 := fun z => hQ z s3 a1 (Or.inr ⟨n, nb, f, F, lo, hi, a2⟩)
      exact fun _ _ => ⟨fun _ => ⟨fun _ _ _ z _ => ok z, fun _ => ⟨fun _ _ _ z _ => ok z, fun _ => ⟨fun _ => ⟨by unfold lR; first | omega | (dsimp only; omega), ⟨a1, a2, by first | omega | (dsimp only; omega)⟩, by first | omega | (dsimp only; omega)⟩, fun _ _ _ z _ => ok z⟩⟩⟩, fun _ z _ => ok z⟩
    have u158 : ∀ (k0 : Int) (s3 : im_S), ¬ 2000 < l5 → rfq s s3 → rdy s3 n nb f F lo hi → W_simple_158 (fun b => (rfq s b.2 ∧ rdy b.2 n nb f F lo hi ∧ (1 ≤ b.1 ∧ b.1 ≤ 2001)) ∧ (2001 - b.1).toNat < (2001 - l5).toNat) c w v1 v2 l5 k0 s3 Q := fun k0 s3 nb' a1 a2 => by
      unfold W_simple_158
      refine ⟨fun _ => (u183 _ _ s3 a1 a2).resolve_right nb', fun z2 => ?_⟩
      have cn : c < 2 * wgf s 41 := by
        refine Classical.byContradiction fun q => z2 ?_
        rw [hv2, if_pos (by first | omega | (dsimp only; omega))]
      rw [td]
      obtain ⟨kn, hkn⟩ : ∃ kn : Nat, c / 2 = kn := ⟨(c / 2).toNat, by first | omega | (dsimp only; omega)⟩
      rw [hkn]
      obtain ⟨R, hR, eR⟩ := a2.2.2.2.2.2.2.1 kn (by first | omega | (dsimp only; omega))
      have e24 := a2.2.2.2.2.1
      rw [eR]
      exact ⟨by first | omega | (dsimp only; omega), mostBelow_ok a2.1 hR (by first | omega | (dsimp only; omega)) (by first | omega | (dsimp only; omega)) (by first | omega | (dsimp only; omega)) (fun v s4 _ b1 b2 => (u183 _ _ s4 (rfq_tr a1 b1) (rdy_rfq b1 b2 a2)).resolve_right nb')⟩
    unfold W_simple_123
    refine ⟨fun _ => hQ _ s2 i1 (Or.inr ⟨n, nb, f, F, lo, hi, i2⟩), fun nb' => ⟨fun _ => u158 _ s2 nb' i1 i2, fun z1 => ?_⟩⟩
    have cp : 0 < c := by
      refine Classical.byContradiction fun q => z1 ?_
      rw [hv1, if_pos (by first | omega | (dsimp only; omega))]
    rw [td]
    obtain ⟨kn, hkn⟩ : ∃ kn : Nat, c / 2 - 1 = kn := ⟨(c / 2 - 1).toNat, by first | omega | (dsimp only; omega)⟩
    rw [hkn]
    obtain ⟨R, hR, eR⟩ := i2.2.2.2.2.2.2.1 kn (by first | omega | (dsimp only; omega))
    have e24 := i2.2.2.2.2.1
    rw [eR]
    exact ⟨by first | omega | (dsimp only; omega), floorOf_ok i2.1 hR (by first | omega | (dsimp only; omega)) (by first | omega | (dsimp only; omega)) (by first | omega | (dsimp only; omega)) (fun v s4 hv b1 b2 => ⟨by unfold lR; first | omega | (dsimp only; omega), u158 _ s4 nb' (rfq_tr i1 b1) (rdy_rfq b1 b2 i2)⟩)⟩
  · have td : c.tdiv 2 = c / 2 := Int.tdiv_eq_ediv_of_nonneg c0
    have tm : c.tmod 2 = c % 2 := Int.tmod_eq_emod_of_nonneg c0
    rw [tm] at odd
    have hr' := hr
    rcases hr with q | ⟨n, nb, f, F, lo, hi, hr⟩
    · exact absurd q c5
    have n80 := hr.1.1
    have e41 := hr.2.1
    rw [td]
    obtain ⟨kn, hkn⟩ : ∃ kn : Nat, c / 2 = kn := ⟨(c / 2).toNat, by first | omega | (dsimp only; omega)⟩
    rw [hkn]
    obtain ⟨R, hR, eR⟩ := hr.2.2.2.2.2.2.1 kn (by first | omega | (dsimp only; omega))
    rw [eR]
    exact ⟨by first | omega | (dsimp only; omega), by first | omega | (dsimp only; omega), fun v _ => hQ v s rfq_rfl hr'⟩
