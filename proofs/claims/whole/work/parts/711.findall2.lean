/-! findAll: factors, bases -/
theorem all_53 {s0 s : im_S} {n m : Nat} {c : Nat → List Int} {Q : im_S → Prop} (hf : fi s n c) (hd : dsm c n ≤ 80) (h34 : wgf s 34 = 0) (h41 : wgf s 41 = 0) (h52 : wgf s 52 = 0) (h6 : 0 ≤ wgf s 6 ∧ wgf s 6 ≤ 10) (h584 : ∀ i : Nat, (i : Int) < 9 * wgf s 6 → -1000000000 ≤ wga s 584 (i : Int) ∧ wga s 584 (i : Int) ≤ 1000000000) (h10 : wgf s 10 = m) (hm : mok s m) (hfa : fa s0 s) (hQ : ∀ (s' : im_S) (n nb : Nat) (f : Nat → Int) (F : Nat → List Int) (lo hi : Nat → Rat), fa s0 s' → rdy s' n nb f F lo hi → Q s') : wloop (fun (K : Int × im_S → Prop) (a : Int × im_S) => W_findAll_53 K a.1 a.2 Q) (0, s) := by
  obtain ⟨g1, g2, g3, g4, g5⟩ := hf
  have n80 : n ≤ 80 := by
    have := dsm_n (c := c) (n := n) (fun k hk => (g5 k hk).2.1.2.2.1)
    omega
  refine ⟨fun a => fa s a.2 ∧ wgf a.2 41 = 0 ∧ wgf a.2 52 = 0 ∧ fx a.2 n c ∧ ∃ l : Nat, a.1 = l ∧ l ≤ n ∧ (0 ≤ wgf a.2 24 ∧ wgf a.2 24 ≤ 40 * n + 72 * (dsm c l : Nat)) ∧ (0 ≤ wgf a.2 28 ∧ wgf a.2 28 ≤ n + 2 * (dsm c l : Nat)) ∧ ∃ (nb : Nat) (b : Nat → List Int), bi a.2 nb b ∧ dsm b nb ≤ dsm c l, fun a => (n - a.1).toNat, ⟨fa_rfl, h41, h52, ⟨g1, n80, g5⟩, 0, rfl, by first | omega | (dsimp only; omega), by first | omega | (dsimp only; omega), by first | omega | (dsimp only; omega), 0, fun _ => [], ⟨h34, fun k hk => absurd hk (Nat.not_lt_zero k), fun i j _ hj => absurd hj (Nat.not_lt_zero j)⟩, Nat.le_refl _⟩, ?_⟩
  rintro ⟨l1, s2⟩ ⟨i1, i2, i3, i4, l, i5, i6, i7, i8, nb, b, i9, i10⟩
  dsimp only at i1 i2 i3 i4 i5 i7 i8 i9 ⊢
  subst i5
  have e6 := fa_f i1 6 (by first | decide | omega | (dsimp only; omega) | (dsimp only; decide))
  have e10 := fa_f i1 10 (by first | decide | omega | (dsimp only; omega) | (dsimp only; decide))
  have e36 : wgf s2 36 = n := i4.1
  have dl : dsm c l ≤ 80 := by
    have := dsm_mo (c := c) (n := l) (m := n - l)
    rw [show l + (n - l) = n by first | omega | (dsimp only; omega)] at this
    omega
  unfold W_findAll_53
  rw [e36]
  refine ⟨fun q => ?_, fun q => ⟨by first | omega | (dsimp only; omega), ?_⟩⟩
  · refine findTimes_ok (n := n) (nb := nb) (by first | omega | (dsimp only; omega)) (by first | omega | (dsimp only; omega)) i4 i9 (by first | omega | (dsimp only; omega)) (fun s3 a1 a2 a3 a4 => ?_)
    have fa3 : fa s2 s3 := pw_fa a1 (fun f hf => by simp at hf; omega) (fun c hc => by simp at hc; omega)
    have fs3 := fa_tr i1 fa3
    have x6 := fa_f fs3 6 (by first | decide | omega | (dsimp only; omega) | (dsimp only; decide))
    have x10 := fa_f fs3 10 (by first | decide | omega | (dsimp only; omega) | (dsimp only; decide))
    refine all_83 (m := m) (pw_bi a1 (by first | decide | omega | (dsimp only; omega) | (dsimp only; decide)) (fun r hr => by simp at hr; omega) (by first | omega | (dsimp only; omega)) (by first | omega | (dsimp only; omega)) (by first | omega | (dsimp only; omega)) i9) (by first | omega | (dsimp only; omega)) (by first | omega | (dsimp only; omega)) (by first | omega | (dsimp only; omega)) ?_ ?_ (by first | omega | (dsimp only; omega)) a4 (fun i hi => ?_) (by first | omega | (dsimp only; omega)) (mok_co (fun i _ => fa_r fs3 _ _ (by first | decide | omega | (dsimp only; omega) | (dsimp only; decide))) hm) (fa_tr hfa fs3) (fun s' n' f F lo hi b1 b2 => hQ s' n' nb f F lo hi b1 b2)
    · rw [pw_f a1 (by first | decide | omega | (dsimp only; omega) | (dsimp only; decide))]; exact i2
    · rw [pw_f a1 (by first | decide | omega | (dsimp only; omega) | (dsimp only; decide))]; exact i3
    · rw [x6] at hi
      rw [fa_r fs3 _ _ (by first | decide | omega | (dsimp only; omega) | (dsimp only; decide))]; exact h584 i hi
  · have dl2 : dsm c (l + 1) = dsm c l + ((c l).length - 1) := rfl
    have dl3 : dsm c (l + 1) ≤ 80 := by
      have := dsm_mo (c := c) (n := l + 1) (m := n - (l + 1))
      rw [show l + 1 + (n - (l + 1)) = n by first | omega | (dsimp only; omega)] at this
      omega
    obtain ⟨p1, p2, _⟩ := i4.2.2 l (by first | omega | (dsimp only; omega))
    refine join_ok (nb := nb) (b := b) (by first | omega | (dsimp only; omega)) (by first | omega | (dsimp only; omega)) p1 p2 i9 (by first | omega | (dsimp only; omega)) (fun s3 N b' a1 a2 a3 a4 a5 a6 a7 => ?_)
    have fa3 : fa s2 s3 := pw_fa a1 (fun f hf => by simp at hf; omega) (fun c hc => by simp at hc; omega)
    refine ⟨by unfold iR; first | omega | (dsimp only; omega), ⟨fa_tr i1 fa3, ?_, ?_, pw_fx a1 (by first | decide | omega | (dsimp only; omega) | (dsimp only; decide)) (fun r hr => by simp at hr; omega) (by first | omega | (dsimp only; omega)) (by first | omega | (dsimp only; omega)) (by first | omega | (dsimp only; omega)) i4, l + 1, by first | omega | (dsimp only; omega), by first | omega | (dsimp only; omega), by first | omega | (dsimp only; omega), by first | omega | (dsimp only; omega), N, b', a2, by first | omega | (dsimp only; omega)⟩, by first | omega | (dsimp only; omega)⟩
    · dsimp only; rw [pw_f a1 (by first | decide | omega | (dsimp only; omega) | (dsimp only; decide))]; exact i2
    · dsimp only; rw [pw_f a1 (by first | decide | omega | (dsimp only; omega) | (dsimp only; decide))]; exact i3
theorem findAll_ok {s : im_S} {m : Nat} {Q : im_S → Prop} (h6 : 0 ≤ wgf s 6 ∧ wgf s 6 ≤ 10) (h584 : ∀ i : Nat, (i : Int) < 9 * wgf s 6 → -1000000000 ≤ wga s 584 (i : Int) ∧ wga s 584 (i : Int) ≤ 1000000000) (h10 : wgf s 10 = m) (hm : mok s m) (hQ : ∀ (s' : im_S) (n nb : Nat) (f : Nat → Int) (F : Nat → List Int) (lo hi : Nat → Rat), fa s s' → rdy s' n nb f F lo hi → Q s') : W_findAll s Q := by
  unfold W_findAll
  intro s1 e1 s2 e2 s3 e3 s4 e4 s5 e5 s6 e6
  have f6 : fa s s6 := by
    rw [e6, e5, e4, e3, e2, e1]
    exact wpf_fa (wpf_fa (wpf_fa (wpf_fa (wpf_fa (wpf_fa fa_rfl (by first | decide | omega | (dsimp only; omega) | (dsimp only; decide))) (by first | decide | omega | (dsimp only; omega) | (dsimp only; decide))) (by first | decide | omega | (dsimp only; omega) | (dsimp only; decide))) (by first | decide | omega | (dsimp only; omega) | (dsimp only; decide))) (by first | decide | omega | (dsimp only; omega) | (dsimp only; decide))) (by first | decide | omega | (dsimp only; omega) | (dsimp only; decide))
  have v28 : wgf s6 28 = 0 := by rw [e6, e5, e4, e3, e2, e1]; rfl
  have v24 : wgf s6 24 = 0 := by rw [e6, e5, e4, e3, e2, e1]; rfl
  have v34 : wgf s6 34 = 0 := by rw [e6, e5, e4, e3, e2, e1]; rfl
  have v36 : wgf s6 36 = 0 := by rw [e6, e5, e4, e3, e2, e1]; rfl
  have v41 : wgf s6 41 = 0 := by rw [e6, e5, e4, e3, e2, e1]; rfl
  have v52 : wgf s6 52 = 0 := by rw [e6, e5, e4, e3, e2, e1]; rfl
  refine ⟨fun a => fa s a.2 ∧ wgf a.2 34 = 0 ∧ wgf a.2 41 = 0 ∧ wgf a.2 52 = 0 ∧ ∃ l : Nat, a.1 = l ∧ (l : Int) ≤ wgf s 6 ∧ ∃ (n : Nat) (c : Nat → List Int), fi a.2 n c ∧ dsm c n ≤ 8 * l, fun a => (wgf s 6 - a.1).toNat, ⟨f6, v34, v41, v52, 0, rfl, h6.1, 0, fun _ => [], ⟨v36, v28, by rw [v24]; decide, by rw [v24]; decide, fun k hk => absurd hk (Nat.not_lt_zero k)⟩, Nat.le_refl _⟩, ?_⟩
  rintro ⟨l1, s7⟩ ⟨i1, i2, i3, i4, l, i5, i6, n, c, i7, i8⟩
  dsimp only at i1 i2 i3 i4 i5 i7 ⊢
  subst i5
  have x6 := fa_f i1 6 (by first | decide | omega | (dsimp only; omega) | (dsimp only; decide))
  have x10 := fa_f i1 10 (by first | decide | omega | (dsimp only; omega) | (dsimp only; decide))
  unfold W_findAll_32
  rw [x6]
  refine ⟨fun q => ?_, fun q => ?_⟩
  · exact all_53 (m := m) i7 (by first | omega | (dsimp only; omega)) i2 i3 i4 (by first | omega | (dsimp only; omega)) (fun i hi => by rw [x6] at hi; rw [fa_r i1 _ _ (by first | decide | omega | (dsimp only; omega) | (dsimp only; decide))]; exact h584 i hi) (by first | omega | (dsimp only; omega)) (mok_co (fun i _ => fa_r i1 _ _ (by first | decide | omega | (dsimp only; omega) | (dsimp only; decide))) hm) i1 hQ
  · refine part1_ok (v := fun k => wga s7 584 (9 * (l : Int) + k)) (by first | omega | (dsimp only; omega)) (fun k hk => rfl) (fun k hk => ?_) i7 (by first | omega | (dsimp only; omega)) (fun s8 n' c' a1 a2 a3 a4 => ?_)
    · skip
      rw [fa_r i1 _ _ (by first | decide | omega | (dsimp only; omega) | (dsimp only; decide))]
      have := h584 (9 * l + k) (by first | omega | (dsimp only; omega))
      rw [show ((9 * l + k : Nat) : Int) = 9 * (l : Int) + k by first | omega | (dsimp only; omega)] at this
      exact this
    · have fa3 : fa s7 s8 := pw_fa a1 (fun f hf => by simp at hf; omega) (fun c hc => by simp at hc; omega)
      refine ⟨by unfold iR; first | omega | (dsimp only; omega), ⟨fa_tr i1 fa3, ?_, ?_, ?_, l + 1, by first | omega | (dsimp only; omega), by first | omega | (dsimp only; omega), n', c', a2, by first | omega | (dsimp only; omega)⟩, by first | omega | (dsimp only; omega)⟩
      · dsimp only; rw [pw_f a1 (by first | decide | omega | (dsimp only; omega) | (dsimp only; decide))]; exact i2
      · dsimp only; rw [pw_f a1 (by first | decide | omega | (dsimp only; omega) | (dsimp only; decide))]; exact i3
      · dsimp only; rw [pw_f a1 (by first | decide | omega | (dsimp only; omega) | (dsimp only; decide))]; exact i4
