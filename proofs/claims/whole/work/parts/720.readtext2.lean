/-! readText -/
theorem rt_atom {s0 s : im_S} {l1 l2 l3 : Int} {Q : im_S → Prop} (hI : rtI s0 l1 l2 l3 0 s) (h3 : l3 ≠ 0) (g : wgf s 2 = 0) (hQ : ∀ s' : im_S, rtI s0 l1 0 0 0 s' → wgf s 4 ≤ wgf s' 4 → (wgf s' 2 = 0 → wgf s 4 < wgf s' 4) → Q s') : W_readAtom s Q := by
  obtain ⟨i1, i2, i3, i4, i5, w, mk, i6, i7, i8, i9, i10, i11⟩ := hI
  have a2 := i2
  unfold atR at a2
  obtain ⟨z1, z2, z3, z4, z5, z6⟩ := i11 g
  rw [if_neg h3] at z5
  refine readAtom_ok i2 i3 (by first | omega | (dsimp only; omega)) (fun s' b1 b2 b3 b4 b5 b6 => ?_)
  have x12 : wgf s' 12 = w := by rw [fw_f b1 12 (by first | decide | omega | (dsimp only; omega) | (dsimp only; decide))]; exact i6
  have r7 : ∀ k : Nat, wga s' 587 (k : Int) = wga s 587 (k : Int) := fun k => fw_r b1 _ _ (by first | decide | omega | (dsimp only; omega) | (dsimp only; decide))
  have m : fw tF tR s0 s' := fw_tr i1 (fw_mono b1 (by simp) (by simp))
  have o10 : wO s' w = l1 := by rw [wO_co (fun k _ => r7 k)]; exact i10
  have e9 : ∀ k : Nat, k < w → -4 ≤ wga s' 587 (k : Int) ∧ wga s' 587 (k : Int) ≤ -1 := fun k hk => by rw [r7]; exact i9 k hk
  rcases b6 with ⟨c1, c2, c3⟩ | ⟨c1, c2, c3, c4, c5, c6⟩
  · exact hQ s' ⟨m, b2, by first | omega | (dsimp only; omega), i4, by first | omega | (dsimp only; omega), w, mk, x12, by first | omega | (dsimp only; omega), by first | omega | (dsimp only; omega), e9, o10, fun z => absurd z c3⟩ b3 (fun z => absurd z c3)
  · refine hQ s' ⟨m, b2, by first | omega | (dsimp only; omega), i4, by first | omega | (dsimp only; omega), w, mk + 1, x12, by first | omega | (dsimp only; omega), by first | omega | (dsimp only; omega), e9, o10, fun z => ?_⟩ b3 (fun _ => c4)
    obtain ⟨d1, d2⟩ := c6 z
    have bb := wB_b (s := s) w
    have bm := mdp_b (s := s) mk
    rw [i7] at c5
    obtain ⟨n1, n2⟩ := mok_s z4 (by first | omega | (dsimp only; omega)) (fun i hi => b4 (i : Int) (by first | omega | (dsimp only; omega)) (by first | omega | (dsimp only; omega))) c5 (by first | omega | (dsimp only; omega)) (by first | omega | (dsimp only; omega)) (fun q => by first | omega | (dsimp only; omega)) (fun q => by first | omega | (dsimp only; omega)) (by first | omega | (dsimp only; omega))
    refine ⟨z1, by first | omega | (dsimp only; omega), fun i j0 j1 => ?_, n1, ?_, fun c => absurd rfl c⟩
    · by_cases q : i < 9 * wgf s 6
      · rw [b5 i j0 (by first | omega | (dsimp only; omega))]; exact z3 i j0 q
      · have := d2 (i - 9 * wgf s 6) (by first | omega | (dsimp only; omega)) (by first | omega | (dsimp only; omega))
        rw [show 9 * wgf s 6 + (i - 9 * wgf s 6) = i by first | omega | (dsimp only; omega)] at this
        exact this
    · rw [n2, z5, wB_co (fun k _ => r7 k), if_pos (by first | omega | (dsimp only; omega)), if_pos rfl]
      omega
theorem readText_ok {s : im_S} {Q : im_S → Prop} (ha : atR s) (hQ : ∀ s' : im_S, fw tF tR s s' → atR s' → (0 ≤ wgf s' 6 ∧ wgf s' 6 ≤ 10) → (wgf s' 2 = 0 → (∀ i : Int, 0 ≤ i → i < 9 * wgf s' 6 → fn9 (wga s' 584 i)) ∧ ∃ mk : Nat, wgf s' 10 = mk ∧ mok s' mk) → Q s') : W_readText s Q := by
  unfold W_readText
  intro s1 e1 s2 e2 s3 e3
  have x4 : wgf s3 4 = wgf s 4 := by rw [e3, wf_ne (by first | decide | omega | (dsimp only; omega) | (dsimp only; decide)), e2, wf_ne (by first | decide | omega | (dsimp only; omega) | (dsimp only; decide)), e1, wf_ne (by first | decide | omega | (dsimp only; omega) | (dsimp only; decide))]
  have x1 : wgf s3 1 = wgf s 1 := by rw [e3, wf_ne (by first | decide | omega | (dsimp only; omega) | (dsimp only; decide)), e2, wf_ne (by first | decide | omega | (dsimp only; omega) | (dsimp only; decide)), e1, wf_ne (by first | decide | omega | (dsimp only; omega) | (dsimp only; decide))]
  have x10 : wgf s3 10 = 0 := by rw [e3, wf_ne (by first | decide | omega | (dsimp only; omega) | (dsimp only; decide)), e2, wf_ne (by first | decide | omega | (dsimp only; omega) | (dsimp only; decide)), e1, wf_same]
  have x12 : wgf s3 12 = 0 := by rw [e3, wf_ne (by first | decide | omega | (dsimp only; omega) | (dsimp only; decide)), e2, wf_same]
  have x6 : wgf s3 6 = 0 := by rw [e3, wf_same]
  have m3 : fw tF tR s s3 := by rw [e3, e2, e1]; exact fw_pf (fw_pf (fw_pf fw_rfl (by first | decide | omega | (dsimp only; omega) | (dsimp only; decide))) (by first | decide | omega | (dsimp only; omega) | (dsimp only; decide))) (by first | decide | omega | (dsimp only; omega) | (dsimp only; decide))
  have ha' := ha
  unfold atR at ha'
  have st : rtI s 0 0 1 0 s3 := ⟨m3, by unfold atR; first | omega | (dsimp only; omega), by first | omega | (dsimp only; omega), by first | decide | omega | (dsimp only; omega) | (dsimp only; decide), by first | decide | omega | (dsimp only; omega) | (dsimp only; decide), 0, 0, x12, x10, by rw [x4]; exact ha'.1, fun k hk => absurd hk (Nat.not_lt_zero k), rfl, fun _ => ⟨by first | decide | omega | (dsimp only; omega) | (dsimp only; decide), by first | decide | omega | (dsimp only; omega) | (dsimp only; decide), fun i j0 j1 => by rw [x6] at j1; omega, ⟨by first | decide | omega | (dsimp only; omega) | (dsimp only; decide), fun k hk => absurd hk (Nat.not_lt_zero k)⟩, rfl, fun c => absurd rfl c⟩⟩
  have fin : ∀ (l1 l2 l3 l4 : Int) (a : im_S), rtI s l1 l2 l3 l4 a → (l4 ≠ 0 ∨ wgf a 2 ≠ 0) → W_readText_292 a Q := fun l1 l2 l3 l4 a hI hx => by
    have hI' : rtI s l1 l2 0 l4 a := by
      by_cases g : wgf a 2 = 0
      · obtain ⟨w, mk, _, _, _, _, _, i11⟩ := hI.2.2.2.2.2
        have := (i11 g).2.2.2.2.2 (by first | omega | (dsimp only; omega))
        rw [this] at hI
        exact hI
      · exact rt_bad hI g
    unfold W_readText_292
    refine rt_settle hI' (fun s' b1 _ _ => ?_)
    obtain ⟨j1, j2, j3, j4, j5, w, mk, j6, j7, j8, j9, j10, j11⟩ := b1
    exact hQ s' j1 j2 j3 (fun z => ⟨(j11 z).2.2.1, mk, j7, (j11 z).2.2.2.1⟩)
  refine ⟨fun a => rtI s a.1 a.2.1 a.2.2.1 a.2.2.2.1 a.2.2.2.2, fun a => rtM a.2.2.2.1 a.2.2.2.2, st, ?_⟩
  rintro ⟨l1, l2, l3, l4, a⟩ hI
  dsimp only at hI ⊢
  have aa := hI.2.1
  unfold W_readText_24
  refine ⟨fun c => fin l1 l2 l3 l4 a hI (Or.inl c), fun c0 => good_ok (fun g => ⟨fun c => absurd c (by first | decide | omega | (dsimp only; omega) | (dsimp only; decide)), fun _ => ?_⟩) (fun g => ⟨fun _ => fin l1 l2 l3 l4 a hI (Or.inr g), fun c => absurd rfl c⟩)⟩
  subst c0
  refine peek_ok aa (fun z t p1 p2 p3 p4 => ?_)
  have hT : rtI s l1 l2 l3 0 t := rt_move hI (fw_mono p1 (by simp) (by simp)) p2 p3 (fun q => g)
  have gt : wgf t 2 = 0 := by rw [fw_f p1 2 (by first | decide | omega | (dsimp only; omega) | (dsimp only; decide))]; exact g
  obtain ⟨_, _, _, B1, B2, _, _, _, _, _, _, _, i11⟩ := id hT
  obtain ⟨G1, G2, _⟩ := i11 gt
  have K : ∀ (k1 k2 k3 k4 : Int) (t' : im_S), rtI s k1 k2 k3 k4 t' → (wgf t' 2 = 0 → k4 = 0 → wgf t 4 < wgf t' 4) → rtI s k1 k2 k3 k4 t' ∧ rtM k4 t' < rtM 0 a := fun k1 k2 k3 k4 t' h1 h2 => ⟨h1, rtM_lt g aa (fun q1 q2 => by have := h2 q1 q2; omega)⟩
  have u272 : l3 = 0 → W_readText_272 (fun b => rtI s b.1 b.2.1 b.2.2.1 b.2.2.2.1 b.2.2.2.2 ∧ rtM b.2.2.2.1 b.2.2.2.2 < rtM 0 a) l1 l2 l3 z t Q := fun h3 => by
    have bad : W_readText_285 (fun b => rtI s b.1 b.2.1 b.2.2.1 b.2.2.2.1 b.2.2.2.2 ∧ rtM b.2.2.2.1 b.2.2.2.2 < rtM 0 a) l1 l2 l3 1 t Q := by
      unfold W_readText_285 W_readText_289
      exact cannot_ok p2 (fun t' b1 b2 b3 b4 => K l1 l2 l3 1 t' (rt_bad (rt_move hT b1 b2 b3 (fun q => absurd q b4)) b4) (fun q => absurd q b4))
    unfold W_readText_272 W_readText_289
    refine ⟨fun _ => bad, fun _ => ⟨fun _ => K l1 l2 l3 1 t ?_ (fun _ q => absurd q (by first | decide | omega | (dsimp only; omega) | (dsimp only; decide))), fun _ => bad⟩⟩
    obtain ⟨j1, j2, j3, j4, j5, w, mk, j6, j7, j8, j9, j10, j11⟩ := hT
    exact ⟨j1, j2, j3, j4, j5, w, mk, j6, j7, j8, j9, j10, fun q => ⟨(j11 q).1, (j11 q).2.1, (j11 q).2.2.1, (j11 q).2.2.2.1, (j11 q).2.2.2.2.1, fun _ => h3⟩⟩
  have u173 : l3 = 0 → z ≠ -1 → W_readText_173 (fun b => rtI s b.1 b.2.1 b.2.2.1 b.2.2.2.1 b.2.2.2.2 ∧ rtM b.2.2.2.1 b.2.2.2.2 < rtM 0 a) l1 l2 0 z t Q := fun h3 hz => by
    have lt := (p4 hz).1
    subst h3
    unfold W_readText_173 W_readText_289
    intro v hv
    refine rt_settle hT (fun t1 b1 b2 b3 v2 hv2 => ?_)
    have v3 : v2 = -2 ∨ v2 = -3 := by rw [hv2]; split <;> omega
    exact rt_wait (l1' := l1) (l2' := l2) (l3' := 1) (s' := t1) b1 (by first | omega | (dsimp only; omega)) (by first | omega | (dsimp only; omega)) B1 B2 (by rw [if_neg (by first | omega | (dsimp only; omega))]; omega) (fun _ => G1) (fun _ => G2) (by rw [if_pos rfl, if_pos v3, if_neg (by first | omega | (dsimp only; omega))]; rfl) (fun t2 c1 c2 c3 => K l1 l2 1 0 t2 c1 (fun _ _ => by first | omega | (dsimp only; omega)))
  have u139 : W_readText_139 (fun b => rtI s b.1 b.2.1 b.2.2.1 b.2.2.2.1 b.2.2.2.2 ∧ rtM b.2.2.2.1 b.2.2.2.2 < rtM 0 a) l1 l2 l3 0 z t Q := by
    unfold W_readText_139
    refine ⟨fun h3 => ⟨fun c => u173 h3 (by first | omega | (dsimp only; omega)), fun _ => ⟨fun _ => ⟨fun _ => u272 h3, fun c93 => ⟨fun _ => u272 h3, fun lp => ?_⟩⟩, fun c => u173 h3 (by first | omega | (dsimp only; omega))⟩⟩, fun h3 => ?_⟩
    · subst h3
      have lt := (p4 (by first | omega | (dsimp only; omega))).1
      refine rt_settle hT (fun t1 b1 b2 b3 => ?_)
      obtain ⟨j1, j2, j3, j4, j5, w, mk, j6, j7, j8, j9, j10, j11⟩ := b1
      have j2' := j2
      unfold atR at j2'
      obtain ⟨w', w1, w2⟩ := b3
      have ew : w' = w := by first | omega | (dsimp only; omega)
      subst ew
      have wp : 0 < w' := by
        refine Nat.pos_of_ne_zero fun q => ?_
        rw [q] at j10
        have : wO t1 0 = 0 := rfl
        omega
      have cast : ((w' : Int) - 1) = ((w' - 1 : Nat) : Int) := by first | omega | (dsimp only; omega)
      rw [cast] at w2
      have top : wga t1 587 ((w' - 1 : Nat) : Int) = -4 := by
        have := j9 (w' - 1) (by first | omega | (dsimp only; omega))
        omega
      refine ⟨by unfold iR; first | omega | (dsimp only; omega), fun t2 f2 => ?_⟩
      have y4 : wgf t2 4 = wgf t1 4 := by rw [f2, wf_ne (by first | decide | omega | (dsimp only; omega) | (dsimp only; decide))]
      refine ⟨by unfold iR; first | omega | (dsimp only; omega), by unfold iR; first | omega | (dsimp only; omega), fun t3 f3 => ?_⟩
      have ff : ∀ f : Nat, f ≠ 4 → f ≠ 12 → wgf t3 f = wgf t1 f := fun f h1 h2 => by rw [f3, wf_ne h1, f2, wf_ne h2]
      have q1 := ff 1 (by first | decide | omega | (dsimp only; omega) | (dsimp only; decide)) (by first | decide | omega | (dsimp only; omega) | (dsimp only; decide))
      have q2 := ff 2 (by first | decide | omega | (dsimp only; omega) | (dsimp only; decide)) (by first | decide | omega | (dsimp only; omega) | (dsimp only; decide))
      have q6 := ff 6 (by first | decide | omega | (dsimp only; omega) | (dsimp only; decide)) (by first | decide | omega | (dsimp only; omega) | (dsimp only; decide))
      have q10 := ff 10 (by first | decide | omega | (dsimp only; omega) | (dsimp only; decide)) (by first | decide | omega | (dsimp only; omega) | (dsimp only; decide))
      have q4 : wgf t3 4 = wgf t1 4 + 1 := by rw [f3, wf_same, y4]
      have q12 : wgf t3 12 = ((w' - 1 : Nat) : Int) := by rw [f3, wf_ne (by first | decide | omega | (dsimp only; omega) | (dsimp only; decide)), f2, wf_same]; omega
      have r : ∀ (c : Nat) (i : Int), wga t3 c i = wga t1 c i := fun c i => by rw [f3, wg_pf, f2, wg_pf]
      have so : wO t1 (w' - 1 + 1) = wO t1 (w' - 1) + (if wga t1 587 ((w' - 1 : Nat) : Int) = -4 then 1 else 0) := rfl
      rw [show w' - 1 + 1 = w' by first | omega | (dsimp only; omega), if_pos top] at so
      have sb' : wB t1 (w' - 1 + 1) = wB t1 (w' - 1) + (if wga t1 587 ((w' - 1 : Nat) : Int) = -2 ∨ wga t1 587 ((w' - 1 : Nat) : Int) = -3 then 1 else 0) := rfl
      rw [show w' - 1 + 1 = w' by first | omega | (dsimp only; omega), if_neg (by first | omega | (dsimp only; omega))] at sb'
      have I3 : rtI s (l1 + (-1)) l2 0 0 t3 := by
        refine ⟨by rw [f3, f2]; exact fw_pf (fw_pf j1 (by first | decide | omega | (dsimp only; omega) | (dsimp only; decide))) (by first | decide | omega | (dsimp only; omega) | (dsimp only; decide)), by unfold atR; first | omega | (dsimp only; omega), by first | omega | (dsimp only; omega), by first | omega | (dsimp only; omega), j5, w' - 1, mk, q12, by first | omega | (dsimp only; omega), by first | omega | (dsimp only; omega), fun k hk => by rw [r]; exact j9 k (by first | omega | (dsimp only; omega)), by rw [wO_co (fun k _ => r _ _)]; omega, fun q => ?_⟩
        obtain ⟨z1, z2, z3, z4, z5, z6⟩ := j11 (by first | omega | (dsimp only; omega))
        exact ⟨by first | omega | (dsimp only; omega), z2, fun i k0 k1 => by rw [r]; exact z3 i k0 (by first | omega | (dsimp only; omega)), mok_co (fun i _ => r _ _) z4, by rw [mdp_co (fun i _ => r _ _), wB_co (fun k _ => r _ _), z5]; omega, z6⟩
      refine rt_settle I3 (fun t4 c1 c2 c3 => ?_)
      unfold W_readText_289
      exact K (l1 + (-1)) l2 0 0 t4 c1 (fun _ _ => by first | omega | (dsimp only; omega))
    · refine rt_atom hT h3 gt (fun t1 b1 b2 b3 => rt_settle b1 (fun t2 c1 c2 c3 => ?_))
      unfold W_readText_289
      exact K l1 0 0 0 t2 c1 (fun q _ => by have := b3 (by first | omega | (dsimp only; omega)); omega)
  have fl : ∀ t' : im_S, fw [2, 3] [] t t' → wgf t' 2 ≠ 0 → rtI s l1 l2 l3 0 t' ∧ wgf t' 4 = wgf t 4 ∧ wgf t' 1 = wgf t 1 := fun t' b1 b2 => by
    have v4 := fw_f b1 4 (by first | decide | omega | (dsimp only; omega) | (dsimp only; decide))
    have v1 := fw_f b1 1 (by first | decide | omega | (dsimp only; omega) | (dsimp only; decide))
    have p2' := p2
    unfold atR at p2'
    exact ⟨rt_move hT (fw_mono b1 (by simp) (by simp)) (by unfold atR; first | omega | (dsimp only; omega)) (by first | omega | (dsimp only; omega)) (fun q => absurd q b2), v4, v1⟩
  have u118 : ∀ t' : im_S, rtI s l1 l2 l3 0 t' → l3 ≠ 0 → wgf t' 4 = wgf t 4 → wgf t' 4 < wgf t' 1 → (wgf t' 2 = 0 → l1 + 1 ≤ 10) → W_readText_118 (fun b => rtI s b.1 b.2.1 b.2.2.1 b.2.2.2.1 b.2.2.2.2 ∧ rtM b.2.2.2.1 b.2.2.2.2 < rtM 0 a) (l1 + 1) l3 0 t' Q := fun t' h1 h3 h4 h5 h6 => by
    unfold W_readText_118 W_readText_289
    exact rt_wait (l1' := l1 + 1) (l2' := 0) (l3' := l3) (s' := t') h1 (by first | omega | (dsimp only; omega)) h5 (by first | omega | (dsimp only; omega)) (by first | decide | omega | (dsimp only; omega) | (dsimp only; decide)) (by rw [if_pos rfl]) h6 (fun _ => by first | decide | omega | (dsimp only; omega) | (dsimp only; decide)) (by rw [if_neg h3, if_neg (show ¬ ((-4 : Int) = -2 ∨ (-4 : Int) = -3) by first | decide | omega | (dsimp only; omega) | (dsimp only; decide))]; rfl) (fun t2 c1 c2 c3 => K (l1 + 1) 0 l3 0 t2 c1 (fun _ _ => by first | omega | (dsimp only; omega)))
  have u71 : ∀ t' : im_S, rtI s l1 l2 l3 0 t' → l3 ≠ 0 → wgf t' 4 = wgf t 4 → wgf t' 4 < wgf t' 1 → (wgf t' 2 = 0 → l2 + 1 ≤ 10) → W_readText_71 (fun b => rtI s b.1 b.2.1 b.2.2.1 b.2.2.2.1 b.2.2.2.2 ∧ rtM b.2.2.2.1 b.2.2.2.2 < rtM 0 a) l1 (l2 + 1) l3 0 t' Q := fun t' h1 h3 h4 h5 h6 => by
    unfold W_readText_71 W_readText_289
    exact rt_wait (l1' := l1) (l2' := l2 + 1) (l3' := l3) (s' := t') h1 (by first | omega | (dsimp only; omega)) h5 B1 (by first | omega | (dsimp only; omega)) (by rw [if_neg (show ¬ ((-1 : Int) = -4) by first | decide | omega | (dsimp only; omega) | (dsimp only; decide))]; omega) (fun _ => G1) h6 (by rw [if_neg h3, if_neg (show ¬ ((-1 : Int) = -2 ∨ (-1 : Int) = -3) by first | decide | omega | (dsimp only; omega) | (dsimp only; decide))]; rfl) (fun t2 c1 c2 c3 => K l1 (l2 + 1) l3 0 t2 c1 (fun _ _ => by first | omega | (dsimp only; omega)))
  have u89 : W_readText_89 (fun b => rtI s b.1 b.2.1 b.2.2.1 b.2.2.2.1 b.2.2.2.2 ∧ rtM b.2.2.2.1 b.2.2.2.2 < rtM 0 a) l1 l2 l3 0 z t Q := by
    unfold W_readText_89
    refine ⟨fun _ => u139, fun h3 => ⟨fun _ => u139, fun c91 => ⟨by unfold iR; first | omega | (dsimp only; omega), fun le => u118 t hT h3 rfl (p4 (by first | omega | (dsimp only; omega))).1 (fun _ => le), fun _ => fail_ok (by first | decide | omega | (dsimp only; omega) | (dsimp only; decide)) (fun t' b1 b2 => ?_)⟩⟩⟩
    obtain ⟨d1, d2, d3⟩ := fl t' b1 b2
    have lt := (p4 (by first | omega | (dsimp only; omega))).1
    exact u118 t' d1 h3 d2 (by first | omega | (dsimp only; omega)) (fun q => absurd q b2)
  refine ⟨fun _ => u89, fun h3 => ⟨fun _ => u89, fun c126 => ⟨by unfold iR; first | omega | (dsimp only; omega), fun le => u71 t hT h3 rfl (p4 (by first | omega | (dsimp only; omega))).1 (fun _ => le), fun _ => fail_ok (by first | decide | omega | (dsimp only; omega) | (dsimp only; decide)) (fun t' b1 b2 => ?_)⟩⟩⟩
  obtain ⟨d1, d2, d3⟩ := fl t' b1 b2
  have lt := (p4 (by first | omega | (dsimp only; omega))).1
  exact u71 t' d1 h3 d2 (by first | omega | (dsimp only; omega)) (fun q => absurd q b2)
