/-! signAt -/
theorem signAt_q {i p q : Int} {s : im_S} {Q : Int → im_S → Prop} (hr : rd s) (hQ : ∀ (v : Int) (s' : im_S), rfq s s' → rd s' → Q v s') : W_signAt i p q s Q := by
  have l2 : ∀ x : Int, -1000000000 ≤ x → x ≤ 1000000000 → lim x ≤ 2 := fun x x1 x2 => lim_le (Nat.lt_of_le_of_lt (show x.natAbs ≤ 1000000000 by first | omega | (dsimp only; omega)) (by first | decide | omega | (dsimp only; omega) | (dsimp only; decide)))
  have l1 := lim_one
  unfold W_signAt W_signAt_16
  refine isAtom_ok (fun c5 i0 i6 => ⟨fun c => absurd c (by first | decide | omega | (dsimp only; omega) | (dsimp only; decide)), fun _ => isNumber_ok (fun p1 p2 q1 q2 => ⟨fun _ => ?_, fun c => absurd c (by first | decide | omega | (dsimp only; omega) | (dsimp only; decide))⟩) ⟨fun c => absurd rfl c, fun _ => hQ _ s rfq_rfl hr⟩⟩) ⟨fun _ => hQ _ s rfq_rfl hr, fun c => absurd rfl c⟩
  have hr' := hr
  rcases hr with q | ⟨n, nb, f, F, lo, hi, hr⟩
  · exact absurd q c5
  obtain ⟨r0, r1, r2, r3, r4, r5, r6, r7, r8, r9, r10⟩ := id hr
  have fb : ∀ k : Int, 0 ≤ k → k ≤ 8 → -1000000000 ≤ wga s 584 (9 * i + k) ∧ wga s 584 (9 * i + k) ≤ 1000000000 := fun k k0 k8 => by
    have b := r10 (9 * i + k).toNat (by first | omega | (dsimp only; omega))
    rw [show ((9 * i + k).toNat : Int) = 9 * i + k by first | omega | (dsimp only; omega)] at b
    exact b
  have lp := l2 p (by first | omega | (dsimp only; omega)) (by first | omega | (dsimp only; omega))
  have lq := l2 q (by first | omega | (dsimp only; omega)) (by first | omega | (dsimp only; omega))
  refine degreeOf_ok (by first | omega | (dsimp only; omega)) (fun d hd => ⟨fun d0 => ⟨by unfold iR; first | omega | (dsimp only; omega), by first | omega | (dsimp only; omega), ?_⟩, fun _ => hQ 0 s rfq_rfl hr'⟩)
  have b0 := fb d (by first | omega | (dsimp only; omega)) (by first | omega | (dsimp only; omega))
  have lb0 := l2 _ b0.1 b0.2
  refine whole_ok ⟨by first | omega | (dsimp only; omega), by first | omega | (dsimp only; omega)⟩ (by first | omega | (dsimp only; omega)) (by first | omega | (dsimp only; omega)) (fun s1 a1 a2 a3 => ?_)
  have a12 := a1.2
  refine whole_ok ⟨by first | decide | omega | (dsimp only; omega) | (dsimp only; decide), by first | decide | omega | (dsimp only; omega) | (dsimp only; decide)⟩ (by first | omega | (dsimp only; omega)) (by first | omega | (dsimp only; omega)) (fun s2 b1 b2 b3 => ⟨by unfold iR; first | omega | (dsimp only; omega), ?_⟩)
  refine ⟨fun a => st s a.2.2.2 ∧ (-1 ≤ a.2.2.1 ∧ a.2.2.1 ≤ 7) ∧ ∃ A B : Int, nm a.2.2.2 a.1 A ∧ nm a.2.2.2 a.2.1 B ∧ (lim A : Int) ≤ 3 + 3 * (7 - a.2.2.1) ∧ (lim B : Int) ≤ 1 + 2 * (7 - a.2.2.1) ∧ wgf a.2.2.2 24 ≤ wgf s 24 + 10 + 200 * (7 - a.2.2.1), fun a => (a.2.2.1 + 1).toNat, ⟨st_tr a1 b1, by first | omega | (dsimp only; omega), _, _, st_nm b1 a2, b2, by first | omega | (dsimp only; omega), by first | omega | (dsimp only; omega), by first | omega | (dsimp only; omega)⟩, ?_⟩
  rintro ⟨l6, l7, l8, s3⟩ ⟨i1, i2, A, B, i3, i4, i5, i6', i7⟩
  dsimp only at i1 i2 i3 i4 i5 i6' i7 ⊢
  unfold W_signAt_70
  refine ⟨fun _ => sgn_ok i3.1 (fun s4 e4 => ?_), fun c => ?_⟩
  · have sb4 : sb s s4 := by rw [e4]; exact sb_back i1
    have q4 := sb_rfq sb4 (by first | omega | (dsimp only; omega))
    exact hQ _ s4 q4 (Or.inr ⟨n, nb, f, F, lo, hi, rdy_rfq q4 (rkl_sb sb4 (by first | omega | (dsimp only; omega)) r0) hr⟩)
  · have i12 := i1.2
    have lB := lim_mul B q
    have lA := lim_mul A p
    have bk := fb l8 (by first | omega | (dsimp only; omega)) (by first | omega | (dsimp only; omega))
    have lk := l2 _ bk.1 bk.2
    have lf := lim_mul (wga s 584 (9 * i + l8)) (B * q)
    have ls := lim_add (A * p) (wga s 584 (9 * i + l8) * (B * q))
    refine whole_ok ⟨by first | omega | (dsimp only; omega), by first | omega | (dsimp only; omega)⟩ (by first | omega | (dsimp only; omega)) (by first | omega | (dsimp only; omega)) (fun t1 c1 c2 c3 => ?_)
    have c12 := c1.2
    refine by_ok (st_nm c1 i4) c2 (by first | omega | (dsimp only; omega)) (by first | omega | (dsimp only; omega)) (fun t2 d1 d2 d3 => ?_)
    have d12 := d1.2
    refine whole_ok ⟨by first | omega | (dsimp only; omega), by first | omega | (dsimp only; omega)⟩ (by first | omega | (dsimp only; omega)) (by first | omega | (dsimp only; omega)) (fun t3 e1 e2 e3 => ?_)
    have e12 := e1.2
    refine by_ok (st_nm e1 (st_nm d1 (st_nm c1 i3))) e2 (by first | omega | (dsimp only; omega)) (by first | omega | (dsimp only; omega)) (fun t4 f1 f2 f3 => ⟨by unfold iR; first | omega | (dsimp only; omega), by first | omega | (dsimp only; omega), ?_⟩)
    have f12 := f1.2
    have u4 : st s3 t4 := st_tr c1 (st_tr d1 (st_tr e1 f1))
    rw [st_row (st_tr i1 u4) (by first | decide | omega | (dsimp only; omega) | (dsimp only; decide))]
    refine whole_ok ⟨by first | omega | (dsimp only; omega), by first | omega | (dsimp only; omega)⟩ (by first | omega | (dsimp only; omega)) (by first | omega | (dsimp only; omega)) (fun t5 g1 g2 g3 => ?_)
    have g12 := g1.2
    have u25 : st t2 t5 := st_tr e1 (st_tr f1 g1)
    refine by_ok g2 (st_nm u25 d2) (by first | omega | (dsimp only; omega)) (by first | omega | (dsimp only; omega)) (fun t6 h1 h2 h3 => ?_)
    have h12 := h1.2
    refine plus_ok (st_nm h1 (st_nm g1 f2)) h2 (by first | omega | (dsimp only; omega)) (by first | omega | (dsimp only; omega)) (fun t7 k1 k2 k3 => ⟨by unfold iR; first | omega | (dsimp only; omega), ?_⟩)
    have u67 := st_tr h1 k1
    refine ⟨⟨st_tr i1 (st_tr u4 (st_tr g1 u67)), by first | omega | (dsimp only; omega), _, _, k2, st_nm (st_tr u25 u67) d2, by first | omega | (dsimp only; omega), by first | omega | (dsimp only; omega), by first | omega | (dsimp only; omega)⟩, by first | omega | (dsimp only; omega)⟩
