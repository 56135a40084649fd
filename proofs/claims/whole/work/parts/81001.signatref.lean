/-! signAt of the reference, by value -/
theorem sg_sign (X : Int) : sg X = X.sign := by
  unfold sg
  rcases Int.lt_trichotomy X 0 with h | h | h
  · rw [if_pos h, Int.sign_eq_neg_one_of_neg h]
  · rw [if_neg (by omega), if_pos h, h]; rfl
  · rw [if_neg (by omega), if_neg (by omega), Int.sign_eq_one_of_pos h]
theorem isAtom_v {i : Int} {s : im_S} {Q : Int → im_S → Prop} (h1 : wgf s 5 ≠ 0 → 0 ≤ i → i < wgf s 6 → Q 1 s) (h0 : (wgf s 5 = 0 ∨ i < 0 ∨ wgf s 6 ≤ i) → Q 0 s) : W_isAtom i s Q := by
  unfold W_isAtom
  intro v hv
  rw [hv]
  split
  · exact h0 (Or.inl (by assumption))
  · split
    · exact h0 (by omega)
    · split
      · exact h0 (by omega)
      · exact h1 (by assumption) (by omega) (by omega)
theorem isNumber_v {p q : Int} {s : im_S} {Q : Int → im_S → Prop} (h1 : -1000000000 ≤ p → p ≤ 1000000000 → 1 ≤ q → q ≤ 1000000000 → Q 1 s) (h0 : (q < 1 ∨ 1000000000 < q ∨ p < -1000000000 ∨ 1000000000 < p) → Q 0 s) : W_isNumber p q s Q := by
  unfold W_isNumber
  intro v hv
  rw [hv]
  split
  · exact h0 (by omega)
  · split
    · exact h0 (by omega)
    · split
      · exact h0 (by omega)
      · split
        · exact h0 (by omega)
        · exact h1 (by omega) (by omega) (by omega) (by omega)
/-- the polynomial of atom i in the reference's row -/
def rpo (s : im_S) (i : Int) : po := fun k => wga s 584 (9 * i + (k : Int))
theorem degreeOf_v {i : Int} {s : im_S} {Q : Int → im_S → Prop} (hi : 0 ≤ i ∧ i < 10) (hQ : ∀ v : Int, dgp v (rpo s i) → Q v s) : W_degreeOf i s Q := by
  unfold W_degreeOf
  refine ⟨fun a => a.2 = s ∧ -1 ≤ a.1 ∧ a.1 ≤ 8 ∧ ∀ k : Nat, k < 9 → a.1 < (k : Int) → rpo s i k = 0, fun a => (a.1 + 1).toNat, ⟨rfl, by dsimp only; omega, by dsimp only; omega, fun k k9 h => by dsimp only at h; omega⟩, ?_⟩
  rintro ⟨l, s2⟩ ⟨i1, i2, i3, i4⟩
  dsimp only at i1 i2 i3 i4 ⊢
  subst i1
  unfold W_degreeOf_3 W_degreeOf_29
  have e : ∀ h : 0 ≤ l, rpo s2 i l.toNat = wga s2 584 (9 * i + l) := fun h => by
    show wga s2 584 (9 * i + ((l.toNat : Nat) : Int)) = _
    rw [show ((l.toNat : Nat) : Int) = l by omega]
  refine ⟨fun c => hQ l ⟨i2, i3, i4, fun h => absurd h (by omega)⟩, fun c => ⟨by unfold iR; omega, by omega, fun z => hQ l ⟨i2, i3, i4, fun h => by rw [e h]; exact z⟩, fun z => ⟨by unfold iR; omega, ⟨rfl, by omega, by omega, fun k k9 hk => ?_⟩, by dsimp only; omega⟩⟩⟩
  by_cases q : (k : Int) = l
  · have : k = l.toNat := by omega
    rw [this, e (by omega)]; exact z
  · exact i4 k k9 (by omega)
/-- what both answer: x the atom, r whether it was read, m how many atoms there are, P the atom's polynomial -/
def sgQ (r m x a q : Int) (P : po) (z : Int) : Prop := ((r = 0 ∨ x < 0 ∨ m ≤ x ∨ q < 1 ∨ 1000000000 < q ∨ a < -1000000000 ∨ 1000000000 < a) ∧ z = -2) ∨ ((r ≠ 0 ∧ 0 ≤ x ∧ x < m ∧ 1 ≤ q ∧ q ≤ 1000000000 ∧ -1000000000 ≤ a ∧ a ≤ 1000000000) ∧ sgA P a q z)
theorem signAt_qv {i p q : Int} {s : im_S} {Q : Int → im_S → Prop} (hr : rd s) (hQ : ∀ (v : Int) (s' : im_S), rfq s s' → rd s' → sgQ (wgf s 5) (wgf s 6) i p q (rpo s i) v → Q v s') : W_signAt i p q s Q := by
  have l2 : ∀ x : Int, -1000000000 ≤ x → x ≤ 1000000000 → lim x ≤ 2 := fun x x1 x2 => lim_le (Nat.lt_of_le_of_lt (show x.natAbs ≤ 1000000000 by omega) (by decide))
  have l1 := lim_one
  unfold W_signAt W_signAt_16
  refine isAtom_v (fun c5 i0 i6 => ⟨fun c => absurd c (by decide), fun _ => isNumber_v (fun p1 p2 q1 q2 => ⟨fun _ => ?_, fun c => absurd c (by decide)⟩) (fun b => ⟨fun c => absurd rfl c, fun _ => hQ _ s rfq_rfl hr (Or.inl ⟨by omega, rfl⟩)⟩)⟩) (fun b => ⟨fun _ => hQ _ s rfq_rfl hr (Or.inl ⟨by omega, rfl⟩), fun c => absurd rfl c⟩)
  have hr' := hr
  rcases hr with qq | ⟨n, nb, f, F, lo, hi, hr⟩
  · exact absurd qq c5
  obtain ⟨r0, r1, r2, r3, r4, r5, r6, r7, r8, r9, r10⟩ := id hr
  have fb : ∀ k : Int, 0 ≤ k → k ≤ 8 → -1000000000 ≤ wga s 584 (9 * i + k) ∧ wga s 584 (9 * i + k) ≤ 1000000000 := fun k k0 k8 => by
    have b := r10 (9 * i + k).toNat (by omega)
    rw [show ((9 * i + k).toNat : Int) = 9 * i + k by omega] at b
    exact b
  have lp := l2 p (by omega) (by omega)
  have lq := l2 q (by omega) (by omega)
  have ok : ∀ z, sgA (rpo s i) p q z → sgQ (wgf s 5) (wgf s 6) i p q (rpo s i) z := fun z h => Or.inr ⟨by omega, h⟩
  refine degreeOf_v (by omega) (fun d hd => ⟨fun d0 => ⟨by unfold iR; omega, by have := hd.2.1; omega, ?_⟩, fun dn => hQ 0 s rfq_rfl hr' (ok 0 ⟨d, hd, Or.inl ⟨by omega, rfl⟩⟩)⟩)
  have d8 := hd.2.1
  obtain ⟨dn, edn⟩ : ∃ dn : Nat, d = (dn : Int) := ⟨d.toNat, by omega⟩
  subst edn
  have b0 := fb (dn : Int) (by omega) (by omega)
  have lb0 := l2 _ b0.1 b0.2
  refine whole_ok ⟨by omega, by omega⟩ (by omega) (by omega) (fun s1 a1 a2 a3 => ?_)
  have a12 := a1.2
  refine whole_ok ⟨by decide, by decide⟩ (by omega) (by omega) (fun s2 b1 b2 b3 => ⟨by unfold iR; omega, ?_⟩)
  refine ⟨fun a => st s a.2.2.2 ∧ ∃ t : Nat, t ≤ dn ∧ a.2.2.1 = (dn : Int) - 1 - t ∧ nm a.2.2.2 a.1 (hA (rpo s i) p q dn t) ∧ nm a.2.2.2 a.2.1 (hB q t) ∧ (lim (hA (rpo s i) p q dn t) : Int) ≤ 3 + 3 * (7 - a.2.2.1) ∧ (lim (hB q t) : Int) ≤ 1 + 2 * (7 - a.2.2.1) ∧ wgf a.2.2.2 24 ≤ wgf s 24 + 10 + 200 * (7 - a.2.2.1), fun a => (a.2.2.1 + 1).toNat, ⟨st_tr a1 b1, 0, by omega, by dsimp only; omega, st_nm b1 a2, b2, ?_, ?_, by dsimp only; omega⟩, ?_⟩
  · dsimp only
    show (lim (wga s 584 (9 * i + (dn : Int))) : Int) ≤ _
    omega
  · dsimp only
    show (lim 1 : Int) ≤ _
    omega
  rintro ⟨l6, l7, l8, s3⟩ ⟨i1, t, td, el, i3, i4, i5, i6', i7⟩
  dsimp only at i1 el i3 i4 i5 i6' i7 ⊢
  unfold W_signAt_70
  refine ⟨fun c => sgn_ok i3.1 (fun s4 e4 => ?_), fun c => ?_⟩
  · have sb4 : sb s s4 := by rw [e4]; exact sb_back i1
    have q4 := sb_rfq sb4 (by omega)
    have et : t = dn := by omega
    subst et
    exact hQ _ s4 q4 (Or.inr ⟨n, nb, f, F, lo, hi, rdy_rfq q4 (rkl_sb sb4 (by omega) r0) hr⟩) (ok _ ⟨(t : Int), hd, Or.inr ⟨by omega, sg_sign _⟩⟩)
  · have i12 := i1.2
    have lB := lim_mul (hB q t) q
    have lA := lim_mul (hA (rpo s i) p q dn t) p
    have bk := fb l8 (by omega) (by omega)
    have lk := l2 _ bk.1 bk.2
    have lf := lim_mul (wga s 584 (9 * i + l8)) (hB q t * q)
    have ls := lim_add (hA (rpo s i) p q dn t * p) (wga s 584 (9 * i + l8) * (hB q t * q))
    have eA : hA (rpo s i) p q dn (t + 1) = hA (rpo s i) p q dn t * p + wga s 584 (9 * i + l8) * (hB q t * q) := by
      show hA (rpo s i) p q dn t * p + wga s 584 (9 * i + ((dn - 1 - t : Nat) : Int)) * (hB q t * q) = _
      rw [show ((dn - 1 - t : Nat) : Int) = l8 by omega]
    have eB : hB q (t + 1) = hB q t * q := rfl
    refine whole_ok ⟨by omega, by omega⟩ (by omega) (by omega) (fun t1 c1 c2 c3 => ?_)
    have c12 := c1.2
    refine by_ok (st_nm c1 i4) c2 (by omega) (by omega) (fun t2 d1 d2 d3 => ?_)
    have d12 := d1.2
    refine whole_ok ⟨by omega, by omega⟩ (by omega) (by omega) (fun t3 e1 e2 e3 => ?_)
    have e12 := e1.2
    refine by_ok (st_nm e1 (st_nm d1 (st_nm c1 i3))) e2 (by omega) (by omega) (fun t4 f1 f2 f3 => ⟨by unfold iR; omega, by omega, ?_⟩)
    have f12 := f1.2
    have u4 : st s3 t4 := st_tr c1 (st_tr d1 (st_tr e1 f1))
    rw [st_row (st_tr i1 u4) (by decide)]
    refine whole_ok ⟨by omega, by omega⟩ (by omega) (by omega) (fun t5 g1 g2 g3 => ?_)
    have g12 := g1.2
    have u25 : st t2 t5 := st_tr e1 (st_tr f1 g1)
    refine by_ok g2 (st_nm u25 d2) (by omega) (by omega) (fun t6 h1 h2 h3 => ?_)
    have h12 := h1.2
    refine plus_ok (st_nm h1 (st_nm g1 f2)) h2 (by omega) (by omega) (fun t7 k1 k2 k3 => ⟨by unfold iR; omega, ?_⟩)
    have u67 := st_tr h1 k1
    refine ⟨⟨st_tr i1 (st_tr u4 (st_tr g1 u67)), t + 1, by omega, by dsimp only; omega, by rw [eA]; exact k2, by rw [eB]; exact st_nm (st_tr u25 u67) d2, by rw [eA]; dsimp only; omega, by rw [eB]; dsimp only; omega, by dsimp only; omega⟩, by dsimp only; omega⟩
