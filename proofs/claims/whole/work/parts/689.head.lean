/-! findRoots ahead of its pile: the greatest factor and the first two intervals -/
theorem nm_pc {s : im_S} {c : Nat} {i v x X : Int} (h : c ≠ 597) (hn : nm s x X) : nm (wpa s c i v) x X := ⟨num_co hn.1 hn.1.1 hn.1.2.1 (fun t _ _ => wg_row (fun e => h e.symm)), hn.2⟩
theorem findRoots_85 {s : im_S} {b l2 l3 p x G R0 : Int} {P : List Int} {n : Nat} {Q : im_S → Prop} (hf : pol s p P) (hn : P.length = n + 1) (hab : pab P p27) (hL : 0 < pgt P n) (hx : nm s x G) (hG : G.natAbs ≤ p27) (hR : R0 ≤ 80) (h41 : wgf s 41 = R0) (h0 : 0 ≤ wgf s 24) (hm : wgf s 24 + 5000 ≤ 684000) (hX : ∀ (s' : im_S) (m : Nat), 1 ≤ m → m ≤ 90 → (G.natAbs : Int) + pgt P n ≤ 2 ^ m * pgt P n → fwr (wgf s 24) R0 s s' → wgf s' 41 = wgf s 41 → wgf s' 52 = wgf s 52 → wgf s 24 ≤ wgf s' 24 → wgf s' 24 ≤ wgf s 24 + 3000 → pen s' m 0 0 (-m) → pen s' m 1 (-1) (-m) → wloop (fun (K : Int × im_S → Prop) (a : Int × im_S) => W_findRoots_191 K b l2 l3 R0 a.1 a.2 Q) (2, s')) : wloop (fun (K : Int × im_S → Prop) (a : Int × im_S) => W_findRoots_85 K b l2 l3 p x a.1 a.2 Q) (1, s) := by
  refine ⟨fun a => ∃ m : Nat, a.1 = m ∧ 1 ≤ m ∧ m ≤ 90 ∧ st s a.2 ∧ wgf a.2 24 ≤ wgf s 24 + 30 * m, fun a => (91 - a.1).toNat, ⟨1, rfl, by omega, by omega, st_rfl, by dsimp only; omega⟩, ?_⟩
  rintro ⟨m0, s2⟩ ⟨m, i1, i2, i3, i4, i5⟩
  dsimp only at i1 i2 i3 i4 i5 ⊢
  subst i1
  have i42 := i4.2
  have hpb : 0 ≤ p ∧ p < 1200 := ⟨hf.1, by have := hf.2.1; have := hf.2.2.1; omega⟩
  have hn9 : n ≤ 8 := by have := hf.2.2.2.1; omega
  have q1 : lim (2 ^ m) ≤ 4 := by
    have := lim_p2 m
    omega
  have q2 : ((m : Int) + 40) * (lim (2 ^ m) + 3) ≤ 130 * 7 := by
    have b' : (m + 40) * (lim (2 ^ m) + 3) ≤ 130 * 7 := Nat.mul_le_mul (by omega) (by omega)
    exact Int.ofNat_le.2 b'
  have lL : lim (pgt P n) ≤ 3 := pab_lb hab n
  have lG : lim G ≤ 3 := lim_le (Nat.lt_of_le_of_lt hG (by decide))
  have lm := lim_mul (2 ^ m) (pgt P n)
  have la := lim_add (G.natAbs : Int) (pgt P n)
  have lga : lim (G.natAbs : Int) = lim G := lim_abs (by omega)
  have row : ∀ s' : im_S, st s s' → wga s' 598 p = n ∧ nm s' (wga s' 599 (9 * p + n)) (pgt P n) := fun s' h => by
    have z := st_pol h hf
    refine ⟨?_, z.2.2.2.2.2 n (by omega)⟩
    rw [z.2.2.2.2.1]
    omega
  unfold W_findRoots_85
  refine powerOfTwo_ok (by omega) (by omega) (by omega) (fun s3 a1 a2 a3 => ⟨hpb, ?_⟩)
  have t3 := st_tr i4 a1
  have a12 := a1.2
  obtain ⟨r1, r2⟩ := row s3 t3
  rw [r1]
  refine at_ok hpb.1 hpb.2 (by omega) (by omega) (by_ok a2 r2 (by omega) (by omega) (fun s4 b1 b2 b3 => ⟨hpb, ?_⟩))
  have t4 := st_tr t3 b1
  have b12 := b1.2
  obtain ⟨r3, r4⟩ := row s4 t4
  rw [r3]
  refine at_ok hpb.1 hpb.2 (by omega) (by omega) (plus1_ok (st_nm t4 hx) r4 (by omega) (by omega) (fun z s5 c1 c2 c3 c4 => ?_))
  have t5 := st_tr t4 c1
  have c12 := c1.2
  refine weigh_ok (st_nm c1 b2).1 c2.1 ?_
  have pos : (0 : Int) ≤ 2 ^ m * pgt P n := Int.mul_nonneg (Int.le_of_lt (Int.pow_pos (by decide))) (Int.le_of_lt hL)
  have sc := sg_c (((2 ^ m * pgt P n).natAbs : Int) - (((G.natAbs : Int) + pgt P n).natAbs : Int))
  refine ⟨fun c => ?_, fun c => ?_⟩
  · have ge : (G.natAbs : Int) + pgt P n ≤ 2 ^ m * pgt P n := by omega
    have lz := lim_zero
    have l1 : lim (-1) = 1 := by decide
    refine whole_ok ⟨by decide, by decide⟩ (by omega) (by omega) (fun s6 d1 d2 d3 => ⟨⟨by decide, by decide⟩, fun s7 e7 => ⟨⟨by omega, by omega⟩, ⟨by decide, by decide⟩, fun s8 e8 => ?_⟩⟩)
    have t7 : wgf s8 24 = wgf s6 24 := by rw [e8, e7]; rfl
    refine whole_ok ⟨by decide, by decide⟩ (by omega) (by omega) (fun s9 g1 g2 g3 => ⟨⟨by decide, by decide⟩, fun s10 e10 => ⟨⟨by omega, by omega⟩, ⟨by decide, by decide⟩, fun s11 e11 => ?_⟩⟩)
    have d12 := d1.2
    have g12 := g1.2
    have t11 : wgf s11 24 = wgf s9 24 := by rw [e11, e10]; rfl
    have fw : fwr (wgf s 24) R0 s s11 := by
      rw [e11, e10]
      refine fwr_pa (fwr_pa (fwr_tr ?_ (st_fwr g1 (by omega) hR)) (Or.inl rfl)) (Or.inr rfl)
      rw [e8, e7]
      exact fwr_pa (fwr_pa (st_fwr (st_tr t5 d1) (Int.le_refl _) hR) (Or.inl rfl)) (Or.inr rfl)
    have ff : ∀ f : Nat, f ≠ 24 → f ≠ 25 → wgf s11 f = wgf s f := fun f f1 f2 => by
      rw [e11, wf_pa, e10, wf_pa, ag_f g1.1 f1 f2, e8, wf_pa, e7, wf_pa, ag_f (st_tr t5 d1).1 f1 f2]
    have o2 : 1 ≤ 2 ^ (-(m : Int) + 93).toNat := Nat.one_le_two_pow
    have hb0 : hbd 0 (-(m : Int)) := ⟨by omega, by omega, by show (0 : Int).natAbs ≤ _; omega⟩
    have hb1 : hbd (0 + 1) (-(m : Int)) := ⟨by omega, by omega, by show (1 : Int).natAbs ≤ _; omega⟩
    have hb2 : hbd (-1) (-(m : Int)) := ⟨by omega, by omega, by show (-1 : Int).natAbs ≤ _; omega⟩
    have hb3 : hbd (-1 + 1) (-(m : Int)) := hb0
    have n0 : wga s11 615 ((0 : Nat) : Int) = wgf s5 24 := by
      rw [e11, wg_row (by decide), e10, wg_ne (by omega) (by omega) (by omega), st_row g1 (by decide), e8, wg_row (by decide), e7]; exact wg_same
    have n1 : wga s11 615 ((1 : Nat) : Int) = wgf s8 24 := by
      rw [e11, wg_row (by decide), e10]; exact wg_same
    have k0 : wga s11 616 ((0 : Nat) : Int) = -(m : Int) := by
      rw [e11, wg_ne (by omega) (by omega) (by omega), e10, wg_row (by decide), st_row g1 (by decide), e8]; exact wg_same
    have k1 : wga s11 616 ((1 : Nat) : Int) = -(m : Int) := by
      rw [e11]; exact wg_same
    have m0 : nm s11 (wgf s5 24) 0 := by
      rw [e11, e10]
      refine nm_pc (by decide) (nm_pc (by decide) (st_nm g1 ?_))
      rw [e8, e7]
      exact nm_pc (by decide) (nm_pc (by decide) d2)
    have m1 : nm s11 (wgf s8 24) (-1) := by
      rw [e11, e10]
      exact nm_pc (by decide) (nm_pc (by decide) g2)
    rw [show wgf s5 41 = R0 by rw [ag_f t5.1 (by decide) (by decide)]; exact h41]
    refine hX s11 m i2 i3 ge fw (ff 41 (by decide) (by decide)) (ff 52 (by decide) (by decide)) (by omega) (by omega) ⟨by rw [n0]; exact m0, by rw [n0]; exact m0.2, k0, hb0, hb1, by omega, by omega, by omega⟩ ⟨by rw [n1]; exact m1, by rw [n1]; exact m1.2, k1, hb2, hb3, by omega, by omega, by omega⟩
  · have lt : 2 ^ m * pgt P n < (G.natAbs : Int) + pgt P n := by omega
    have m90 : m ≠ 90 := by
      intro e
      subst e
      unfold p27 at hG
      omega
    exact ⟨⟨by omega, by omega⟩, ⟨m + 1, by dsimp only; omega, by omega, by omega, t5, by dsimp only; omega⟩, by dsimp only; omega⟩
