/-! THE REFERENCE'S POLYNOMIALS: derivative, common2 -/
/-- the derivative's list -/
def pdl (F : List Int) : List Int := pmk (F.length - 1) (fun k => pgt F (k + 1) * ((k : Int) + 1))
theorem lim_sm : ∀ k : Nat, k ≤ 9 → lim (k : Int) ≤ 1 := by decide
theorem pdl_lb {F : List Int} {M : Nat} (hM : plb F M) (hl : F.length ≤ 9) : plb (pdl F) (M + 1) := by
  refine pmk_lb (fun k hk => ?_)
  have a := lim_mul (pgt F (k + 1)) ((k : Int) + 1)
  have b := hM (k + 1)
  have c := lim_sm (k + 1) (by omega)
  rw [show ((k + 1 : Nat) : Int) = (k : Int) + 1 by omega] at c
  omega
theorem derivative_ok {s : im_S} {f : Int} {F : List Int} {M : Nat} {Q : Int → im_S → Prop} (hf : pol s f F) (hM : plb F M) (hF1 : 1 ≤ F.length) (hp : wgf s 28 < 1200) (h0 : 0 ≤ wgf s 24) (hm : wgf s 24 + 8 * (F.length * ((M : Int) + 2)) + 6 * M + 60 ≤ 684000) (hQ : ∀ s' R, ps s s' → wgf s' 28 = wgf s 28 + 1 → pol s' (wgf s 28) R → cr 0 (pdl F) R → wgf s' 24 ≤ wgf s 24 + 1 + 5 * (F.length * ((M : Int) + 2)) → Q (wgf s 28) s') : W_derivative f s Q := by
  unfold W_derivative
  obtain ⟨f1, f2, f3, f4, f5, f6⟩ := hf
  have hfb : 0 ≤ f ∧ f < 1200 := ⟨f1, by omega⟩
  refine ⟨hfb, by rw [f5]; exact ⟨by omega, by omega⟩, newPolynomial_ok (by omega) hp (fun s1 a1 a2 a3 a4 a5 => ?_)⟩
  obtain ⟨z, hz⟩ : ∃ z, z = wgf s 28 := ⟨_, rfl⟩
  rw [← hz] at a2 a4 hQ ⊢
  have hzb : 0 ≤ z ∧ z < 1200 := ⟨by omega, by omega⟩
  have u0 : (0 : Int) ≤ (M : Int) + 2 := by omega
  refine ⟨fun a => ∃ k : Nat, a.1 = (k : Int) + 1 ∧ k + 1 ≤ F.length ∧ ps s a.2 ∧ wgf a.2 28 = z + 1 ∧ wgf a.2 24 ≤ wgf s 24 + 2 * (k * ((M : Int) + 2)) ∧ wga a.2 598 z = (F.length : Int) - 2 ∧ ∀ j : Nat, j < k → nm a.2 (wga a.2 599 (9 * z + j)) (pgt F (j + 1) * ((j : Int) + 1)), fun a => ((F.length : Int) - a.1).toNat, ⟨0, rfl, by omega, a1, a2, by dsimp only; omega, by dsimp only; rw [a4, f5]; omega, fun j hj => by omega⟩, ?_⟩
  rintro ⟨k0, s2⟩ ⟨k, i1, i2, i3, i4, i5, i6, i7⟩
  dsimp only at i1 i2 i3 i4 i5 i6 i7 ⊢
  subst i1
  unfold W_derivative_15
  have i33 := i3.2.2.1
  have df : wga s2 598 f = (F.length : Int) - 1 := by rw [ps_d i3 f1 (by omega)]; exact f5
  have mF := km_le (k := k) (n := F.length) (by omega) u0
  have pl : (pdl F).length = F.length - 1 := pmk_len _ _
  have mF2 := km_le (k := F.length - 1) (n := F.length) (by omega) u0
  refine ⟨hfb, fun c => ?_, fun c => ?_⟩
  · have ek : k = F.length - 1 := by omega
    have pz : pol s2 z (pdl F) := by
      refine ⟨hzb.1, by omega, by omega, by omega, by rw [i6, pl]; omega, fun j hj => ?_⟩
      unfold pdl
      rw [pl] at hj
      rw [pmk_gt, if_pos hj]
      exact i7 j (by omega)
    refine clean_ok pz (pdl_lb hM f4) (Or.inl rfl) (by omega) ?_ (fun s' R c1 c2 c3 c4 c5 => ?_)
    · rw [pl, show ((M + 1 : Nat) : Int) + 1 = (M : Int) + 2 by omega]; omega
    · have c6 := c5 rfl
      rw [pl, show ((M + 1 : Nat) : Int) + 1 = (M : Int) + 2 by omega] at c6
      have q1 := pc_28 c1
      exact hQ s' R (pc_ps i3 (by omega) c1) (by omega) c2 c3 (by omega)
  · have hk : k + 1 < F.length := by omega
    have m1 := km_le (k := k + 1) (n := F.length) (by omega) u0
    have m2 := km_s k ((M : Int) + 2)
    have lk := hM (k + 1)
    have l1 := lim_sm (k + 1) (by omega)
    rw [show ((k + 1 : Nat) : Int) = (k : Int) + 1 by omega] at l1
    have nf : nm s2 (wga s2 599 (9 * f + ((k : Int) + 1))) (pgt F (k + 1)) := by
      rw [ps_p i3 (by omega) (by omega), show (k : Int) + 1 = ((k + 1 : Nat) : Int) by omega]
      exact ps_nm i3 (f6 (k + 1) hk)
    refine ⟨⟨by omega, by omega⟩, at_ok hfb.1 hfb.2 (by omega) (by omega) (whole_ok ⟨by omega, by omega⟩ (by omega) (by omega) (fun s3 b1 b2 b3 => ?_))⟩
    have b12 := b1.2
    refine by_ok (st_nm b1 nf) b2 (by omega) (by omega) (fun s4 d1 d2 d3 => ?_)
    have lm := lim_mul (pgt F (k + 1)) ((k : Int) + 1)
    have sp := st_ps (st_tr b1 d1)
    rw [show (k : Int) + 1 - 1 = (k : Int) by omega]
    refine set_ok hzb.1 hzb.2 (by omega) (by omega) ⟨⟨by omega, by omega⟩, ⟨k + 1, by dsimp only; omega, by omega, ?_, ?_, ?_, ?_, fun j hj => ?_⟩, by dsimp only; omega⟩
    · exact pc_ps (ps_tr i3 sp) (by omega) (pc_set pc_rfl hzb.1 (by omega) (by omega))
    · dsimp only; rw [wf_pa, st_28 d1, st_28 b1]; exact i4
    · dsimp only; rw [wf_pa]; omega
    · dsimp only; rw [wg_row (by decide), st_row (st_tr b1 d1) (by decide)]; exact i6
    · dsimp only
      by_cases q : j = k
      · subst q
        exact en_new d2
      · exact en_old (st_tr b1 d1) hzb.1 q (i7 j (by omega))
/-- the loop of common2: how far it goes is told by Inv, which each rest keeps; C is what it costs -/
theorem rlm_le : ∀ (l m M N : Nat), rlm l m M N ≤ M + l * (N + 1)
  | 0, _, M, _ => by show M ≤ _; omega
  | l + 1, m, M, N => by
    unfold rlm
    have e : (l + 1) * (N + 1) = l * (N + 1) + (N + 1) := Nat.succ_mul _ _
    by_cases c : l + 1 < m
    · rw [if_pos c]; omega
    · rw [if_neg c]
      have := rlm_le l m (M + N + 1) N
      omega
theorem common2_49 {s s1 : im_S} {f z : Int} {F : List Int} {M : Nat} {Q : Int → im_S → Prop} (hs : ps s s1) (hz0 : wgf s 28 ≤ z) (hfz : f < z) (hz1 : wgf s1 28 = z + 1) (hz2 : z < 1200) (hf : pol s1 f F) (hM : plb F M) (hd : wga s1 598 z = (F.length : Int) - 1) (h0 : 0 ≤ wgf s1 24) (hm : wgf s1 24 + 27 * ((M : Int) + 1) + 6 * M + 30 ≤ 684000) (hQ : ∀ s' R, ps s s' → wgf s' 28 = z + 1 → pol s' z R → cr 1 F R → wgf s' 24 ≤ wgf s1 24 + 1 + 27 * ((M : Int) + 1) → Q z s') : wloop (fun (K : Int × im_S → Prop) (a : Int × im_S) => W_common2_49 K f z a.1 a.2 Q) (0, s1) := by
  obtain ⟨f1, f2, f3, f4, f5, f6⟩ := hf
  have hfb : 0 ≤ f ∧ f < 1200 := ⟨f1, by omega⟩
  have hzb : 0 ≤ z ∧ z < 1200 := ⟨by omega, hz2⟩
  refine ⟨fun a => ∃ k : Nat, a.1 = k ∧ k ≤ F.length ∧ pc z s1 a.2 ∧ wgf a.2 24 = wgf s1 24 ∧ wga a.2 598 z = (F.length : Int) - 1 ∧ ∀ j : Nat, j < k → nm a.2 (wga a.2 599 (9 * z + j)) (pgt F j), fun a => ((F.length : Int) - a.1).toNat, ⟨0, rfl, by omega, pc_rfl, rfl, hd, fun j hj => by omega⟩, ?_⟩
  rintro ⟨k0, s2⟩ ⟨k, i1, i2, i3, i5, i6, i7⟩
  dsimp only at i1 i2 i3 i5 i6 i7 ⊢
  subst i1
  unfold W_common2_49
  have df : wga s2 598 f = (F.length : Int) - 1 := by rw [pc_d i3 f1 (by omega)]; exact f5
  have z28 := pc_28 i3
  refine ⟨hfb, fun c => ?_, fun c => ?_⟩
  · have ek : k = F.length := by omega
    have pz : pol s2 z F := ⟨hzb.1, by omega, by omega, f4, i6, fun j hj => i7 j (by omega)⟩
    have m1 : (F.length : Int) * ((M : Int) + 1) ≤ 9 * ((M : Int) + 1) := Int.mul_le_mul_of_nonneg_right (by omega) (by omega)
    refine clean_ok pz hM (Or.inr rfl) (by omega) (by omega) (fun s' R c1 c2 c3 c4 c5 => ?_)
    have c28 := pc_28 c1
    exact hQ s' R (pc_ps hs hz0 (pc_tr i3 c1)) (by omega) c2 c3 (by omega)
  · have hk : k < F.length := by omega
    refine at_ok hfb.1 hfb.2 (by omega) (by omega) (set_ok hzb.1 hzb.2 (by omega) (by omega) ⟨⟨by omega, by omega⟩, ⟨k + 1, by dsimp only; omega, by omega, ?_, ?_, ?_, fun j hj => ?_⟩, by dsimp only; omega⟩)
    · exact pc_set i3 hzb.1 (by omega) (by omega)
    · dsimp only; rw [wf_pa]; exact i5
    · dsimp only; rw [wg_row (by decide)]; exact i6
    · dsimp only
      by_cases q : j = k
      · subst q
        refine en_new ?_
        rw [pc_p i3 (by omega) (by omega)]
        exact pc_nm i3 (f6 j hk)
      · exact en_old st_rfl hzb.1 q (i7 j (by omega))
theorem common2_ok {s : im_S} {f g : Int} {F G : List Int} {M : Nat} {C : Nat → Nat → Nat} {Inv : List Int → List Int → Prop} {Q : Int → im_S → Prop} (hf : pol s f F) (hg : pol s g G) (hI : Inv F G) (hIn : ∀ F G R, Inv F G → 1 ≤ G.length → rr F G R → Inv G R) (hB : ∀ F G, Inv F G → plb F M ∧ plb G M ∧ 1 ≤ F.length ∧ (∀ n, G.length = n + 1 → pgt G n ≠ 0)) (hC : ∀ l m m' : Nat, l ≤ 9 → 1 ≤ m → m ≤ 9 → m' < m → rco l m M M + (M + 1) + C m m' ≤ C l m) (hp : wgf s 28 + G.length + 1 ≤ 1200) (h0 : 0 ≤ wgf s 24) (hm : wgf s 24 + C F.length G.length + 200 * ((M : Int) + 1) + 100 ≤ 684000) (hQ : ∀ (h : Int) (s' : im_S) (E R : List Int), ps s s' → wgf s' 28 ≤ wgf s 28 + G.length + 1 → wgf s 28 ≤ h → pol s' h R → Inv E [] → cr 1 E R → wgf s' 24 ≤ wgf s 24 + C F.length G.length + 1 + 27 * ((M : Int) + 1) → Q h s') : W_common2 f g s Q := by
  unfold W_common2
  refine ⟨fun a => ∃ F1 G1 : List Int, ps s a.2.2 ∧ wgf a.2.2 28 + G1.length ≤ wgf s 28 + G.length ∧ pol a.2.2 a.1 F1 ∧ pol a.2.2 a.2.1 G1 ∧ Inv F1 G1 ∧ wgf a.2.2 24 + C F1.length G1.length ≤ wgf s 24 + C F.length G.length, fun a => (wga a.2.2 598 a.2.1 + 1).toNat, ⟨F, G, ps_rfl, Int.le_refl _, hf, hg, hI, Int.le_refl _⟩, ?_⟩
  rintro ⟨f1, g1, s2⟩ ⟨F1, G1, i1, i2, i3, i4, i5, i6⟩
  dsimp only at i1 i2 i3 i4 i5 i6 ⊢
  unfold W_common2_5
  obtain ⟨b1, b2, b3, b4⟩ := hB F1 G1 i5
  have p1 := i3.1
  have p2 := i3.2.1
  have p3 := i3.2.2.1
  have p4 := i3.2.2.2.1
  have q1 := i4.1
  have q2 := i4.2.1
  have q4 := i4.2.2.2.1
  have q5 := i4.2.2.2.2.1
  have i13 := i1.2.2.1
  have i14 := i1.2.2.2
  refine ⟨⟨q1, by omega⟩, fun c => ⟨⟨p1, by omega⟩, ?_⟩, fun c => ?_⟩
  · have eG : G1 = [] := List.eq_nil_of_length_eq_zero (by omega)
    subst eG
    refine newPolynomial_ok (by omega) (by omega) (fun s3 a1 a2 a3 a4 a5 => ?_)
    have p3' := ps_pol a1 (by omega) i3
    refine common2_49 (s := s) (M := M) (ps_tr i1 a1) (by omega) (by omega) a2 (by omega) p3' b1 (by rw [a4]; exact i3.2.2.2.2.1) (by omega) (by omega) (fun s' R c1 c2 c3 c4 c5 => hQ _ s' F1 R c1 (by omega) (by omega) c3 i5 c4 (by omega))
  · have hG1 : 1 ≤ G1.length := by omega
    have hc0 := hC F1.length G1.length 0 p4 hG1 q4 (by omega)
    have rl := rlm_le F1.length G1.length M M
    have rl2 : F1.length * (M + 1) ≤ 9 * (M + 1) := Nat.mul_le_mul_right _ p4
    refine restOf_ok i3 i4 b1 b2 b4 hG1 (by omega) (by omega) (by omega) (fun s3 R c1 c2 c3 c4 c5 c6 => ?_)
    have lR : R.length < G1.length := by
      rcases c4 with e | e
      · rw [e.2]; exact e.1
      · exact e.2.1
    have hc1 := hC F1.length G1.length R.length p4 hG1 q4 lR
    have r5 := c3.2.2.2.2.1
    exact ⟨⟨G1, R, ps_tr i1 c1, by dsimp only; omega, ps_pol c1 (by dsimp only; omega) i4, c3, hIn F1 G1 R i5 hG1 c4, by dsimp only; omega⟩, by dsimp only; rw [r5, q5]; omega⟩
