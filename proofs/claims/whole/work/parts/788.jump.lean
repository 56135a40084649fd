/-! guessJump; zeros at binary points -/
def fq (s : im_S) (lo hi mi ot : Nat) : Prop := (s.1 83 13 = (lo : Int) ∧ s.1 83 14 = (hi : Int) ∧ s.1 83 15 = (mi : Int) ∧ s.1 83 16 = (ot : Int)) ∧ (v4 lo ∧ v4 hi ∧ v4 mi ∧ v4 ot) ∧ lo ≠ hi ∧ lo ≠ mi ∧ lo ≠ ot ∧ hi ≠ mi ∧ hi ≠ ot ∧ mi ≠ ot
theorem fq_co {F : Nat → Nat → Prop} {R : Nat → Prop} {s s' : im_S} {lo hi mi ot : Nat} (h : fq s lo hi mi ot) (f : gfr F R s s') (h1 : ∀ k, ¬ F 83 k) : fq s' lo hi mi ot := by
  unfold fq
  rw [f.1 _ _ (h1 13), f.1 _ _ (h1 14), f.1 _ _ (h1 15), f.1 _ _ (h1 16)]
  exact h
theorem fq_r {s : im_S} {lo hi mi ot : Nat} (h : fq s lo hi mi ot) : crf s 83 13 = lo ∧ crf s 83 14 = hi ∧ crf s 83 15 = mi ∧ crf s 83 16 = ot := by
  obtain ⟨⟨h1, h2, h3, h4⟩, _⟩ := h
  unfold crf
  rw [h1, h2, h3, h4]
  exact ⟨rfl, rfl, rfl, rfl⟩
def gjf (s s' : im_S) : Prop := gfr (fun c f => (c = 559 ∨ c = 563 ∨ c = 565) ∧ (f = 1 ∨ f = 2)) (fun c => c = 560 ∨ c = 564 ∨ c = 566) s s'
theorem absI_f {x : Int} {s : im_S} {Q : Int → im_S → Prop} (h : ∀ z, Q z s) : C_J9_abs_0f7a4 x s Q := fun v _ => h v
theorem p2W {n : Nat} (h : n ≤ 680) : (2 : Int) ^ n * 4 < W24 := by
  have a : (2 : Int) ^ n ≤ 2 ^ 680 := p2mono h
  have b := sz8_4
  have e : ((Y6 * 4 : Nat) : Int) = 2 ^ 680 * 4 := by unfold Y6; rw [Int.natCast_mul, Int.natCast_pow]; rfl
  rw [e] at b
  generalize (2 : Int) ^ 680 = Z at a b
  omega
theorem guessJump_b {s : im_S} {lp : Int} {lo hi mi ot : Nat} {Q : im_S → Prop} (hf : fq s lo hi mi ot) (ho : big s 553 1) (l1 : 1 ≤ lp) (l2 : lp ≤ 675) (hQ : ∀ s' j, big s' 559 j → 1 ≤ j → j < 2 ^ lp.toNat → gjf s s' → Q s') : C_guessJump3 lp s Q := by
  have gv := gln_v
  have g559 : gln 560 = 24 := gv.2.2.2.2.2.2.2.2.2.1
  obtain ⟨r1, r2, _, _⟩ := fq_r hf
  refine copy_f (fun s1 f1 => copy_f (fun s2 f2 => absI_f (fun z3 s3 e3 => absI_f (fun z4 s4 e4 => add_f (fun s5 f5 => bits_f (fun z6 => shiftDown_f (fun s7 f7 => shiftDown_f (fun s8 f8 => ?_))))))))
  have g2 : gjf s s2 := gfr_b (gfr_b (gfr_refl _ _ _) f1 (by omega) (by omega) (by omega)) f2 (by omega) (by omega) (by omega)
  have g4 : gjf s s4 := by subst e3; subst e4; exact gfr_pf (gfr_pf g2 (by omega)) (by omega)
  have g8 : gjf s s8 := gfr_b (gfr_b (gfr_b g4 f5 (by omega) (by omega) (by omega)) f7 (by omega) (by omega) (by omega)) f8 (by omega) (by omega) (by omega)
  refine set_b ⟨by decide, by decide⟩ (by decide) (by rw [g559]; decide) (fun s9 h9 f9 => ?_)
  have g9 : gjf s s9 := gfr_b g8 f9 (by omega) (by omega) (by omega)
  refine ⟨fun q => ∃ (i : Nat) (j : Int), q.1 = (i : Int) ∧ (i : Int) ≤ lp + 1 ∧ big q.2 559 j ∧ 0 ≤ j ∧ j < 2 ^ i ∧ gjf s q.2, ⟨0, 0, rfl, by omega, h9, Int.le_refl _, by show (0 : Int) < 1; decide, g9⟩, ?_⟩
  rintro ⟨x, s10⟩ ⟨i, j, ei, il, hj, j0, j1, g10⟩
  dsimp only at ei hj g10 ⊢
  subst ei
  have o10 : big s10 553 1 := big_g ho g10 (by omega) (by omega) (by omega)
  have pw := p2W (n := i) (by omega)
  refine ⟨fun c => ?_, fun c => ?_⟩
  · have ei : i = lp.toNat + 1 := by omega
    subst ei
    rw [p2s] at j1 pw
    have fin : ∀ (sx : im_S) (jx : Int), big sx 559 jx → 1 ≤ jx → jx ≤ 2 ^ lp.toNat → gjf s sx → C_guessJump3_210 lp sx Q := by
      intro sx jx hx x1 x2 gx
      refine bits_b hx (by rw [g559]; decide) (fun z hz => ⟨fun zl => hQ sx jx hx x1 ?_ gx, fun zg => ?_⟩)
      · rcases hz with q | ⟨q1, q2, q3⟩
        · omega
        · have : (2 : Int) ^ z.toNat ≤ 2 ^ lp.toNat := p2mono (by omega)
          omega
      · refine set_b ⟨by decide, by decide⟩ (by decide) (by rw [g559]; decide) (fun sa ha fa => ?_)
        refine shiftUp_b ha (by omega) (by rw [g559]; decide) (by rw [g559]; decide) (by rw [rm559]; show (1 : Int) * 2 ^ lp.toNat < W24; omega) (fun sb hb fb => ?_)
        have ob : big sb 553 1 := big_fr (big_fr (big_g ho gx (by omega) (by omega) (by omega)) fa (by omega)) fb (by omega)
        rw [Int.one_mul] at hb
        have pp := p2p lp.toNat
        refine add_b hb ob (by decide) (by rw [g559]; decide) (Or.inr rfl) (by rw [rm559]; show (((2 ^ lp.toNat : Int).natAbs : Nat) : Int) + 1 < W24; omega) (fun sc hc fc => ?_)
        have e1 : (2 : Int) ^ lp.toNat + -1 * 1 = 2 ^ lp.toNat - 1 := by omega
        rw [e1] at hc
        have two : (2 : Int) ≤ 2 ^ lp.toNat := by
          have : (2 : Int) ^ 1 ≤ 2 ^ lp.toNat := p2mono (by omega)
          omega
        exact hQ sc _ hc (by omega) (by omega) (gfr_b (gfr_b (gfr_b gx fa (by omega) (by omega) (by omega)) fb (by omega) (by omega) (by omega)) fc (by omega) (by omega) (by omega))
    refine add_b hj o10 (by decide) (by rw [g559]; decide) (Or.inl rfl) (by rw [rm559]; show (j.natAbs : Int) + 1 < W24; omega) (fun s11 h11 f11 => ?_)
    refine shiftDown_b h11 (by decide) (by rw [g559]; decide) (fun s12 h12 f12 => ?_)
    have ev : (j + 1 * 1).tdiv (2 ^ (1 : Int).toNat) = (j + 1) / 2 := by
      show (j + 1 * 1).tdiv 2 = _
      rw [Int.tdiv_eq_ediv_of_nonneg (by omega)]
      omega
    rw [ev] at h12
    have g12 : gjf s s12 := gfr_b (gfr_b g10 f11 (by omega) (by omega) (by omega)) f12 (by omega) (by omega) (by omega)
    refine ⟨fun m => fin s12 _ h12 ?_ (by omega) g12, fun m => ?_⟩
    · have : ((j + 1) / 2).sign ≠ 0 := by rw [← big_mk h12]; exact m
      have : (j + 1) / 2 ≠ 0 := fun z => this (by rw [z]; rfl)
      omega
    · refine set_b ⟨by decide, by decide⟩ (by decide) (by rw [g559]; decide) (fun s13 h13 f13 => fin s13 1 h13 (by decide) ?_ (gfr_b g12 f13 (by omega) (by omega) (by omega)))
      have := p2p lp.toNat
      omega
  · refine shiftUp_f (fun s11 f11 => ?_)
    have j11 : big s11 559 j := big_fr hj f11 (by decide)
    refine shiftUp_b j11 (by decide) (by rw [g559]; decide) (by rw [g559]; decide) (by rw [rm559]; show (j.natAbs : Int) * 2 < W24; omega) (fun s12 h12 f12 => ?_)
    have e1 : j * 2 ^ (1 : Int).toNat = 2 * j := by show j * 2 = _; omega
    rw [e1] at h12
    have g12 : gjf s s12 := gfr_b (gfr_b g10 f11 (by omega) (by omega) (by omega)) f12 (by omega) (by omega) (by omega)
    refine compareSize_f (fun z => ⟨fun _ => ⟨i + 1, 2 * j, ?_, by omega, h12, by omega, by rw [p2s]; omega, g12⟩, fun _ => add_f (fun s13 f13 => ?_)⟩)
    · dsimp only; rw [w32_id (by omega) (by omega)]; omega
    · have j13 : big s13 559 (2 * j) := big_fr h12 f13 (by decide)
      have o13 : big s13 553 1 := big_fr (big_fr (big_fr o10 f11 (by decide)) f12 (by decide)) f13 (by decide)
      refine add_b j13 o13 (by decide) (by rw [g559]; decide) (Or.inl rfl) (by rw [rm559]; show ((2 * j).natAbs : Int) + 1 < W24; omega) (fun s14 h14 f14 => ⟨i + 1, 2 * j + 1, ?_, by omega, ?_, by omega, by rw [p2s]; omega, gfr_b (gfr_b g12 f13 (by omega) (by omega) (by omega)) f14 (by omega) (by omega) (by omega)⟩)
      · dsimp only; rw [w32_id (by omega) (by omega)]; omega
      · have e2 : 2 * j + 1 * 1 = 2 * j + 1 := by omega
        rw [e2] at h14; exact h14
/-! zeros at binary points -/
theorem dyad : ∀ (n : Nat) (c : Int), ∃ (e : Nat) (p : Int), e ≤ n ∧ c = p * 2 ^ (n - e) ∧ (e = 0 ∨ p % 2 = 1)
  | 0, c => ⟨0, c, Nat.le_refl _, by show c = c * 1; omega, Or.inl rfl⟩
  | n + 1, c => by
    by_cases h : c % 2 = 0
    · obtain ⟨e, p, h1, h2, h3⟩ := dyad n (c / 2)
      refine ⟨e, p, by omega, ?_, h3⟩
      rw [show n + 1 - e = (n - e) + 1 by omega, p2s]
      have : p * (2 * 2 ^ (n - e)) = 2 * (p * 2 ^ (n - e)) := by grind
      omega
    · exact ⟨n + 1, c, Nat.le_refl _, by rw [Nat.sub_self]; show c = c * 1; omega, Or.inr (by omega)⟩
theorem gcd_odd {p : Int} {e : Nat} (h : e = 0 ∨ p % 2 = 1) : Int.gcd p (2 ^ e) = 1 := by
  rcases h with h | h
  · subst h
    show Nat.gcd p.natAbs 1 = 1
    exact Nat.gcd_one_right _
  · have c : Nat.Coprime p.natAbs 2 := by
      show Nat.gcd p.natAbs 2 = 1
      rw [Nat.gcd_comm, Nat.gcd_rec]
      have : p.natAbs % 2 = 1 := by omega
      rw [this]; rfl
    have d := Nat.Coprime.pow_right e c
    show Nat.gcd p.natAbs (2 ^ e : Int).natAbs = 1
    rw [Int.natAbs_pow]
    exact d
theorem pat_lead {P : List Int} {d : Nat} (h : pat P) (hP : pdb P (d + 1)) (hL : pgt P d ≠ 0) : (pgt P d).natAbs ≤ 1000000000 := by
  obtain ⟨A, Q, e, a9, a0, ab⟩ := h
  have nQ := (ne_of_mul e a0).2
  obtain ⟨k, k0, kt⟩ := ptop Q nQ
  have t := top_co hP kt e
  have := ab (d + k)
  rw [t, Int.natAbs_mul] at this
  have m : (pgt P d).natAbs * 1 ≤ (pgt P d).natAbs * (pgt Q k).natAbs := Nat.mul_le_mul_left _ (by omega)
  omega
theorem zero_e {P : List Int} {d e : Nat} {p : Int} {z : Rat} (h : pat P) (hP : pdb P (d + 1)) (hL : pgt P d ≠ 0) (ho : e = 0 ∨ p % 2 = 1) (hz : ((2 ^ e : Int) : Rat) * z = p) (h0 : pev P z = 0) : e ≤ 29 := by
  have h0' : pev (pmk (d + 1) (pgt P)) z = 0 := by rw [pdb_ev hP]; exact h0
  obtain ⟨P', e1, e2⟩ := lin_fac (p2p e) (gcd_odd ho) hz h0' (by rw [pmk_len]; omega)
  rw [pmk_len] at e2
  have ev : ∀ x : Rat, pev P x = pev [-p, 2 ^ e] x * pev P' x := fun x => by
    rw [← pdb_ev hP, e1, lml_ev, lnf_ev, Rat.intCast_neg]; grind
  have lP : P'.length = d := by omega
  cases d with
  | zero =>
    exfalso
    have : P' = [] := List.length_eq_zero_iff.1 lP
    refine hL (pev_zero (fun x => ?_) 0)
    rw [ev x, this]
    show _ * (0 : Rat) = 0
    grind
  | succ d =>
    have t := top_co (R := P) (G := [-p, 2 ^ e]) (K := P') (m := 1) (j := d) (pdb_len _) (by have := pdb_len P'; rw [lP] at this; exact this) ev
    have lead := pat_lead h hP hL
    rw [Nat.add_comm 1 d] at t
    rw [t] at lead hL
    have e3 : pgt [-p, (2 : Int) ^ e] 1 = 2 ^ e := rfl
    rw [e3, Int.natAbs_mul, Int.natAbs_pow] at lead
    rw [e3] at hL
    have n0 : 1 ≤ (pgt P' d).natAbs := by
      refine Nat.pos_of_ne_zero fun w => hL ?_
      rw [Int.natAbs_eq_zero.1 w, Int.mul_zero]
    have m : (2 : Int).natAbs ^ e * 1 ≤ (2 : Int).natAbs ^ e * (pgt P' d).natAbs := Nat.mul_le_mul_left _ n0
    refine Nat.le_of_not_lt fun c => ?_
    have big : (2 : Nat) ^ 30 ≤ 2 ^ e := Nat.pow_le_pow_right (by decide) c
    have e4 : (2 : Int).natAbs = 2 := rfl
    rw [e4] at m lead
    have e5 : (2 : Nat) ^ 30 = 1073741824 := by decide
    omega
