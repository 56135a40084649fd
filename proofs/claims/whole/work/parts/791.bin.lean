/-! setFraction, readBinary, readParts, sideOf -/
theorem floorDivJ_f {x y : Int} {s : im_S} {Q : Int → im_S → Prop} (h : ∀ z, Q z s) : C_J9_floorDiv_f86c9 x y s Q := ⟨fun _ => h _, fun _ => ⟨fun _ => h _, fun _ => h _⟩⟩
theorem setFraction_b {r : Nat} {a b : Int} {s : im_S} {Q : im_S → Prop} (hQ : ∀ s', s'.1 r 1 = 1 → s'.1 r 2 = a → s'.1 r 3 = max 1 b → gfr (fun c f => c = r ∧ 1 ≤ f ∧ f ≤ 5) (fun _ => False) s s' → Q s') : C_setFraction8 r a b s Q := by
  intro s1 e1
  refine maxJ_J (fun s2 e2 => floorDivJ_f (fun z s3 e3 => floorMod_f (fun y s4 e4 s5 e5 => ?_)))
  subst e1
  subst e2
  subst e3
  subst e4
  subst e5
  refine hQ _ (cpf_same _ _ _ _) ?_ ?_ ?_
  · rw [cpf_ne (by omega), cpf_ne (by omega), cpf_ne (by omega), cpf_ne (by omega), cpf_same]
  · rw [cpf_ne (by omega), cpf_ne (by omega), cpf_ne (by omega), cpf_same]
  · exact gfr_pf (gfr_pf (gfr_pf (gfr_pf (gfr_pf (gfr_refl _ _ _) (by omega)) (by omega)) (by omega)) (by omega)) (by omega)
theorem xv_dy {c p b : Int} {e : Nat} (he : (e : Int) ≤ b) (h : c = p * 2 ^ (b.toNat - e)) : ((2 ^ e : Int) : Rat) * xv c b = p := by
  have b0 : 0 ≤ b := by omega
  have e1 := xv_pow p (e : Int) (b.toNat - e)
  rw [← h, show (e : Int) + ((b.toNat - e : Nat) : Int) = b by omega] at e1
  rw [e1]
  unfold xv
  rw [if_pos (by omega), Int.toNat_natCast, Rat.intCast_pow]
  have e2 : ((2 : Int) : Rat) = 2 := rfl
  have := q2p e
  rw [e2]
  grind
def rbF (j c f : Nat) : Prop := (c = 311 + 3 * j ∧ 1 ≤ f ∧ f ≤ 5) ∨ (c = 555 ∧ (f = 1 ∨ f = 2))
def rbf (j : Nat) (s s' : im_S) : Prop := gfr (rbF j) (fun c => c = 556) s s'
theorem readBinary_b {s : im_S} {j d : Nat} {c b : Int} {P : List Int} {Q : im_S → Prop} (hj : j < 80) (hr : rst s j c b) (cw : (c.natAbs : Int) ≤ 2 ^ (b + 33).toNat) (b1 : -32 ≤ b) (b2 : b ≤ 640) (hp : pat P) (hP : pdb P (d + 1)) (hL : pgt P d ≠ 0) (hz : pev P (xv c b) = 0) (hQ : ∀ s' p q, s'.1 (311 + 3 * j) 1 = 1 → s'.1 (311 + 3 * j) 2 = p → s'.1 (311 + 3 * j) 3 = q → 1 ≤ q → q ≤ 536870912 → p.natAbs ≤ 4611686018427387904 → Int.gcd p q = 1 → (q : Rat) * xv c b = p → rbf j s s' → Q s') : C_readBinary3 (311 + 3 * j) s Q := by
  have gd555 : gln 556 = 24 := gln_v.2.2.2.2.2.2.2.1
  have pw := p2W (n := (b + 33).toNat) (by omega)
  have pp := p2p (b + 33).toNat
  refine copy_b hr.2 (by omega) (by rw [rm555]; omega) (by rw [gd555]; decide) (fun s1 h1 f1 => ?_)
  have g1 : rbf j s s1 := gfr_b (gfr_refl _ _ _) f1 (by unfold rbF; omega) (by unfold rbF; omega) rfl
  have bb : cgf s1 (311 + 3 * j) 7 = b := by show s1.1 _ _ = _; rw [f1.1 _ _ (by omega)]; exact hr.1
  -- the end: p over 2 ^ e
  have fin : ∀ (s2 : im_S) (e : Nat) (p : Int), big s2 555 p → (e = 0 ∨ p % 2 = 1) → ((2 ^ e : Int) : Rat) * xv c b = p → (p.natAbs : Int) ≤ 2 ^ (e + 33) → rbf j s s2 → C_readBinary3_69 (311 + 3 * j) (e : Int) s2 Q := by
    intro s2 e p h2 ho he hb g2
    have e29 := zero_e hp hP hL ho he hz
    have pb : (p.natAbs : Int) ≤ 4611686018427387904 := by
      have : (2 : Int) ^ (e + 33) ≤ 2 ^ 62 := p2mono (by omega)
      have e62 : (2 : Int) ^ 62 = 4611686018427387904 := by decide
      omega
    refine toLong_b h2 ⟨by omega, by omega⟩ (by omega) (min_J ?_)
    have em : min (e : Int) 32 = (e : Int) := by omega
    rw [em]
    have q30 : (2 : Int) ^ e ≤ 536870912 := by
      have : (2 : Int) ^ e ≤ 2 ^ 29 := p2mono e29
      have e62 : (2 : Int) ^ 29 = 536870912 := by decide
      omega
    have q0 := p2p e
    have es : shlJ 1 (e : Int) = 2 ^ e := by
      rw [shlJ_eq (by omega), Int.one_mul, w64_id (by omega) (by omega)]
    rw [es]
    refine setFraction_b (fun s3 a1 a2 a3 f3 => ?_)
    have a3' : s3.1 (311 + 3 * j) 3 = 2 ^ e := by rw [a3]; omega
    exact hQ s3 p (2 ^ e) a1 a2 a3' (by omega) q30 (by omega) (gcd_odd ho) he (gfr_trans g2 (gfr_mono f3 (fun c f e => by unfold rbF; omega) (fun c e => e.elim)))
  rw [bb]
  refine ⟨fun bn => ?_, fun bn => ⟨fun m => ?_, fun m => ?_⟩⟩
  · -- b below 0
    have eb : w32 (-b) = -b := w32_id (by omega) (by omega)
    unfold C_readBinary3_30
    rw [eb]
    have cA : (c.natAbs : Int) * 2 ^ (-b).toNat ≤ 2 ^ 33 := by
      have h := Int.mul_le_mul_of_nonneg_right cw (show (0 : Int) ≤ 2 ^ (-b).toNat from Int.le_of_lt (p2p _))
      rw [← Int.pow_add, show (b + 33).toNat + (-b).toNat = 33 by omega] at h
      exact h
    have w33 := p2W (n := 33) (by omega)
    refine shiftUp_b h1 (by omega) (by rw [gd555]; decide) (by rw [gd555]; decide) (by rw [rm555]; omega) (fun s2 h2 f2 => ?_)
    have g2 : rbf j s s2 := gfr_b g1 f2 (by unfold rbF; omega) (by unfold rbF; omega) rfl
    refine ⟨fun q => q = (0, s2), rfl, ?_⟩
    rintro ⟨x, s3⟩ e
    obtain ⟨e1, e2⟩ := Prod.mk.inj e
    subst e1
    subst e2
    refine ⟨fun _ => fin _ 0 _ h2 (Or.inl rfl) ?_ ?_ g2, fun z => absurd (Int.le_refl _) z⟩
    · unfold xv
      rw [if_neg (by omega), Rat.intCast_mul, Rat.intCast_pow, Rat.intCast_pow]
      have e2 : ((2 : Int) : Rat) = 2 := rfl
      rw [e2]; grind
    · rw [Int.natAbs_mul, Int.natCast_mul, Int.natAbs_pow, Int.natCast_pow]
      exact cA
  · -- strip twos
    refine ⟨fun q => ∃ (e : Nat) (p : Int), q.1 = (e : Int) ∧ (e : Int) ≤ b ∧ big q.2 555 p ∧ c = p * 2 ^ (b.toNat - e) ∧ rbf j s q.2, ⟨b.toNat, c, by dsimp only; omega, by omega, h1, by rw [Nat.sub_self]; show c = c * 1; omega, g1⟩, ?_⟩
    rintro ⟨x, s2⟩ ⟨e, p, ex, eb, h2, ec, g2⟩
    dsimp only at ex h2 g2 ⊢
    subst ex
    have bnd : (p.natAbs : Int) ≤ 2 ^ (e + 33) := by
      have e1 : (c.natAbs : Int) = (p.natAbs : Int) * 2 ^ (b.toNat - e) := by rw [ec, Int.natAbs_mul, Int.natCast_mul, Int.natAbs_pow, Int.natCast_pow]; rfl
      have e2 : (2 : Int) ^ (b + 33).toNat = 2 ^ (e + 33) * 2 ^ (b.toNat - e) := by rw [← Int.pow_add]; congr 1; omega
      rw [e1, e2] at cw
      exact Int.le_of_mul_le_mul_right cw (p2p _)
    refine ⟨fun z => ?_, fun z => isEven_b h2 ⟨fun w => ?_, fun w => ?_⟩⟩
    · have e0 : e = 0 := by omega
      subst e0
      exact fin s2 0 p h2 (Or.inl rfl) (xv_dy (by omega) ec) bnd g2
    · refine fin s2 e p h2 (Or.inr ?_) (xv_dy eb ec) bnd g2
      by_cases y : p % 2 = 0
      · rw [if_pos y] at w; omega
      · omega
    · have ev : p % 2 = 0 := Classical.byContradiction fun y => w (if_neg y)
      refine shiftDown_b h2 (by decide) (by rw [gd555]; decide) (fun s3 h3 f3 => ⟨e - 1, p / 2, ?_, by omega, ?_, ?_, gfr_b g2 f3 (by unfold rbF; omega) (by unfold rbF; omega) rfl⟩)
      · dsimp only; rw [w32_id (by omega) (by omega)]; omega
      · have : p.tdiv (2 ^ (1 : Int).toNat) = p / 2 := by
          show p.tdiv 2 = p / 2
          obtain ⟨k, hk⟩ : ∃ k, p = 2 * k := ⟨p / 2, by omega⟩
          rw [hk, Int.mul_tdiv_cancel_left _ (by decide)]; omega
        rw [this] at h3; exact h3
      · rw [ec, show b.toNat - (e - 1) = (b.toNat - e) + 1 by omega, p2s]
        obtain ⟨k, hk⟩ : ∃ k, p = 2 * k := ⟨p / 2, by omega⟩
        rw [hk, show 2 * k / 2 = k by omega]; grind
  · -- the number 0
    have c0 : c = 0 := by
      have := big_mk h1
      have q : c.sign = 0 := by rw [← this]; exact m
      exact Int.sign_eq_zero_iff_zero.1 q
    unfold C_readBinary3_30
    rw [w32_id (x := -b) (by omega) (by omega)]
    refine shiftUp_b h1 (by omega) (by rw [gd555]; decide) (by rw [gd555]; decide) (by rw [rm555, c0]; show (0 : Int) * _ < _; rw [Int.zero_mul]; omega) (fun s2 h2 f2 => ?_)
    have g2 : rbf j s s2 := gfr_b g1 f2 (by unfold rbF; omega) (by unfold rbF; omega) rfl
    rw [c0, Int.zero_mul] at h2
    refine ⟨fun q => q = (0, s2), rfl, ?_⟩
    rintro ⟨x, s3⟩ e
    obtain ⟨e1, e2⟩ := Prod.mk.inj e
    subst e1
    subst e2
    refine ⟨fun _ => fin _ 0 _ h2 (Or.inl rfl) ?_ (by show (0 : Int) ≤ _; exact Int.le_of_lt (p2p _)) g2, fun z => absurd (Int.le_refl _) z⟩
    rw [c0, xv_mul, rat_i0, Rat.zero_mul, Rat.mul_zero]
theorem toLong_fr {a : Nat} {s : im_S} {Q : Int → im_S → Prop} (hQ : ∀ z, lR z → Q z s) : C_toLong1 a s Q := by
  intro z _
  refine ⟨fun q => q.2.2 = s ∧ lR q.1, ⟨rfl, (⟨by decide, by decide⟩ : lR 0)⟩, ?_⟩
  rintro ⟨x, y, s1⟩ ⟨e, h⟩
  dsimp only at e h ⊢
  subst e
  refine ⟨fun _ v ev => hQ v ?_, fun _ _ => ⟨rfl, j2_r _ _ _⟩⟩
  rw [ev]
  split
  · exact h
  · exact w64_r _
theorem readParts_b {s : im_S} {j : Nat} {Q : im_S → Prop} (hQ : ∀ s' : im_S, -2147483648 ≤ s'.1 (311 + 3 * j) 4 → s'.1 (311 + 3 * j) 4 ≤ 2147483648 → 0 ≤ s'.1 (311 + 3 * j) 5 → s'.1 (311 + 3 * j) 5 ≤ 4294967295 → gfr (fun c f => (c = 311 + 3 * j ∧ (f = 4 ∨ f = 5)) ∨ (c = 555 ∧ (f = 1 ∨ f = 2))) (fun c => c = 556) s s' → Q s') : C_readParts3 (311 + 3 * j) s Q := by
  have last : ∀ (k0 : Int) (s1 : im_S), lR k0 → gfr (fun c f => (c = 311 + 3 * j ∧ (f = 4 ∨ f = 5)) ∨ (c = 555 ∧ (f = 1 ∨ f = 2))) (fun c => c = 556) s s1 → C_readParts3_80 (311 + 3 * j) k0 s1 Q := by
    intro k0 s1 hk g1 s2 e2 s3 e3
    have k1 := hk.1
    have k2 := hk.2
    have w := shrJ_32 hk
    have a := andJ_mask k0
    subst e2
    subst e3
    refine hQ _ ?_ ?_ ?_ ?_ (gfr_pf (gfr_pf g1 (by omega)) (by omega))
    · rw [cpf_ne (by omega), cpf_same, w]; omega
    · rw [cpf_ne (by omega), cpf_same, w]; omega
    · rw [cpf_same, a]; omega
    · rw [cpf_same, a]; omega
  have mid : ∀ (u : Int) (s1 : im_S), gfr (fun c f => (c = 311 + 3 * j ∧ (f = 4 ∨ f = 5)) ∨ (c = 555 ∧ (f = 1 ∨ f = 2))) (fun c => c = 556) s s1 → C_readParts3_43 (311 + 3 * j) u s1 Q := by
    intro u s1 g1
    refine shiftDown_f (fun s2 f2 => ?_)
    have g2 := gfr_b g1 f2 (by omega) (by omega) rfl
    exact ⟨fun _ => toLong_fr (fun z hz => last _ s2 hz g2), fun _ => toLong_f (fun z => last _ s2 (w64_r _) g2)⟩
  refine copy_f (fun s1 f1 v _ => ?_)
  have g1 := gfr_b (F := fun c f => (c = 311 + 3 * j ∧ (f = 4 ∨ f = 5)) ∨ (c = 555 ∧ (f = 1 ∨ f = 2))) (R := fun c => c = 556) (gfr_refl _ _ s) f1 (by omega) (by omega) rfl
  exact ⟨fun _ => mid _ s1 g1, fun _ => add_f (fun s2 f2 => mid _ s2 (gfr_b g1 f2 (by omega) (by omega) rfl))⟩
def sdf (s s' : im_S) : Prop := gfr (fun c f => (c = 563 ∨ c = 565 ∨ c = 567) ∧ (f = 1 ∨ f = 2)) (fun c => c = 564 ∨ c = 566 ∨ c = 568) s s'
theorem sideOf_b {s : im_S} {j : Nat} {c b a q : Int} {Q : Int → im_S → Prop} (hr : rst s j c b) (hc : cbd c b) (b0 : 0 ≤ b) (a1 : -4611686018427387904 ≤ a) (a2 : a ≤ 4611686018427387904) (q1 : -4611686018427387904 ≤ q) (q2 : q ≤ 4611686018427387904) (hj : j < 80) (hQ : ∀ z s', (z = 0 → 0 < q ∧ c * q < a * 2 ^ b.toNat ∧ a * 2 ^ b.toNat < (c + 1) * q) → sdf s s' → Q z s') : C_sideOf3 (311 + 3 * j) a q s Q := by
  have gv := gln_v
  have b2 := hc.2.1
  have cw := cbd_W hc
  refine set_b ⟨by omega, by omega⟩ (by omega) (by rw [gv.2.2.2.2.1]; decide) (fun s1 h1 f1 => ?_)
  have bb : cgf s1 (311 + 3 * j) 7 = b := by show s1.1 _ _ = _; rw [f1.1 _ _ (by omega)]; exact hr.1
  rw [bb]
  have p640 : (2 : Int) ^ b.toNat ≤ 2 ^ 640 := p2mono (by omega)
  have sz : (2 : Int) ^ 640 * 4611686018427387904 * 8 < W196 := by decide +kernel
  have pA : (a.natAbs : Int) * 2 ^ b.toNat ≤ 4611686018427387904 * 2 ^ 640 := by
    have x1 : (a.natAbs : Int) * 2 ^ b.toNat ≤ 4611686018427387904 * 2 ^ b.toNat := Int.mul_le_mul_of_nonneg_right (by omega) (Int.le_of_lt (p2p _))
    have x2 : (4611686018427387904 : Int) * 2 ^ b.toNat ≤ 4611686018427387904 * 2 ^ 640 := Int.mul_le_mul_of_nonneg_left p640 (by decide)
    generalize (2 : Int) ^ 640 = Z at x2 ⊢
    omega
  have pA' : ((a * 2 ^ b.toNat).natAbs : Int) = (a.natAbs : Int) * 2 ^ b.toNat := by rw [Int.natAbs_mul, Int.natCast_mul, Int.natAbs_pow, Int.natCast_pow]; rfl
  have szt : (4611686018427387904 : Int) * 2 ^ 640 * 8 < W196 := by
    generalize (2 : Int) ^ 640 = Z at sz
    omega
  obtain ⟨ZZ, hZZ⟩ : ∃ ZZ, ZZ = (4611686018427387904 : Int) * 2 ^ 640 := ⟨_, rfl⟩
  rw [← hZZ] at pA szt
  clear sz p640
  refine shiftUp_b h1 (by omega) (by rw [gv.2.2.2.2.1]; decide) (by rw [gv.2.2.2.2.1]; decide) (by rw [rm563]; omega) (fun s2 h2 f2 => ?_)
  refine set_b ⟨by omega, by omega⟩ (by omega) (by rw [gv.2.2.2.2.2.2.2.2.2.2]; decide) (fun s3 h3 f3 => ?_)
  have g3 : sdf s s3 := gfr_b (gfr_b (gfr_b (gfr_refl _ _ _) f1 (by omega) (by omega) (by omega)) f2 (by omega) (by omega) (by omega)) f3 (by omega) (by omega) (by omega)
  have c3 : big s3 (311 + 3 * j + 1) c := big_g hr.2 g3 (by omega) (by omega) (by omega)
  have cl : (c.natAbs : Int) < 4294967296 ^ 24 := by rw [← W24_eq]; omega
  have ql : (q.natAbs : Int) < 4294967296 ^ 2 := by
    have e2 : (4294967296 : Int) ^ 2 = 18446744073709551616 := by decide
    rw [e2]; omega
  refine setProduct_b c3 h3 (by omega) (by decide) (by rw [gv.2.2.2.2.2.1]; decide) 24 2 cl ql (by rw [gv.2.2.2.2.2.1]; decide) (fun s4 h4 f4 => ?_)
  have g4 : sdf s s4 := gfr_b g3 f4 (by omega) (by omega) (by omega)
  have t4 : big s4 563 (a * 2 ^ b.toNat) := big_fr (big_fr h2 f3 (by decide)) f4 (by decide)
  have cqb : ((c * q).natAbs : Int) * 2 < W196 := by
    rw [Int.natAbs_mul, Int.natCast_mul]
    have x1 : (c.natAbs : Int) * (q.natAbs : Int) ≤ (c.natAbs : Int) * 4611686018427387904 := Int.mul_le_mul_of_nonneg_left (by omega) (by omega)
    have x2 : W24 * 4611686018427387904 * 8 < W196 := by decide +kernel
    omega
  refine add_b t4 h4 (by decide) (by rw [gv.2.2.2.2.1]; decide) (Or.inr rfl) (by rw [rm563]; omega) (fun s5 h5 f5 => ?_)
  have g5 : sdf s s5 := gfr_b g4 f5 (by omega) (by omega) (by omega)
  obtain ⟨T, hT⟩ : ∃ T, T = a * 2 ^ b.toNat + -1 * (c * q) := ⟨_, rfl⟩
  rw [← hT] at h5
  rw [show cgf s5 563 2 = T.sign from big_mk h5]
  refine ⟨fun pos => ?_, fun _ => hQ _ s5 (fun h => by omega) g5⟩
  have Tp := Int.sign_pos_iff.1 pos
  have q5 : big s5 567 q := big_fr (big_fr h3 f4 (by decide)) f5 (by decide)
  refine add_b h5 q5 (by decide) (by rw [gv.2.2.2.2.1]; decide) (Or.inr rfl) (by rw [rm563]; omega) (fun s6 h6 f6 v ev => hQ v s6 (fun h => ?_) (gfr_b g5 f6 (by omega) (by omega) (by omega)))
  rw [show cgf s6 563 2 = (T + -1 * q).sign from big_mk h6] at ev
  have neg : (T + -1 * q).sign < 0 := Classical.byContradiction fun k => by rw [if_neg k] at ev; omega
  have := Int.sign_neg_iff.1 neg
  have e : (c + 1) * q = c * q + q := by grind
  rw [e]
  omega
