/-! FRACTIONS OF ROOTS BY VALUE: floorDiv, setFraction, readBinary, readParts, sideOf -/
theorem floorDiv_v {x y : Int} {s : im_S} {Q : Int → im_S → Prop} (hx : lR x) (hx2 : x ≠ -9223372036854775808) (y0 : 0 < y) (hy : lR y) (hQ : Q (x / y) s) : C_J9_floorDiv_f86c9 x y s Q := by
  have ed := divJ_eq hx hy hx2
  have xs := xorJ_s hx hy
  have te := Int.tdiv_eq_ediv (a := x) (b := y)
  have nb : (x.tdiv y * y).natAbs ≤ x.natAbs := by
    rw [Int.natAbs_mul, Int.natAbs_tdiv]
    exact Nat.div_mul_le_self _ _
  have hx1 := hx.1
  have hx3 := hx.2
  have em := Int.emod_nonneg x (show y ≠ 0 by omega)
  have ei := Int.emod_add_mul_ediv x y
  refine ⟨fun c => ?_, fun c => ⟨fun z => ?_, fun z => ?_⟩⟩
  · have x0 : 0 ≤ x := (xs.1 c).2 (by omega)
    show Q (divJ x y) s
    rw [ed, Int.tdiv_eq_ediv_of_nonneg x0]
    exact hQ
  · show Q (divJ x y) s
    rw [ed] at z ⊢
    rw [w64_id (by omega) (by omega)] at z
    have : x / y = x.tdiv y := by
      have h : x / y = x.tdiv y * y / y := by rw [z]
      rw [h, Int.mul_ediv_cancel _ (by omega)]
    rw [← this]
    exact hQ
  · have x0 : x < 0 := Int.not_le.1 fun q => c (xs.2 ⟨fun _ => by omega, fun _ => q⟩)
    rw [ed] at z ⊢
    rw [w64_id (by omega) (by omega)] at z
    have nd : ¬ y ∣ x := fun q => z (Int.tdiv_mul_cancel q)
    rw [if_neg (fun q => by rcases q with q | q; omega; exact nd q), Int.sign_eq_one_of_pos y0] at te
    have db : (x.tdiv y).natAbs ≤ x.natAbs := by rw [Int.natAbs_tdiv]; exact Nat.div_le_self _ _
    rw [te] at db ⊢
    rw [w64_id (by omega) (by omega), show x / y + 1 - 1 = x / y by omega]
    exact hQ
theorem setFraction_v {r : Nat} {a b : Int} {s : im_S} {Q : im_S → Prop} (ha : lR a) (ha2 : a ≠ -9223372036854775808) (hb : lR b) (hQ : ∀ s', s'.1 r 1 = 1 → s'.1 r 2 = a → s'.1 r 3 = max 1 b → s'.1 r 4 = a / max 1 b → s'.1 r 5 = a % max 1 b → gfr (fun c f => c = r ∧ 1 ≤ f ∧ f ≤ 5) (fun _ => False) s s' → Q s') : C_setFraction8 r a b s Q := by
  intro s1 e1
  have hb1 := hb.1
  have hb2 := hb.2
  refine maxJ_J (fun s2 e2 => ?_)
  have g2 : cgf s2 r 3 = max 1 b := by subst e2; exact cpf_same _ _ _ _
  rw [g2]
  refine floorDiv_v ha ha2 (by omega) ⟨by omega, by omega⟩ (fun s3 e3 => ?_)
  have g3 : cgf s3 r 3 = max 1 b := by subst e3; show (cpf s2 r 4 _).1 r 3 = _; rw [cpf_ne (by omega)]; exact g2
  rw [g3]
  refine floorMod_v ha ha2 (by omega) ⟨by omega, by omega⟩ (fun s4 e4 s5 e5 => ?_)
  subst e1
  subst e2
  subst e3
  subst e4
  subst e5
  refine hQ _ (cpf_same _ _ _ _) ?_ ?_ ?_ ?_ ?_
  · rw [cpf_ne (by omega), cpf_ne (by omega), cpf_ne (by omega), cpf_ne (by omega), cpf_same]
  · rw [cpf_ne (by omega), cpf_ne (by omega), cpf_ne (by omega), cpf_same]
  · rw [cpf_ne (by omega), cpf_ne (by omega), cpf_same]
  · rw [cpf_ne (by omega), cpf_same]
  · exact gfr_pf (gfr_pf (gfr_pf (gfr_pf (gfr_pf (gfr_refl _ _ _) (by omega)) (by omega)) (by omega)) (by omega)) (by omega)
theorem readBinary_v {s : im_S} {j d : Nat} {c b : Int} {P : List Int} {Q : im_S → Prop} (hj : j < 80) (hr : rst s j c b) (cw : (c.natAbs : Int) ≤ 2 ^ (b + 33).toNat) (b1 : -32 ≤ b) (b2 : b ≤ 640) (hp : pat P) (hP : pdb P (d + 1)) (hL : pgt P d ≠ 0) (hz : pev P (xv c b) = 0) (hQ : ∀ s' p q, s'.1 (311 + 3 * j) 1 = 1 → s'.1 (311 + 3 * j) 2 = p → s'.1 (311 + 3 * j) 3 = q → 1 ≤ q → q ≤ 536870912 → p.natAbs ≤ 4611686018427387904 → Int.gcd p q = 1 → (q : Rat) * xv c b = p → s'.1 (311 + 3 * j) 4 = p / q → s'.1 (311 + 3 * j) 5 = p % q → rbf j s s' → Q s') : C_readBinary3 (311 + 3 * j) s Q := by
  have gd555 : gln 556 = 24 := gln_v.2.2.2.2.2.2.2.1
  have pw := p2W (n := (b + 33).toNat) (by omega)
  have pp := p2p (b + 33).toNat
  refine copy_b hr.2 (by omega) (by rw [rm555]; omega) (by rw [gd555]; decide) (fun s1 h1 f1 => ?_)
  have g1 : rbf j s s1 := gfr_b (gfr_refl _ _ _) f1 (by unfold rbF; omega) (by unfold rbF; omega) rfl
  have bb : cgf s1 (311 + 3 * j) 7 = b := by show s1.1 _ _ = _; rw [f1.1 _ _ (by omega)]; exact hr.1
  -- the end: p over 2 ^ e
  have fin : ∀ (s2 : im_S) (e : Nat) (p : Int), big s2 555 p → (e = 0 ∨ p % 2 = 1) → ((2 ^ e : Int) : Rat) * xv c b = p → (p.natAbs : Int) ≤ 2 ^ (e + 33) → rbf j s s2 → C_readBinary3_69 (311 + 3 * j) (e : Int) s2 Q := by
    intro s2 e p h2 ho he hb g2
    have e29 := zero_e hp hP hL ho he hz
    have pb : (p.natAbs : Int) ≤ 4611686018427387904 := by
      have : (2 : Int) ^ (e + 33) ≤ 2 ^ 62 := p2mono (by omega)
      have e62 : (2 : Int) ^ 62 = 4611686018427387904 := by decide
      omega
    refine toLong_b h2 ⟨by omega, by omega⟩ (by omega) (min_J ?_)
    have em : min (e : Int) 32 = (e : Int) := by omega
    rw [em]
    have q30 : (2 : Int) ^ e ≤ 536870912 := by
      have : (2 : Int) ^ e ≤ 2 ^ 29 := p2mono e29
      have e62 : (2 : Int) ^ 29 = 536870912 := by decide
      omega
    have q0 := p2p e
    have es : shlJ 1 (e : Int) = 2 ^ e := by
      rw [shlJ_eq (by omega), Int.one_mul, w64_id (by omega) (by omega)]
    rw [es]
    have mx : max 1 ((2 : Int) ^ e) = 2 ^ e := by omega
    refine setFraction_v ⟨by omega, by omega⟩ (by omega) ⟨by omega, by omega⟩ (fun s3 a1 a2 a3 a4 a5 f3 => ?_)
    rw [mx] at a3 a4 a5
    exact hQ s3 p (2 ^ e) a1 a2 a3 (by omega) q30 (by omega) (gcd_odd ho) he a4 a5 (gfr_trans g2 (gfr_mono f3 (fun c f e => by unfold rbF; omega) (fun c e => e.elim)))
  rw [bb]
  refine ⟨fun bn => ?_, fun bn => ⟨fun m => ?_, fun m => ?_⟩⟩
  · -- b below 0
    have eb : w32 (-b) = -b := w32_id (by omega) (by omega)
    unfold C_readBinary3_30
    rw [eb]
    have cA : (c.natAbs : Int) * 2 ^ (-b).toNat ≤ 2 ^ 33 := by
      have h := Int.mul_le_mul_of_nonneg_right cw (show (0 : Int) ≤ 2 ^ (-b).toNat from Int.le_of_lt (p2p _))
      rw [← Int.pow_add, show (b + 33).toNat + (-b).toNat = 33 by omega] at h
      exact h
    have w33 := p2W (n := 33) (by omega)
    refine shiftUp_b h1 (by omega) (by rw [gd555]; decide) (by rw [gd555]; decide) (by rw [rm555]; omega) (fun s2 h2 f2 => ?_)
    have g2 : rbf j s s2 := gfr_b g1 f2 (by unfold rbF; omega) (by unfold rbF; omega) rfl
    refine ⟨fun q => q = (0, s2), rfl, ?_⟩
    rintro ⟨x, s3⟩ e
    obtain ⟨e1, e2⟩ := Prod.mk.inj e
    subst e1
    subst e2
    refine ⟨fun _ => fin _ 0 _ h2 (Or.inl rfl) ?_ ?_ g2, fun z => absurd (Int.le_refl _) z⟩
    · unfold xv
      rw [if_neg (by omega), Rat.intCast_mul, Rat.intCast_pow, Rat.intCast_pow]
      have e2 : ((2 : Int) : Rat) = 2 := rfl
      rw [e2]; grind
    · rw [Int.natAbs_mul, Int.natCast_mul, Int.natAbs_pow, Int.natCast_pow]
      exact cA
  · -- strip twos
    refine ⟨fun q => ∃ (e : Nat) (p : Int), q.1 = (e : Int) ∧ (e : Int) ≤ b ∧ big q.2 555 p ∧ c = p * 2 ^ (b.toNat - e) ∧ rbf j s q.2, ⟨b.toNat, c, by dsimp only; omega, by omega, h1, by rw [Nat.sub_self]; show c = c * 1; omega, g1⟩, ?_⟩
    rintro ⟨x, s2⟩ ⟨e, p, ex, eb, h2, ec, g2⟩
    dsimp only at ex h2 g2 ⊢
    subst ex
    have bnd : (p.natAbs : Int) ≤ 2 ^ (e + 33) := by
      have e1 : (c.natAbs : Int) = (p.natAbs : Int) * 2 ^ (b.toNat - e) := by rw [ec, Int.natAbs_mul, Int.natCast_mul, Int.natAbs_pow, Int.natCast_pow]; rfl
      have e2 : (2 : Int) ^ (b + 33).toNat = 2 ^ (e + 33) * 2 ^ (b.toNat - e) := by rw [← Int.pow_add]; congr 1; omega
      rw [e1, e2] at cw
      exact Int.le_of_mul_le_mul_right cw (p2p _)
    refine ⟨fun z => ?_, fun z => isEven_b h2 ⟨fun w => ?_, fun w => ?_⟩⟩
    · have e0 : e = 0 := by omega
      subst e0
      exact fin s2 0 p h2 (Or.inl rfl) (xv_dy (by omega) ec) bnd g2
    · refine fin s2 e p h2 (Or.inr ?_) (xv_dy eb ec) bnd g2
      by_cases y : p % 2 = 0
      · rw [if_pos y] at w; omega
      · omega
    · have ev : p % 2 = 0 := Classical.byContradiction fun y => w (if_neg y)
      refine shiftDown_b h2 (by decide) (by rw [gd555]; decide) (fun s3 h3 f3 => ⟨e - 1, p / 2, ?_, by omega, ?_, ?_, gfr_b g2 f3 (by unfold rbF; omega) (by unfold rbF; omega) rfl⟩)
      · dsimp only; rw [w32_id (by omega) (by omega)]; omega
      · have : p.tdiv (2 ^ (1 : Int).toNat) = p / 2 := by
          show p.tdiv 2 = p / 2
          obtain ⟨k, hk⟩ : ∃ k, p = 2 * k := ⟨p / 2, by omega⟩
          rw [hk, Int.mul_tdiv_cancel_left _ (by decide)]; omega
        rw [this] at h3; exact h3
      · rw [ec, show b.toNat - (e - 1) = (b.toNat - e) + 1 by omega, p2s]
        obtain ⟨k, hk⟩ : ∃ k, p = 2 * k := ⟨p / 2, by omega⟩
        rw [hk, show 2 * k / 2 = k by omega]; grind
  · -- the number 0
    have c0 : c = 0 := by
      have := big_mk h1
      have q : c.sign = 0 := by rw [← this]; exact m
      exact Int.sign_eq_zero_iff_zero.1 q
    unfold C_readBinary3_30
    rw [w32_id (x := -b) (by omega) (by omega)]
    refine shiftUp_b h1 (by omega) (by rw [gd555]; decide) (by rw [gd555]; decide) (by rw [rm555, c0]; show (0 : Int) * _ < _; rw [Int.zero_mul]; omega) (fun s2 h2 f2 => ?_)
    have g2 : rbf j s s2 := gfr_b g1 f2 (by unfold rbF; omega) (by unfold rbF; omega) rfl
    rw [c0, Int.zero_mul] at h2
    refine ⟨fun q => q = (0, s2), rfl, ?_⟩
    rintro ⟨x, s3⟩ e
    obtain ⟨e1, e2⟩ := Prod.mk.inj e
    subst e1
    subst e2
    refine ⟨fun _ => fin _ 0 _ h2 (Or.inl rfl) ?_ (by show (0 : Int) ≤ _; exact Int.le_of_lt (p2p _)) g2, fun z => absurd (Int.le_refl _) z⟩
    rw [c0, xv_mul, rat_i0, Rat.zero_mul, Rat.mul_zero]
/-- the whole part and 32 bits more of the left end -/
theorem shd_floor {c : Int} {n : Nat} (h : c < 0) : (c + 1).tdiv (2 ^ n) - 1 = c / 2 ^ n := by
  have p := p2p n
  have e : (c + 1).tdiv (2 ^ n) = -((-(c + 1)) / 2 ^ n) := by
    rw [show c + 1 = -(-(c + 1)) by omega, Int.neg_tdiv, Int.tdiv_eq_ediv_of_nonneg (by omega)]
    simp
  rw [e]
  have a1 := Int.emod_nonneg (-(c + 1)) (show (2 : Int) ^ n ≠ 0 by omega)
  have a2 := Int.emod_lt_of_pos (-(c + 1)) p
  have a3 := Int.emod_add_mul_ediv (-(c + 1)) (2 ^ n)
  generalize (-(c + 1)) % 2 ^ n = r at a1 a2 a3
  generalize (-(c + 1)) / 2 ^ n = k at a3 ⊢
  have m : (2 : Int) ^ n * (-k - 1) = -(2 ^ n * k) - 2 ^ n := by grind
  have : c = (2 ^ n - 1 - r) + 2 ^ n * (-k - 1) := by rw [m]; omega
  rw [this, Int.add_mul_ediv_left _ _ (by omega), Int.ediv_eq_zero_of_lt (by omega) (by omega)]
  omega
theorem readParts_v {s : im_S} {j : Nat} {c b : Int} {Q : im_S → Prop} (hj : j < 80) (ho : big s 553 1) (hr : rst s j c b) (b1 : 32 ≤ b) (b2 : b ≤ 640) (c1 : -(2 ^ (b + 30).toNat) ≤ c) (c2 : c + 1 ≤ 2 ^ (b + 30).toNat) (hQ : ∀ s' : im_S, s'.1 (311 + 3 * j) 4 = c / 2 ^ (b - 32).toNat / 4294967296 → s'.1 (311 + 3 * j) 5 = c / 2 ^ (b - 32).toNat % 4294967296 → gfr (fun c f => (c = 311 + 3 * j ∧ (f = 4 ∨ f = 5)) ∨ (c = 555 ∧ (f = 1 ∨ f = 2))) (fun c => c = 556) s s' → Q s') : C_readParts3 (311 + 3 * j) s Q := by
  have gd555 : gln 556 = 24 := gln_v.2.2.2.2.2.2.2.1
  have pw := p2W (n := (b + 30).toNat) (by omega)
  have pp := p2p (b + 30).toNat
  obtain ⟨n, hn⟩ : ∃ n, n = (b - 32).toNat := ⟨_, rfl⟩
  have pn := p2p n
  have e62 : (2 : Int) ^ (b + 30).toNat = 2 ^ n * 4611686018427387904 := by
    rw [show (b + 30).toNat = n + 62 by omega, Int.pow_add]
    rfl
  obtain ⟨K, hK⟩ : ∃ K, K = c / 2 ^ n := ⟨_, rfl⟩
  have a1 := Int.emod_nonneg c (show (2 : Int) ^ n ≠ 0 by omega)
  have a2 := Int.emod_lt_of_pos c pn
  have a3 := Int.emod_add_mul_ediv c (2 ^ n)
  rw [← hK] at a3
  have K1 : -4611686018427387904 ≤ K := by
    refine Int.not_lt.1 fun q => ?_
    have m : 2 ^ n * (K + 1) ≤ 2 ^ n * (-4611686018427387904) := Int.mul_le_mul_of_nonneg_left (by omega) (Int.le_of_lt pn)
    rw [Int.mul_add, Int.mul_one] at m
    rw [e62] at c1
    have : (2 : Int) ^ n * (-4611686018427387904) = -(2 ^ n * 4611686018427387904) := by grind
    omega
  have K2 : K < 4611686018427387904 := by
    refine Int.not_le.1 fun q => ?_
    have m : 2 ^ n * 4611686018427387904 ≤ 2 ^ n * K := Int.mul_le_mul_of_nonneg_left q (Int.le_of_lt pn)
    rw [e62] at c2
    omega
  rw [← hn, ← hK] at hQ
  -- the end
  have last : ∀ (s1 : im_S), gfr (fun c f => (c = 311 + 3 * j ∧ (f = 4 ∨ f = 5)) ∨ (c = 555 ∧ (f = 1 ∨ f = 2))) (fun c => c = 556) s s1 → C_readParts3_80 (311 + 3 * j) K s1 Q := by
    intro s1 g1 s2 e2 s3 e3
    have w := shrJ_32 (x := K) ⟨by omega, by omega⟩
    have a := andJ_mask K
    subst e2
    subst e3
    refine hQ _ ?_ ?_ (gfr_pf (gfr_pf g1 (by omega)) (by omega))
    · rw [cpf_ne (by omega), cpf_same, w]
    · rw [cpf_same, a]
  refine copy_b hr.2 (by omega) (by rw [rm555]; omega) (by rw [gd555]; decide) (fun s1 h1 f1 v ev => ?_)
  have g1 := gfr_b (F := fun c f => (c = 311 + 3 * j ∧ (f = 4 ∨ f = 5)) ∨ (c = 555 ∧ (f = 1 ∨ f = 2))) (R := fun c => c = 556) (gfr_refl _ _ s) f1 (by omega) (by omega) rfl
  have bb : ∀ s2 : im_S, gfr (fun c f => (c = 311 + 3 * j ∧ (f = 4 ∨ f = 5)) ∨ (c = 555 ∧ (f = 1 ∨ f = 2))) (fun c => c = 556) s s2 → w32 (cgf s2 (311 + 3 * j) 7 - 32) = b - 32 := fun s2 g2 => by
    have : cgf s2 (311 + 3 * j) 7 = b := by show s2.1 _ _ = _; rw [g2.1 _ _ (by omega)]; exact hr.1
    rw [this, w32_id (by omega) (by omega)]
  rw [show cgf s1 555 2 = c.sign from big_mk h1] at ev
  refine ⟨fun v0 => ?_, fun v0 => ?_⟩
  · have c0 : 0 ≤ c := by
      rw [v0] at ev
      have : 0 ≤ c.sign := Classical.byContradiction fun k => by rw [if_neg k] at ev; omega
      exact Int.sign_nonneg_iff.1 this
    unfold C_readParts3_43
    rw [bb s1 g1]
    refine shiftDown_b h1 (by omega) (by rw [gd555]; decide) (fun s2 h2 f2 => ⟨fun _ => ?_, fun z => absurd v0 z⟩)
    have g2 := gfr_b g1 f2 (by omega) (by omega) rfl
    rw [← hn, Int.tdiv_eq_ediv_of_nonneg c0, ← hK] at h2
    exact toLong_b h2 ⟨by omega, by omega⟩ (by omega) (last s2 g2)
  · have c0 : c < 0 := by
      have : ¬ 0 ≤ c.sign := fun k => v0 (by rw [if_pos k] at ev; exact ev)
      exact Int.not_le.1 fun q => this (Int.sign_nonneg_iff.2 q)
    have o1 : big s1 553 1 := big_fr ho f1 (by decide)
    refine add_b h1 o1 (by decide) (by rw [gd555]; decide) (Or.inl rfl) (by rw [rm555]; show (c.natAbs : Int) + 1 < _; omega) (fun s2 h2 f2 => ?_)
    have g2 := gfr_b g1 f2 (by omega) (by omega) rfl
    unfold C_readParts3_43
    rw [bb s2 g2]
    refine shiftDown_b h2 (by omega) (by rw [gd555]; decide) (fun s3 h3 f3 => ⟨fun z => absurd z v0, fun _ => ?_⟩)
    have g3 := gfr_b g2 f3 (by omega) (by omega) rfl
    have e1 := shd_floor (n := n) c0
    rw [← hK] at e1
    rw [← hn, show c + 1 * 1 = c + 1 by omega, show (c + 1).tdiv (2 ^ n) = K + 1 by omega] at h3
    refine toLong_b h3 ⟨by omega, by omega⟩ (by omega) ?_
    rw [w64_id (by omega) (by omega), show K + 1 - 1 = K by omega]
    exact last s3 g3
theorem sideOf_v {s : im_S} {j : Nat} {c b a q : Int} {Q : Int → im_S → Prop} (hr : rst s j c b) (hc : cbd c b) (b0 : 0 ≤ b) (a1 : -4611686018427387904 ≤ a) (a2 : a ≤ 4611686018427387904) (q1 : -4611686018427387904 ≤ q) (q2 : q ≤ 4611686018427387904) (hj : j < 80) (hQ : ∀ z s', (0 < q → ((a * 2 ^ b.toNat ≤ c * q ∧ z = -1) ∨ (c * q < a * 2 ^ b.toNat ∧ a * 2 ^ b.toNat < (c + 1) * q ∧ z = 0) ∨ ((c + 1) * q ≤ a * 2 ^ b.toNat ∧ z = 1))) → sdf s s' → Q z s') : C_sideOf3 (311 + 3 * j) a q s Q := by
  have gv := gln_v
  have b2 := hc.2.1
  have cw := cbd_W hc
  refine set_b ⟨by omega, by omega⟩ (by omega) (by rw [gv.2.2.2.2.1]; decide) (fun s1 h1 f1 => ?_)
  have bb : cgf s1 (311 + 3 * j) 7 = b := by show s1.1 _ _ = _; rw [f1.1 _ _ (by omega)]; exact hr.1
  rw [bb]
  have p640 : (2 : Int) ^ b.toNat ≤ 2 ^ 640 := p2mono (by omega)
  have sz : (2 : Int) ^ 640 * 4611686018427387904 * 8 < W196 := by decide +kernel
  have pA : (a.natAbs : Int) * 2 ^ b.toNat ≤ 4611686018427387904 * 2 ^ 640 := by
    have x1 : (a.natAbs : Int) * 2 ^ b.toNat ≤ 4611686018427387904 * 2 ^ b.toNat := Int.mul_le_mul_of_nonneg_right (by omega) (Int.le_of_lt (p2p _))
    have x2 : (4611686018427387904 : Int) * 2 ^ b.toNat ≤ 4611686018427387904 * 2 ^ 640 := Int.mul_le_mul_of_nonneg_left p640 (by decide)
    generalize (2 : Int) ^ 640 = Z at x2 ⊢
    omega
  have pA' : ((a * 2 ^ b.toNat).natAbs : Int) = (a.natAbs : Int) * 2 ^ b.toNat := by rw [Int.natAbs_mul, Int.natCast_mul, Int.natAbs_pow, Int.natCast_pow]; rfl
  have szt : (4611686018427387904 : Int) * 2 ^ 640 * 8 < W196 := by
    generalize (2 : Int) ^ 640 = Z at sz
    omega
  obtain ⟨ZZ, hZZ⟩ : ∃ ZZ, ZZ = (4611686018427387904 : Int) * 2 ^ 640 := ⟨_, rfl⟩
  rw [← hZZ] at pA szt
  clear sz p640
  refine shiftUp_b h1 (by omega) (by rw [gv.2.2.2.2.1]; decide) (by rw [gv.2.2.2.2.1]; decide) (by rw [rm563]; omega) (fun s2 h2 f2 => ?_)
  refine set_b ⟨by omega, by omega⟩ (by omega) (by rw [gv.2.2.2.2.2.2.2.2.2.2]; decide) (fun s3 h3 f3 => ?_)
  have g3 : sdf s s3 := gfr_b (gfr_b (gfr_b (gfr_refl _ _ _) f1 (by omega) (by omega) (by omega)) f2 (by omega) (by omega) (by omega)) f3 (by omega) (by omega) (by omega)
  have c3 : big s3 (311 + 3 * j + 1) c := big_g hr.2 g3 (by omega) (by omega) (by omega)
  have cl : (c.natAbs : Int) < 4294967296 ^ 24 := by rw [← W24_eq]; omega
  have ql : (q.natAbs : Int) < 4294967296 ^ 2 := by
    have e2 : (4294967296 : Int) ^ 2 = 18446744073709551616 := by decide
    rw [e2]; omega
  refine setProduct_b c3 h3 (by omega) (by decide) (by rw [gv.2.2.2.2.2.1]; decide) 24 2 cl ql (by rw [gv.2.2.2.2.2.1]; decide) (fun s4 h4 f4 => ?_)
  have g4 : sdf s s4 := gfr_b g3 f4 (by omega) (by omega) (by omega)
  have t4 : big s4 563 (a * 2 ^ b.toNat) := big_fr (big_fr h2 f3 (by decide)) f4 (by decide)
  have cqb : ((c * q).natAbs : Int) * 2 < W196 := by
    rw [Int.natAbs_mul, Int.natCast_mul]
    have x1 : (c.natAbs : Int) * (q.natAbs : Int) ≤ (c.natAbs : Int) * 4611686018427387904 := Int.mul_le_mul_of_nonneg_left (by omega) (by omega)
    have x2 : W24 * 4611686018427387904 * 8 < W196 := by decide +kernel
    omega
  refine add_b t4 h4 (by decide) (by rw [gv.2.2.2.2.1]; decide) (Or.inr rfl) (by rw [rm563]; omega) (fun s5 h5 f5 => ?_)
  have g5 : sdf s s5 := gfr_b g4 f5 (by omega) (by omega) (by omega)
  obtain ⟨T, hT⟩ : ∃ T, T = a * 2 ^ b.toNat + -1 * (c * q) := ⟨_, rfl⟩
  rw [← hT] at h5
  rw [show cgf s5 563 2 = T.sign from big_mk h5]
  have e : (c + 1) * q = c * q + q := by grind
  rw [e] at hQ
  refine ⟨fun pos => ?_, fun np => hQ _ s5 (fun q0 => Or.inl ⟨?_, rfl⟩) g5⟩
  · have Tp := Int.sign_pos_iff.1 pos
    have q5 : big s5 567 q := big_fr (big_fr h3 f4 (by decide)) f5 (by decide)
    refine add_b h5 q5 (by decide) (by rw [gv.2.2.2.2.1]; decide) (Or.inr rfl) (by rw [rm563]; omega) (fun s6 h6 f6 v ev => hQ v s6 (fun q0 => ?_) (gfr_b g5 f6 (by omega) (by omega) (by omega)))
    rw [show cgf s6 563 2 = (T + -1 * q).sign from big_mk h6] at ev
    right
    by_cases neg : (T + -1 * q).sign < 0
    · rw [if_pos neg] at ev
      have := Int.sign_neg_iff.1 neg
      exact Or.inl ⟨by omega, by omega, ev⟩
    · rw [if_neg neg] at ev
      have : ¬ (T + -1 * q) < 0 := fun k => neg (Int.sign_neg_iff.2 k)
      exact Or.inr ⟨by omega, ev⟩
  · have : ¬ 0 < T := fun k => np (Int.sign_pos_iff.2 k)
    omega
