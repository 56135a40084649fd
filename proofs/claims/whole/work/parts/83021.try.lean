/-! tryFraction BY VALUE: it finds the fraction if there is one -/
theorem low_ex (f : Nat → Int) : ∀ n : Nat, f n ≠ 0 → ∃ k, f k ≠ 0 ∧ ∀ j, j < k → f j = 0 := by
  intro n
  induction n using Nat.strongRecOn with
  | _ n ih =>
    intro h
    by_cases c : ∃ j, j < n ∧ f j ≠ 0
    · obtain ⟨j, j1, j2⟩ := c
      exact ih j j1 j2
    · exact ⟨n, h, fun j hj => Classical.byContradiction fun q => c ⟨j, hj, q⟩⟩
theorem root_fr {P : List Int} {d : Nat} {p q : Int} {x : Rat} (hp : pat P) (hP : pdb P (d + 1)) (L0 : pgt P d ≠ 0) (q0 : 0 < q) (g : Int.gcd p q = 1) (hx : (q : Rat) * x = p) (h0 : pev P x = 0) : q ∣ pgt P d ∧ p.natAbs ≤ 1000000000 ∧ ∃ P' : List Int, ∀ y : Rat, pev P y = (q * y - p) * pev P' y := by
  have e9 := pdb_ev hP
  obtain ⟨a', ea, el⟩ := lin_fac (a := pmk (d + 1) (pgt P)) q0 g hx (by rw [e9]; exact h0) (by rw [pmk_len]; omega)
  rw [pmk_len] at el
  have ad : a'.length = d := by omega
  have gt : pgt P d = -p * pgt a' d + q * (if d = 0 then 0 else pgt a' (d - 1)) := by
    have a := pdb_tr hP d
    rw [ea, lml, lmu_gt] at a
    exact a.symm
  rw [pgt_hi a' d (by omega), Int.mul_zero, Int.zero_add] at gt
  refine ⟨⟨_, gt⟩, ?_, a', fun y => ?_⟩
  · obtain ⟨A, Q, eA, a9, a0, ab⟩ := hp
    have Al : 1 ≤ A.length := by
      obtain ⟨k, hk⟩ := a0
      refine Nat.pos_of_ne_zero fun z => hk (pgt_hi A k (by omega))
    obtain ⟨A', eA', _⟩ := lin_fac (a := A) q0 g hx (by rw [eA, h0, Rat.zero_mul]) Al
    have gA : ∀ k, pgt A k = -p * pgt A' k + q * (if k = 0 then 0 else pgt A' (k - 1)) := fun k => by
      have : pgt A k = pgt (lml (-p) q A') k := by rw [← eA']
      rw [this, lml, lmu_gt]
    have nz : ∃ n, pgt A' n ≠ 0 := Classical.byContradiction fun z => by
      have z' : ∀ n, pgt A' n = 0 := fun n => Classical.byContradiction fun w => z ⟨n, w⟩
      obtain ⟨k, hk⟩ := a0
      refine hk ?_
      rw [gA k, z' k]
      split
      · omega
      · rw [z' (k - 1)]; omega
    obtain ⟨n, hn⟩ := nz
    obtain ⟨k, k1, k2⟩ := low_ex (pgt A') n hn
    have b := ab k
    have e : pgt A k = -p * pgt A' k := by
      rw [gA k]
      split
      · omega
      · rw [k2 (k - 1) (by omega)]; omega
    rw [e, Int.natAbs_mul, Int.natAbs_neg] at b
    have b1 : 1 ≤ (pgt A' k).natAbs := by omega
    have m : p.natAbs * 1 ≤ p.natAbs * (pgt A' k).natAbs := Nat.mul_le_mul_left _ b1
    omega
  · rw [← e9 y, ea, lml_ev, Rat.intCast_neg]
    grind
theorem cand_eq {L K N A : Int} (L1 : 1 ≤ L) (L2 : L ≤ 1000000000) (h1 : L * K < N * 4294967296) (h2 : N * 4294967296 < L * (K + 1)) (hA : A = L * (K + 1) / 4294967296) : N = A := by
  rw [Int.mul_add, Int.mul_one] at h2 hA
  generalize L * K = X at h1 h2 hA
  omega
theorem cell_32 {c b K : Int} {n : Nat} {x : Rat} {L N : Int} (b32 : 32 ≤ b) (hn : n = (b - 32).toNat) (hK : K = c / 2 ^ n) (L1 : 1 ≤ L) (hN : (N : Rat) = (L : Rat) * x) (x1 : xv c b < x) (x2 : x < xv (c + 1) b) : L * K < N * 4294967296 ∧ N * 4294967296 < L * (K + 1) := by
  have pn := p2p n
  have a1 := Int.emod_nonneg c (show (2 : Int) ^ n ≠ 0 by omega)
  have a2 := Int.emod_lt_of_pos c pn
  have a3 := Int.emod_add_mul_ediv c (2 ^ n)
  rw [← hK] at a3
  have G := q2p n
  have eb : (2 : Rat) ^ b.toNat = 2 ^ n * 4294967296 := by
    rw [show b.toNat = n + 32 by omega, rp_ad]
    have : (2 : Rat) ^ 32 = 4294967296 := by
      have e : ((2 ^ 32 : Nat) : Rat) = 2 ^ 32 := by rw [Rat.natCast_pow]; rfl
      rw [← e]; rfl
    rw [this]
  have xe : ∀ c : Int, xv c b * (2 ^ n * 4294967296) = (c : Rat) := fun c => by
    rw [← eb]
    unfold xv
    rw [if_pos (by omega)]
    exact Rat.div_mul_cancel (by have := q2p b.toNat; grind)
  have k1 : (K : Rat) * 2 ^ n ≤ (c : Rat) := by
    have : ((K * 2 ^ n : Int) : Rat) ≤ (c : Rat) := Rat.intCast_le_intCast.2 (by rw [Int.mul_comm]; omega)
    rw [Rat.intCast_mul, Rat.intCast_pow] at this
    exact this
  have k2 : ((c + 1 : Int) : Rat) ≤ ((K + 1 : Int) : Rat) * 2 ^ n := by
    have : ((c + 1 : Int) : Rat) ≤ (((K + 1) * 2 ^ n : Int) : Rat) := Rat.intCast_le_intCast.2 (by rw [Int.add_mul, Int.one_mul, Int.mul_comm K]; omega)
    rw [Rat.intCast_mul, Rat.intCast_pow] at this
    exact this
  have Lp : (0 : Rat) < (L : Rat) := Rat.intCast_pos.2 (by omega)
  have H : (0 : Rat) < 2 ^ n * 4294967296 := Rat.mul_pos G (by decide)
  have y1 := Rat.mul_lt_mul_of_pos_right x1 H
  have y2 := Rat.mul_lt_mul_of_pos_right x2 H
  rw [xe] at y1 y2
  have z1 : (K : Rat) * 2 ^ n < x * (2 ^ n * 4294967296) := by grind
  have z2 : x * (2 ^ n * 4294967296) < ((K + 1 : Int) : Rat) * 2 ^ n := by grind
  have u1 := Rat.mul_lt_mul_of_pos_left z1 Lp
  have u2 := Rat.mul_lt_mul_of_pos_left z2 Lp
  constructor
  · refine Rat.intCast_lt_intCast.1 ?_
    rw [Rat.intCast_mul, Rat.intCast_mul, hN]
    refine Rat.lt_of_mul_lt_mul_right (c := 2 ^ n) ?_ (Rat.le_of_lt G)
    show (L : Rat) * (K : Rat) * 2 ^ n < (L : Rat) * x * 4294967296 * 2 ^ n
    generalize (2 : Rat) ^ n = g at u1 ⊢
    grind
  · refine Rat.intCast_lt_intCast.1 ?_
    rw [Rat.intCast_mul, Rat.intCast_mul, hN]
    refine Rat.lt_of_mul_lt_mul_right (c := 2 ^ n) ?_ (Rat.le_of_lt G)
    show (L : Rat) * x * 4294967296 * 2 ^ n < (L : Rat) * ((K + 1 : Int) : Rat) * 2 ^ n
    generalize (2 : Rat) ^ n = g at u2 ⊢
    generalize ((K + 1 : Int) : Rat) = k9 at u2 ⊢
    grind
theorem rat_frac (x : Rat) : ∃ p q : Int, 0 < q ∧ Int.gcd p q = 1 ∧ (q : Rat) * x = p := by
  refine ⟨x.num, x.den, ?_, ?_, ?_⟩
  · have := x.den_pos
    omega
  · show Nat.gcd x.num.natAbs ((x.den : Int)).natAbs = 1
    rw [Int.natAbs_natCast]
    exact x.reduced
  · have e := Rat.num_divInt_den x
    have n : ((x.den : Int) : Rat) ≠ 0 := fun z => by
      have := Rat.intCast_eq_zero_iff.1 z
      have := x.den_pos
      omega
    rw [Rat.divInt_eq_div] at e
    have := Rat.div_mul_cancel (a := (x.num : Rat)) n
    rw [e] at this
    rw [Rat.mul_comm]
    exact this
/-- the only fraction that comes into question -/
theorem cand_u {P : List Int} {d n : Nat} {c b K A g a q : Int} (hp : pat P) (hP : pdb P (d + 1)) (L1 : 1 ≤ pgt P d) (L2 : pgt P d ≤ 1000000000) (b32 : 32 ≤ b) (hn : n = (b - 32).toNat) (hK : K = c / 2 ^ n) (hA : A = pgt P d * (K + 1) / 4294967296) (g0 : 0 < g) (ea : a * g = A) (eq : q * g = pgt P d) (q0 : 0 < q) (gc : Int.gcd a q = 1) {x : Rat} (x1 : xv c b < x) (x2 : x < xv (c + 1) b) (h0 : pev P x = 0) : (q : Rat) * x = a ∧ a.natAbs ≤ 1000000000 ∧ ∃ P' : List Int, ∀ y : Rat, pev P y = (q * y - a) * pev P' y := by
  obtain ⟨p', q', q0', gc', hx⟩ := rat_frac x
  obtain ⟨dv, pb, P', hP'⟩ := root_fr hp hP (by omega) q0' gc' hx h0
  obtain ⟨m, hm⟩ := dv
  have hN : ((p' * m : Int) : Rat) = ((pgt P d : Int) : Rat) * x := by
    rw [hm, Rat.intCast_mul, Rat.intCast_mul, ← hx]
    generalize (q' : Rat) = Q'
    generalize (m : Rat) = M'
    grind
  obtain ⟨i1, i2⟩ := cell_32 b32 hn hK L1 hN x1 x2
  have NA := cand_eq L1 L2 i1 i2 hA
  have qx : (q : Rat) * x = a := by
    have e1 : (g : Rat) * ((q : Rat) * x - a) = 0 := by
      have u : ((q * g : Int) : Rat) * x = ((a * g : Int) : Rat) := by rw [eq, ea, ← NA, hN]
      rw [Rat.intCast_mul, Rat.intCast_mul] at u
      grind
    rcases Rat.mul_eq_zero.1 e1 with z | z
    · have := Rat.intCast_eq_zero_iff.1 z
      omega
    · grind
  obtain ⟨w1, w2⟩ := frac_u q0' q0 gc' gc hx qx
  subst w1
  subst w2
  exact ⟨qx, pb, P', hP'⟩
theorem side_in {c b a q : Int} (b0 : 0 ≤ b) (q0 : 0 < q) (x : Rat) (hx : (q : Rat) * x = a) : (xv c b < x ↔ c * q < a * 2 ^ b.toNat) ∧ (x < xv (c + 1) b ↔ a * 2 ^ b.toNat < (c + 1) * q) := by
  have G := q2p b.toNat
  have qr : (0 : Rat) < q := Rat.intCast_pos.2 q0
  have xe : ∀ c : Int, xv c b * 2 ^ b.toNat = (c : Rat) := fun c => by
    unfold xv
    rw [if_pos b0]
    exact Rat.div_mul_cancel (by grind)
  have key : ∀ c : Int, (xv c b < x ↔ c * q < a * 2 ^ b.toNat) ∧ (x < xv c b ↔ a * 2 ^ b.toNat < c * q) := fun c => by
    have i1 : (c * q < a * 2 ^ b.toNat) ↔ ((c : Rat) * q < (a : Rat) * 2 ^ b.toNat) := by
      rw [← Rat.intCast_lt_intCast, Rat.intCast_mul, Rat.intCast_mul, Rat.intCast_pow]
      exact Iff.rfl
    have i2 : (a * 2 ^ b.toNat < c * q) ↔ ((a : Rat) * 2 ^ b.toNat < (c : Rat) * q) := by
      rw [← Rat.intCast_lt_intCast, Rat.intCast_mul, Rat.intCast_mul, Rat.intCast_pow]
      exact Iff.rfl
    rw [i1, i2, ← hx, ← xe c]
    generalize xv c b = l
    generalize (2 : Rat) ^ b.toNat = g at G
    have gq : 0 < g * q := Rat.mul_pos G qr
    have e1 : l * g * q = l * (g * q) := by grind
    have e2 : (q : Rat) * x * g = x * (g * q) := by grind
    rw [e1, e2]
    exact ⟨(Rat.mul_lt_mul_right gq).symm, (Rat.mul_lt_mul_right gq).symm⟩
  exact ⟨(key c).1, (key (c + 1)).2⟩
theorem tryFraction_v {s : im_S} {j p d n : Nat} {P : List Int} {c b K : Int} {Q : im_S → Prop} (hj : j < 80) (hP : ply s p P) (p1 : 86 ≤ p) (p2 : p < 246) (hd : s.1 p 0 = (d : Int)) (hp : pat P) (lp : 0 < pgt P d) (hr : rst s j c b) (hc : cbd c b) (b32 : 32 ≤ b) (hn : n = (b - 32).toNat) (hK : K = c / 2 ^ n) (K1 : -4611686018427387904 ≤ K) (K2 : K < 4611686018427387904) (f4 : s.1 (311 + 3 * j) 4 = K / 4294967296) (f5 : s.1 (311 + 3 * j) 5 = K % 4294967296) (hQ0 : ∀ s', (∀ x : Rat, xv c b < x → x < xv (c + 1) b → pev P x ≠ 0) → (∀ f, s'.1 (311 + 3 * j) f = s.1 (311 + 3 * j) f) → tff j s s' → Q s') (hQ1 : ∀ (s' : im_S) (a q : Int), s'.1 (311 + 3 * j) 1 = 1 → s'.1 (311 + 3 * j) 2 = a → s'.1 (311 + 3 * j) 3 = q → s'.1 (311 + 3 * j) 4 = a / q → s'.1 (311 + 3 * j) 5 = a % q → 1 ≤ q → q ≤ 1000000000 → a.natAbs ≤ 1000000000 → Int.gcd a q = 1 → pev P ((a : Rat) / q) = 0 → xv c b < (a : Rat) / q → (a : Rat) / q < xv (c + 1) b → tff j s s' → Q s') : C_tryFraction3 (311 + 3 * j) p s Q := by
  have hP1 : pdb P (d + 1) := by have := hP.2.2.2.1; rw [hd, show ((d : Int) + 1).toNat = d + 1 by omega] at this; exact this
  have L0 : pgt P d ≠ 0 := by omega
  have b0 : 0 ≤ b := by omega
  have Lb := pat_lead hp hP1 L0
  refine lead6_b hP ?_
  have eL : ldc (s.1 p 0) P = pgt P d := by unfold ldc; rw [hd, if_pos (by omega), Int.toNat_natCast]
  rw [eL]
  have uniq := fun (A g a q : Int) => cand_u (A := A) (g := g) (a := a) (q := q) hp hP1 (by omega) (by omega) b32 hn hK
  generalize pgt P d = L at L0 Lb lp uniq
  rw [show cgf s (311 + 3 * j) 4 = K / 4294967296 from f4, show cgf s (311 + 3 * j) 5 = K % 4294967296 from f5]
  obtain ⟨wh, hwh⟩ : ∃ wh, wh = K / 4294967296 := ⟨_, rfl⟩
  obtain ⟨pa, hpa⟩ : ∃ pa, pa = K % 4294967296 := ⟨_, rfl⟩
  rw [← hwh, ← hpa]
  have w1 : -2147483648 ≤ wh := by omega
  have w2 : wh ≤ 2147483648 := by omega
  have w3 : 0 ≤ pa := by omega
  have w4 : pa ≤ 4294967295 := by omega
  have m1 : (L * wh).natAbs ≤ 1000000000 * 2147483648 := by rw [Int.natAbs_mul]; exact Nat.mul_le_mul Lb (by omega)
  have m2 : (L * (pa + 1)).natAbs ≤ 1000000000 * 4294967296 := by rw [Int.natAbs_mul]; exact Nat.mul_le_mul Lb (by omega)
  have e1 : w64 (L * wh) = L * wh := w64_id (by omega) (by omega)
  have e2 : w64 (pa + 1) = pa + 1 := w64_id (by omega) (by omega)
  have e3 := ushJ_32 (w64 (L * w64 (pa + 1)))
  have u1 : 0 ≤ ushJ (w64 (L * w64 (pa + 1))) 32 ∧ ushJ (w64 (L * w64 (pa + 1))) 32 ≤ 4294967296 := by rw [e3]; omega
  have eA : w64 (w64 (L * wh) + ushJ (w64 (L * w64 (pa + 1))) 32) = L * wh + ushJ (w64 (L * w64 (pa + 1))) 32 := by rw [e1]; exact w64_id (by omega) (by omega)
  rw [eA]
  obtain ⟨A, hA⟩ : ∃ A, A = L * wh + ushJ (w64 (L * w64 (pa + 1))) 32 := ⟨_, rfl⟩
  rw [← hA]
  have Ab : A.natAbs ≤ 2147483652294967296 := by omega
  have AA : A = L * (K + 1) / 4294967296 := by
    have m0 : 0 ≤ L * (pa + 1) := Int.mul_nonneg (by omega) (by omega)
    have e4 : w64 (L * w64 (pa + 1)) = L * (pa + 1) := by rw [e2]; exact w64_id (by omega) (by omega)
    rw [hA, e3, e4, Int.emod_eq_of_lt m0 (by omega)]
    have e5 : K + 1 = (pa + 1) + 4294967296 * wh := by omega
    rw [e5, Int.mul_add L (pa + 1) (4294967296 * wh), show L * (4294967296 * wh) = 4294967296 * (L * wh) by grind, Int.add_mul_ediv_left _ _ (by decide)]
    omega
  refine gcd_v (by omega) (by omega) (by omega) (by omega) (fun g g0 g1 ga gl gz gg => ⟨fun gn => ?_, fun gn => ?_⟩)
  rotate_left
  · exfalso
    have := (gz gn).2
    omega
  have dA : divJ A g = A.tdiv g := divJ_eq ⟨by omega, by omega⟩ ⟨by omega, by omega⟩ (by omega)
  have dL : divJ L g = L.tdiv g := divJ_eq ⟨by omega, by omega⟩ ⟨by omega, by omega⟩ (by omega)
  rw [dA, dL]
  have ab : (A.tdiv g).natAbs ≤ A.natAbs := by rw [Int.natAbs_tdiv]; exact Nat.div_le_self _ _
  have lb : (L.tdiv g).natAbs ≤ L.natAbs := by rw [Int.natAbs_tdiv]; exact Nat.div_le_self _ _
  obtain ⟨a, ha⟩ : ∃ a, a = A.tdiv g := ⟨_, rfl⟩
  obtain ⟨q, hq⟩ : ∃ q, q = L.tdiv g := ⟨_, rfl⟩
  rw [← ha, ← hq]
  have gp : 0 < g := by omega
  have eag : a * g = A := by rw [ha]; exact Int.tdiv_mul_cancel ga
  have eqg : q * g = L := by rw [hq]; exact Int.tdiv_mul_cancel gl
  have qp : 0 < q := by
    refine Int.not_le.1 fun z => ?_
    have := Int.mul_nonpos_of_nonpos_of_nonneg z (Int.le_of_lt gp)
    omega
  have gc1 : Int.gcd a q = 1 := by
    obtain ⟨m, hm⟩ := Int.gcd_dvd_left (a := a) (b := q)
    obtain ⟨m', hm'⟩ := Int.gcd_dvd_right (a := a) (b := q)
    have d1 : ((Int.gcd a q : Nat) : Int) * g ∣ A := ⟨m, by rw [← eag]; generalize ((Int.gcd a q : Nat) : Int) = G at hm; rw [hm]; grind⟩
    have d2 : ((Int.gcd a q : Nat) : Int) * g ∣ L := ⟨m', by rw [← eqg]; generalize ((Int.gcd a q : Nat) : Int) = G at hm'; rw [hm']; grind⟩
    obtain ⟨w, hw⟩ := gg _ d1 d2
    have hw2 : g * (((Int.gcd a q : Nat) : Int) * w) = g * 1 := by rw [Int.mul_one]; generalize ((Int.gcd a q : Nat) : Int) = G at hw; rw [← Int.mul_assoc, Int.mul_comm g G]; exact hw.symm
    have hw3 : ((Int.gcd a q : Nat) : Int) * w = 1 := Int.eq_of_mul_eq_mul_left (by omega) hw2
    have le := Int.le_of_dvd (show (0 : Int) < 1 by decide) (⟨w, hw3.symm⟩ : ((Int.gcd a q : Nat) : Int) ∣ 1)
    have ne : ((Int.gcd a q : Nat) : Int) ≠ 0 := fun z => by rw [z, Int.zero_mul] at hw3; omega
    omega
  have none : (∀ x : Rat, (q : Rat) * x = a → xv c b < x → x < xv (c + 1) b → a.natAbs ≤ 1000000000 → (∃ P' : List Int, ∀ y : Rat, pev P y = (q * y - a) * pev P' y) → False) → ∀ x : Rat, xv c b < x → x < xv (c + 1) b → pev P x ≠ 0 := fun no x x1 x2 z => by
    obtain ⟨u1, u2, u3⟩ := uniq A g a q AA gp eag eqg qp gc1 x1 x2 z
    exact no x u1 x1 x2 u2 u3
  rw [w64_id (x := -a) (by omega) (by omega)]
  refine setLinear_b (fun s1 h1 f1 => ?_)
  have t1 : tff j s s1 := gfr_mono f1 (fun c f e => by unfold tfF; omega) (fun c e => by unfold tfW; omega)
  have keep : ∀ s', gfr (fun c f => ((c = 551 ∨ c = 257) ∧ f = 0) ∨ ((c = 563 ∨ c = 565 ∨ c = 567) ∧ (f = 1 ∨ f = 2))) tfW s s' → (∀ x : Rat, (q : Rat) * x = a → xv c b < x → x < xv (c + 1) b → a.natAbs ≤ 1000000000 → (∃ P' : List Int, ∀ y : Rat, pev P y = (q * y - a) * pev P' y) → False) → Q s' := fun s' f no => hQ0 s' (none no) (fun k => f.1 _ _ (by omega)) (gfr_mono f (fun c f e => by unfold tfF; omega) (fun c e => e))
  have k1 : gfr (fun c f => ((c = 551 ∨ c = 257) ∧ f = 0) ∨ ((c = 563 ∨ c = 565 ∨ c = 567) ∧ (f = 1 ∨ f = 2))) tfW s s1 := gfr_mono f1 (fun c f e => by omega) (fun c e => by unfold tfW; omega)
  refine abs_J2 (by omega) (by omega) ⟨fun big => keep s1 k1 (fun x _ _ _ ab _ => by omega), fun nb => ?_⟩
  have ab9 : a.natAbs ≤ 1000000000 := by omega
  have hP2 : ply s1 p P := ply_fr hP f1 (by omega) (by omega)
  have w63l : w63 [-a, q] := fun k => by
    match k with
    | 0 => show _ ≤ -a ∧ -a ≤ _; omega
    | 1 => show _ ≤ q ∧ q ≤ _; omega
    | k + 2 => show _ ≤ (0 : Int) ∧ (0 : Int) ≤ _; omega
  refine divide_b hP2 h1 (by omega) (by omega) (by decide) (by decide) (pat_58 hp) w63l (fun dv _ s2 K9 _ eK9 f2 => ⟨fun z => by omega, fun _ => ?_⟩) (fun nd s2 f2 => ⟨fun _ => keep s2 (gfr_trans k1 (gfr_mono f2 (fun c f e => by omega) (fun c e => by unfold tfW; omega))) (fun x _ _ _ _ hP' => by
    obtain ⟨P', hP'⟩ := hP'
    rcases nd with nd | nd
    · exact nd (dvs_lin hp (by have := hP.2.2.1; omega) hP1 qp hP')
    · have := nd 1
      have : q = 0 := this
      omega), fun z => absurd rfl z⟩)
  have k2 := gfr_trans k1 (gfr_mono (G := fun c f => ((c = 551 ∨ c = 257) ∧ f = 0) ∨ ((c = 563 ∨ c = 565 ∨ c = 567) ∧ (f = 1 ∨ f = 2))) (T := tfW) f2 (fun c f e => by omega) (fun c e => by unfold tfW; omega))
  have r2 : rst s2 j c b := ⟨by rw [k2.1 _ _ (by omega)]; exact hr.1, big_g hr.2 k2 (by omega) (by omega) (by unfold tfW; omega)⟩
  refine sideOf_v r2 hc b0 (by omega) (by omega) (by omega) (by omega) hj (fun z s3 hz f3 => ?_)
  have hz := hz qp
  have k3 := gfr_trans k2 (gfr_mono (G := fun c f => ((c = 551 ∨ c = 257) ∧ f = 0) ∨ ((c = 563 ∨ c = 565 ∨ c = 567) ∧ (f = 1 ∨ f = 2))) (T := tfW) f3 (fun c f e => by omega) (fun c e => by unfold tfW; omega))
  have qr : (0 : Rat) < q := Rat.intCast_pos.2 qp
  have qx : (q : Rat) * ((a : Rat) / q) = a := by
    have := Rat.div_mul_cancel (a := (a : Rat)) (b := (q : Rat)) (by grind)
    grind
  have ins := side_in (c := c) (a := a) b0 qp
  refine ⟨fun zn => keep s3 k3 (fun x xq x1 x2 _ _ => ?_), fun z0 => ?_⟩
  · rcases hz with ⟨w, _⟩ | ⟨_, _, w⟩ | ⟨w, _⟩
    · have := (ins x xq).1.1 x1
      omega
    · exact zn w
    · have := (ins x xq).2.1 x2
      omega
  · obtain ⟨lo, hi⟩ : c * q < a * 2 ^ b.toNat ∧ a * 2 ^ b.toNat < (c + 1) * q := by
      rcases hz with ⟨_, w⟩ | ⟨w1, w2, _⟩ | ⟨_, w⟩
      · omega
      · exact ⟨w1, w2⟩
      · omega
    refine setFraction_v ⟨by omega, by omega⟩ (by omega) ⟨by omega, by omega⟩ (fun s4 a1 a2 a3 a4 a5 f4 => ?_)
    have mx : max 1 q = q := by omega
    rw [mx] at a3 a4 a5
    refine hQ1 s4 a q a1 a2 a3 a4 a5 (by omega) (by omega) ab9 gc1 ?_ ((ins _ qx).1.2 lo) ((ins _ qx).2.2 hi) (gfr_trans (gfr_mono k3 (fun c f e => by unfold tfF; omega) (fun c e => e)) (gfr_mono f4 (fun c f e => by unfold tfF; omega) (fun c e => e.elim)))
    have := eK9 ((a : Rat) / q)
    rw [lnf_ev, qx] at this
    rw [this]
    grind
