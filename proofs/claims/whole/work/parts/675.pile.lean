/-! THE REFERENCE'S CHAIN IS STURM'S; HOW DEEP THE HALVING GOES -/
theorem png_ev (R : List Int) (x : Rat) : pev (png R) x = -pev R x := by
  have h : ∀ k, pgt (png R) k = (-1) * pgt R k := fun k => by rw [png_gt]; omega
  rw [pev_csc h x]
  have im : ((-1 : Int) : Rat) = -1 := rfl
  rw [im]; grind
theorem len1_ev {P : List Int} (h : P.length = 1) (x : Rat) : pev P x = (pgt P 0 : Rat) := by
  rw [pev_eq (R := [pgt P 0]) (fun k => by
    cases k with
    | zero => rfl
    | succ k => exact pgt_hi P (k + 1) (by omega)) x]
  show (pgt P 0 : Rat) + x * 0 = _
  grind
theorem chain_stu {F : List Int} {Inv : List Int → List Int → Prop} {c : Nat → List Int} {N : Nat} (hB : ∀ A B, Inv A B → 1 ≤ A.length ∧ 1 ≤ B.length ∧ B.length < A.length ∧ lnz B) (lF : lnz F) (hs : chs F Inv c N) (he : che c N) (hq : sqf F) : stu c (N - 1) := by
  obtain ⟨h0, h2, h9, hd, hI, hn⟩ := hs
  obtain ⟨_, _, _, g, g0, gp, eg⟩ := hd
  have step : ∀ i, i + 3 ≤ N → ∃ (al be : Int) (q : List Int), 0 < al ∧ 0 < be ∧ ∀ x : Rat, al * pev (c i) x = pev q x * pev (c (i + 1)) x - be * pev (c (i + 2)) x := by
    intro i hi
    obtain ⟨R, Rn, hr, hc⟩ := hn i hi
    have b := hB _ _ (hI i (by omega))
    rcases hr with q | ⟨_, _, _, al, be, q, a0, b0', _, e⟩
    · omega
    · refine ⟨al, be, q, a0, b0', fun x => ?_⟩
      rw [hc, png_ev, e x]; grind
  have der : ∀ x : Rat, pev (pdl (c 0)) x = g * pev (c 1) x := fun x => by rw [h0]; exact pev_csc eg x
  have lnzi : ∀ i, i < N → lnz (c i) ∧ 1 ≤ (c i).length := by
    intro i hi
    cases i with
    | zero =>
      have b := hB _ _ (hI 0 (by omega))
      rw [h0] at b ⊢
      exact ⟨lF, b.1⟩
    | succ i =>
      have b := hB _ _ (hI i (by omega))
      exact ⟨b.2.2.2, b.2.1⟩
  obtain ⟨m, hm⟩ : ∃ m, N = m + 2 := ⟨N - 2, by omega⟩
  subst hm
  rw [show m + 2 - 1 = m + 1 by omega]
  -- the last is a number
  have last : (c (m + 1)).length = 1 := by
    rcases he with q | q
    · exact q
    · rw [show m + 2 - 1 = m + 1 by omega, show m + 2 - 2 = m by omega] at q
      have b := hB _ _ (hI m (by omega))
      have d0 : qd (c (m + 1)) (c m) := by
        rcases q with w | ⟨_, _, _, al, be, qq, a0, b0', _, e⟩
        · omega
        · refine qd_comb (qd_rfl _) (qd_nil _) (by omega) e
      have all : ∀ j i : Nat, i + j = m → qd (c (m + 1)) (c i) ∧ qd (c (m + 1)) (c (i + 1)) := by
        intro j
        induction j with
        | zero =>
          intro i hi
          have ei : i = m := by omega
          subst ei
          exact ⟨d0, qd_rfl _⟩
        | succ j ih =>
          intro i hi
          obtain ⟨i1, i2⟩ := ih (i + 1) (by omega)
          obtain ⟨al, be, q2, a0, b0', e⟩ := step i (by omega)
          refine ⟨qd_comb (be := -be) (al := al) (q := q2) i1 i2 (by omega) (fun x => ?_), i1⟩
          rw [e x, Rat.intCast_neg]; grind
      obtain ⟨e0, e1⟩ := all m 0 (by omega)
      obtain ⟨c1, K1, c10, f1⟩ := e0
      obtain ⟨c2, K2, c20, f2⟩ := e1
      obtain ⟨k, u, v, k0, ek⟩ := hq
      obtain ⟨ln, l1⟩ := lnzi (m + 1) (by omega)
      refine Classical.byContradiction fun hl => ?_
      obtain ⟨a, ha⟩ : ∃ a, (c (m + 1)).length = a + 2 := ⟨(c (m + 1)).length - 2, by omega⟩
      have z : pdb (padd (psm c2 (pmul u K1)) (psm (c1 * g) (pmul v K2))) 0 := dcan (A := c (m + 1)) (T := [c1 * c2 * k]) (a := a + 1) (fun x => by
        rw [padd_ev, psm_ev, psm_ev, pmul_ev, pmul_ev]
        show _ = ((c1 * c2 * k : Int) : Rat) + x * 0
        rw [Rat.intCast_mul, Rat.intCast_mul, Rat.intCast_mul, ek x]
        have w1 := f1 x
        have w2 := f2 x
        have w3 := der x
        rw [h0] at w1 w3
        grind) (pdb_mono (pdb_len _) (by omega)) (ln (a + 1) (by omega)) (pdb_mono (pdb_len [c1 * c2 * k]) (by simp))
      have zz : ∀ x : Rat, ((c1 * c2 * k : Int) : Rat) = 0 := fun x => by
        have w0 := pev_eq (R := []) (fun k => z k (by omega)) x
        rw [padd_ev, psm_ev, psm_ev, pmul_ev, pmul_ev] at w0
        have w4 : pev [] x = 0 := rfl
        rw [w4, Rat.intCast_mul] at w0
        rw [Rat.intCast_mul, Rat.intCast_mul, ek x]
        have w1 := f1 x
        have w2 := f2 x
        have w3 := der x
        rw [h0] at w1 w3
        have w5 : (c1 : Rat) * c2 * (pev u x * pev F x + pev v x * pev (pdl F) x) = (c2 * (pev u x * pev K1 x) + c1 * g * (pev v x * pev K2 x)) * pev (c (m + 1)) x := by grind
        rw [w5, w0]; grind
      have := Rat.intCast_eq_zero_iff.1 (zz 0)
      rcases Int.mul_eq_zero.1 this with q3 | q3
      · rcases Int.mul_eq_zero.1 q3 with q4 | q4
        · exact c10 q4
        · exact c20 q4
      · exact k0 q3
  have lc := lnzi (m + 1) (by omega)
  have k0 := lc.1 0 last
  refine ⟨⟨pgt (c (m + 1)) 0, k0, fun x => len1_ev last x⟩, ?_, fun i i1 i2 => ?_, fun _ => ⟨g, gp rfl, der⟩⟩
  · have go : ∀ j i : Nat, i + j = m → cop (c i) (c (i + 1)) := by
      intro j
      induction j with
      | zero =>
        intro i hi
        have ei : i = m := by omega
        subst ei
        refine ⟨pgt (c (i + 1)) 0, [], [1], k0, fun x => ?_⟩
        rw [pev_c1, len1_ev last x]
        show _ = (0 : Rat) * _ + 1 * _
        grind
      | succ j ih =>
        intro i hi
        obtain ⟨k, u, v, k1, e⟩ := ih (i + 1) (by omega)
        obtain ⟨al, be, q, a0, b0', f⟩ := step i (by omega)
        refine ⟨be * k, psm (-al) v, padd (psm be u) (pmul v q), Int.mul_ne_zero (by omega) k1, fun x => ?_⟩
        rw [psm_ev, padd_ev, psm_ev, pmul_ev, Rat.intCast_mul, Rat.intCast_neg, e x]
        have w := f x
        grind
    exact fun i hi => go (m - i) i (by omega)
  · obtain ⟨al, be, q, a0, b0', f⟩ := step (i - 1) (by omega)
    rw [show i - 1 + 1 = i by omega, show i - 1 + 2 = i + 1 by omega] at f
    exact ⟨al, be, q, a0, b0', f⟩
theorem big_ok : 729 * (7 * 7 + 8 * 6 * 8) * p27 * p27 * (120000000000000 ^ 14) * (4294967296 ^ 12) < 2 ^ 1240 := by decide +kernel
theorem mul_rle {a b c d : Rat} (h1 : a ≤ c) (h2 : b ≤ d) (ha : 0 ≤ a) (hb : 0 ≤ b) : a * b ≤ c * d := by
  have p1 : 0 ≤ (c - a) * d := Rat.mul_nonneg (by grind) (by grind)
  have p2 : 0 ≤ a * (d - b) := Rat.mul_nonneg ha (by grind)
  grind
theorem near_zero {c : Nat → List Int} {m : Nat} (hs : stu c m) {F : List Int} (oF : org F) (hd : dvz (c 0) F) {a b : Rat} (hab : a < b) (hw : b - a ≤ 1) (hV : 2 ≤ vst c m a - vst c m b) : rb a 4294967296 ∧ rb b 4294967296 := by
  obtain ⟨K, eK⟩ := hd
  obtain ⟨q1, q2, q3⟩ := sq_rb a b
  obtain ⟨X, hX⟩ : ∃ X, X = a * a + b * b + 1 := ⟨_, rfl⟩
  rw [← hX] at q1 q2 q3
  obtain ⟨ep, e0, he⟩ := narrow (b0_nn q3 K)
  obtain ⟨y, z, y1, z1, y2, z2⟩ := sep_near hs hab e0 hV
  have hz : rb z X := ⟨by have := q1.1; have := z1.1; grind, by have := q2.2; have := z1.2; grind⟩
  have Fz : rb (pev F z) (ep * b0 K X) := by rw [eK z]; exact rb_mul z2 (pev_rb hz K)
  have lt := he ep (by grind) (by grind)
  have nf : ¬ (2147483648 ≤ z ∨ z ≤ -2147483648) := fun q => by
    have w := root_far q F oF.1.1 oF.1.2.2.1 oF.2
    have f1 := Fz.1
    have f2 := Fz.2
    rcases w with w | w
    · grind
    · grind
  have n1 : ¬ 2147483648 ≤ z := fun q => nf (Or.inl q)
  have n2 : ¬ z ≤ -2147483648 := fun q => nf (Or.inr q)
  have z11 := z1.1
  have z12 := z1.2
  refine ⟨⟨?_, ?_⟩, ⟨?_, ?_⟩⟩ <;> grind
/-- in an interval of 2 ^ -620 V falls at most once -/
theorem pile_ok {c : Nat → List Int} {m : Nat} (hs : stu c m) (hP : bs (c 0)) {a b : Rat} {e : Nat} (he : 620 ≤ e) (hab : (b - a) * (2 : Rat) ^ e = 1) : vst c m a - vst c m b ≤ 1 := by
  refine Classical.byContradiction fun hn => ?_
  have hV : 2 ≤ vst c m a - vst c m b := by omega
  have pe : (1 : Rat) ≤ (2 : Rat) ^ e := rpow_ge1 (by grind) e
  have ab : a < b := by
    refine Classical.byContradiction fun q => ?_
    have : 0 ≤ (a - b) * (2 : Rat) ^ e := Rat.mul_nonneg (by grind) (by grind)
    grind
  have w1 : b - a ≤ 1 := by
    have : 0 ≤ (b - a) * ((2 : Rat) ^ e - 1) := Rat.mul_nonneg (by grind) (by grind)
    grind
  obtain ⟨fP, _, P2, O, oO, dO⟩ := hP
  obtain ⟨F, oF, dF⟩ := oO.1.2
  have nz := near_zero hs oF (dvz_trans dO dF) ab w1 hV
  obtain ⟨Kf, eK⟩ := dO
  have gO := oO.1.1
  have gP := fP.1
  obtain ⟨d, hd⟩ : ∃ d, O.length = d + 1 := ⟨O.length - 1, by have := gO.1; omega⟩
  have d1 : 1 ≤ d := by have := oO.2.2.1; omega
  have d8 : d ≤ 8 := by have := gO.2.1; omega
  -- the cofactor, with its length
  obtain ⟨K, lK, eKK⟩ := trim Kf
  have eK' : ∀ x : Rat, pev O x = pev (c 0) x * pev K x := fun x => by rw [eK x, pev_eq eKK x]
  obtain ⟨p, hp⟩ : ∃ p, (c 0).length = p + 1 := ⟨(c 0).length - 1, by omega⟩
  have K1 : 1 ≤ K.length := by
    rcases Nat.eq_zero_or_pos K.length with q | q
    · exfalso
      have z : pgt O d = 0 := pev_zero (fun x => by
        rw [eK' x, List.eq_nil_of_length_eq_zero q]
        show _ * (0 : Rat) = 0
        grind) d
      exact gO.2.2.1 d hd z
    · exact q
  obtain ⟨k, hk⟩ : ∃ k, K.length = k + 1 := ⟨K.length - 1, by omega⟩
  have pk : p + k = d := by
    have t := pdb_top (P := c 0) (Q := K) (m := p) (n := k) (pdb_mono (pdb_len _) (by omega)) (pdb_mono (pdb_len _) (by omega))
    have nzt : pgt (pmul (c 0) K) (p + k) ≠ 0 := by
      rw [t]; exact Int.mul_ne_zero (gP.2.2.1 p hp) (lK k hk)
    have same : ∀ j, pgt (pmul (c 0) K) j = pgt O j := pev_inj (fun x => by rw [pmul_ev]; exact (eK' x).symm)
    have le1 : p + k ≤ d := by
      refine Nat.le_of_not_lt fun q => nzt ?_
      rw [same]; exact pgt_hi O _ (by omega)
    have le2 : d ≤ p + k := by
      refine Nat.le_of_not_lt fun q => gO.2.2.1 d hd ?_
      rw [← same]
      exact pdb_mul (pdb_len (c 0)) (pdb_len K) d (by omega)
    omega
  have bK : pab K p27 := by
    obtain ⟨K3, e3⟩ := dF
    refine fac_bound (A := K) (F := F) ⟨pmul (c 0) K3, fun x => ?_⟩ (by omega) oF.1.2.1 (fun z => ?_) oF.2
    · rw [pmul_ev, e3 x, eK' x]; grind
    · have := oF.1.2.2.2.1
      rw [z] at this
      omega
  obtain ⟨BB, hBB⟩ : ∃ BB : Nat, BB = 120000000000000 ^ 14 := ⟨_, rfl⟩
  obtain ⟨P27, hP27⟩ : ∃ P27 : Nat, P27 = p27 := ⟨_, rfl⟩
  -- small multiples
  obtain ⟨U, V, s, s0, lU, lV, bU, bV, id⟩ : ∃ (U V : List Int) (s : Int), s ≠ 0 ∧ U.length = d - 1 ∧ V.length = d ∧ pab U BB ∧ pab V BB ∧ ∀ x : Rat, (s : Rat) = pev U x * pev O x + pev V x * pev (pdl O) x := by
    by_cases c5 : 5 ≤ d
    · obtain ⟨U, V, s, s0, lU, lV, bU, bV, id⟩ := sqf_small hd d1 d8 gO.2.2.1 oO.2.1 (oO.2.2.2 (by omega)) (by decide)
      have le : ((2 * d - 1) * (8 * 1000000000000)) ^ (2 * d - 2) ≤ BB := by
        rw [hBB]
        have l1 : (2 * d - 1) * (8 * 1000000000000) ≤ 120000000000000 := Nat.le_trans (Nat.mul_le_mul_right _ (show 2 * d - 1 ≤ 15 by omega)) (by decide)
        exact Nat.le_trans (Nat.pow_le_pow_left l1 _) (Nat.pow_le_pow_right (by decide) (show 2 * d - 2 ≤ 14 by omega))
      exact ⟨U, V, s, s0, lU, lV, fun k => Nat.le_trans (bU k) le, fun k => Nat.le_trans (bV k) le, id⟩
    · obtain ⟨U, V, s, s0, lU, lV, bU, bV, id⟩ := sqf_small hd d1 d8 gO.2.2.1 oO.2.1 (fct_pab oO.1) (by decide)
      have le : ((2 * d - 1) * (8 * p27)) ^ (2 * d - 2) ≤ BB := by
        rw [hBB]
        have l1 : (2 * d - 1) * (8 * p27) ≤ 7 * (8 * p27) := Nat.mul_le_mul_right _ (by omega)
        refine Nat.le_trans (Nat.pow_le_pow_left l1 _) ?_
        refine Nat.le_trans (Nat.pow_le_pow_right (n := 7 * (8 * p27)) (by decide) (show 2 * d - 2 ≤ 6 by omega)) ?_
        decide +kernel
      exact ⟨U, V, s, s0, lU, lV, fun k => Nat.le_trans (bU k) le, fun k => Nat.le_trans (bV k) le, id⟩
  have far := sep_far hs s0 eK' id ab w1 nz.1 nz.2 hV
  by_cases c2 : (c 0).length ≤ 2
  · rw [b2_z (c 0) c2] at far
    grind
  obtain ⟨n, hn'⟩ : ∃ n, (c 0).length = n + 3 := ⟨(c 0).length - 3, by omega⟩
  obtain ⟨X, hX⟩ : ∃ X : Rat, X = 4294967296 := ⟨_, rfl⟩
  rw [← hX] at far
  have X1 : 1 ≤ X := by rw [hX]; grind
  have X0 : 0 ≤ X := by grind
  have rp := rat_nn P27
  have rB := rat_nn BB
  have nle : ∀ (a b : Nat), a ≤ b → (a : Rat) ≤ (b : Rat) := fun a b h => nat_rle h
  have n729 : ((n + 3 : Nat) : Rat) * ((n + 3 : Nat) : Rat) * ((n + 3 : Nat) : Rat) ≤ 729 := by
    have h9 : ((n + 3 : Nat) : Rat) ≤ 9 := nle (n + 3) 9 (by omega)
    have h0 := rat_nn (n + 3)
    have m1 := mul_rle h9 h9 h0 h0
    have m2 := mul_rle m1 h9 (Rat.mul_nonneg h0 h0) h0
    grind
  have P2b : b2 (c 0) X ≤ 729 * (P27 : Rat) * X ^ n := by
    have w := b2_num X1 n (c 0) (by omega) (fct_pab fP)
    rw [← hP27] at w
    have xn : 0 ≤ (P27 : Rat) * X ^ n := Rat.mul_nonneg rp (by have := rpow_ge1 X1 n; grind)
    have : 0 ≤ (729 - ((n + 3 : Nat) : Rat) * ((n + 3 : Nat) : Rat) * ((n + 3 : Nat) : Rat)) * ((P27 : Rat) * X ^ n) := Rat.mul_nonneg (by grind) xn
    grind
  have Ub : b0 U X ≤ 7 * (BB : Rat) * X ^ (n + k) := by
    have w := b0_num X1 (n + k) U (by omega) bU
    have xn : 0 ≤ (BB : Rat) * X ^ (n + k) := Rat.mul_nonneg rB (by have := rpow_ge1 X1 (n + k); grind)
    have h7 : ((n + k + 1 : Nat) : Rat) ≤ 7 := nle _ 7 (by omega)
    have : 0 ≤ (7 - ((n + k + 1 : Nat) : Rat)) * ((BB : Rat) * X ^ (n + k)) := Rat.mul_nonneg (by grind) xn
    grind
  have Vb : b0 V X ≤ 8 * (BB : Rat) * X ^ (n + k + 1) := by
    have w := b0_num X1 (n + k + 1) V (by omega) bV
    have xn : 0 ≤ (BB : Rat) * X ^ (n + k + 1) := Rat.mul_nonneg rB (by have := rpow_ge1 X1 (n + k + 1); grind)
    have h7 : ((n + k + 1 + 1 : Nat) : Rat) ≤ 8 := nle _ 8 (by omega)
    have : 0 ≤ (8 - ((n + k + 1 + 1 : Nat) : Rat)) * ((BB : Rat) * X ^ (n + k + 1)) := Rat.mul_nonneg (by grind) xn
    grind
  have Kb : b0 K X ≤ 7 * (P27 : Rat) * X ^ k := by
    have w := b0_num X1 k K (by omega) bK
    rw [← hP27] at w
    have xn : 0 ≤ (P27 : Rat) * X ^ k := Rat.mul_nonneg rp (by have := rpow_ge1 X1 k; grind)
    have h7 : ((k + 1 : Nat) : Rat) ≤ 7 := nle _ 7 (by omega)
    have : 0 ≤ (7 - ((k + 1 : Nat) : Rat)) * ((P27 : Rat) * X ^ k) := Rat.mul_nonneg (by grind) xn
    grind
  have dKb : pab (pdl K) (8 * P27) := fun i => by
    rw [pdl_gt, Int.natAbs_mul]
    by_cases ci : i < 7
    · have a := bK (i + 1)
      rw [← hP27] at a
      have : (pgt K (i + 1)).natAbs * ((i : Int) + 1).natAbs ≤ P27 * 8 := Nat.mul_le_mul a (by omega)
      omega
    · rw [pgt_hi K (i + 1) (by omega)]
      show 0 * _ ≤ _
      omega
  have xpow : ∀ a b : Nat, X ^ (a + b) = X ^ a * X ^ b := fun a b => by
    induction b with
    | zero => rw [Nat.add_zero]; grind
    | succ b ih => rw [← Nat.add_assoc, Rat.pow_succ, ih, Rat.pow_succ]; grind
  have VK : b0 V X * b0 (pdl K) X ≤ 384 * ((BB : Rat) * (P27 : Rat) * X ^ (n + k) * X ^ k) := by
    have g0 : 0 ≤ (BB : Rat) * (P27 : Rat) * X ^ (n + k) * X ^ k := Rat.mul_nonneg (Rat.mul_nonneg (Rat.mul_nonneg rB rp) (by have := rpow_ge1 X1 (n + k); grind)) (by have := rpow_ge1 X1 k; grind)
    cases k with
    | zero =>
      have : pdl K = [] := List.eq_nil_of_length_eq_zero (by
        have : (pdl K).length = K.length - 1 := pmk_len _ _
        omega)
      rw [this]
      show b0 V X * 0 ≤ _
      grind
    | succ j =>
      have w := b0_num X1 j (pdl K) (by
        have : (pdl K).length = K.length - 1 := pmk_len _ _
        omega) dKb
      have xn : 0 ≤ (P27 : Rat) * X ^ j := Rat.mul_nonneg rp (by have := rpow_ge1 X1 j; grind)
      have h6 : ((j + 1 : Nat) : Rat) ≤ 6 := nle _ 6 (by omega)
      have e8 : ((8 * P27 : Nat) : Rat) = 8 * (P27 : Rat) := by rw [Rat.natCast_mul]; rfl
      rw [e8] at w
      have w2 : b0 (pdl K) X ≤ 48 * ((P27 : Rat) * X ^ j) := by
        have : 0 ≤ (6 - ((j + 1 : Nat) : Rat)) * ((P27 : Rat) * X ^ j) := Rat.mul_nonneg (by grind) xn
        grind
      have w3 := mul_rle Vb w2 (b0_nn X0 V) (b0_nn X0 _)
      have e9 : X ^ (n + (j + 1) + 1) * X ^ j = X ^ (n + (j + 1)) * X ^ (j + 1) := by
        rw [Rat.pow_succ, Rat.pow_succ]; grind
      have e10 : 8 * (BB : Rat) * X ^ (n + (j + 1) + 1) * (48 * ((P27 : Rat) * X ^ j)) = 384 * ((BB : Rat) * (P27 : Rat) * (X ^ (n + (j + 1) + 1) * X ^ j)) := by grind
      rw [e10, e9] at w3
      grind
  have UK := mul_rle Ub Kb (b0_nn X0 U) (b0_nn X0 K)
  have sum : b0 U X * b0 K X + b0 V X * b0 (pdl K) X ≤ 433 * ((BB : Rat) * (P27 : Rat) * X ^ (n + k) * X ^ k) := by
    have e11 : 7 * (BB : Rat) * X ^ (n + k) * (7 * (P27 : Rat) * X ^ k) = 49 * ((BB : Rat) * (P27 : Rat) * X ^ (n + k) * X ^ k) := by grind
    rw [e11] at UK
    grind
  have s0' : 0 ≤ b0 U X * b0 K X + b0 V X * b0 (pdl K) X := by
    have a1 := Rat.mul_nonneg (b0_nn X0 U) (b0_nn X0 K)
    have a2 := Rat.mul_nonneg (b0_nn X0 V) (b0_nn X0 (pdl K))
    grind
  have all := mul_rle P2b sum (b2_nn X0 (c 0)) s0'
  have e12 : 729 * (P27 : Rat) * X ^ n * (433 * ((BB : Rat) * (P27 : Rat) * X ^ (n + k) * X ^ k)) = 315657 * (P27 : Rat) * (P27 : Rat) * (BB : Rat) * (X ^ n * (X ^ (n + k) * X ^ k)) := by grind
  have e13 : X ^ n * (X ^ (n + k) * X ^ k) ≤ X ^ 12 := by
    obtain ⟨r, hr⟩ : ∃ r, n + (n + k + k) + r = 12 := ⟨12 - (n + (n + k + k)), by omega⟩
    rw [← xpow, ← xpow, ← hr, xpow (n + (n + k + k)) r]
    have q1 := rpow_ge1 X1 r
    have q2 := rpow_ge1 X1 (n + (n + k + k))
    have : 0 ≤ X ^ (n + (n + k + k)) * (X ^ r - 1) := Rat.mul_nonneg (by grind) (by grind)
    grind
  have g1 : 0 ≤ 315657 * (P27 : Rat) * (P27 : Rat) * (BB : Rat) := Rat.mul_nonneg (Rat.mul_nonneg (Rat.mul_nonneg (by grind) rp) rp) rB
  have cap : b2 (c 0) X * (b0 U X * b0 K X + b0 V X * b0 (pdl K) X) ≤ 315657 * (P27 : Rat) * (P27 : Rat) * (BB : Rat) * X ^ 12 := by
    rw [e12] at all
    have : 0 ≤ (315657 * (P27 : Rat) * (P27 : Rat) * (BB : Rat)) * (X ^ 12 - X ^ n * (X ^ (n + k) * X ^ k)) := Rat.mul_nonneg g1 (by grind)
    grind
  have nb : 315657 * P27 * P27 * BB * 4294967296 ^ 12 < 2 ^ 1240 := by
    rw [hBB, hP27]
    exact big_ok
  have rbig : 315657 * (P27 : Rat) * (P27 : Rat) * (BB : Rat) * X ^ 12 < (2 : Rat) ^ 1240 := by
    have w := Rat.natCast_lt_natCast.2 nb
    have t1 : ((315657 * P27 * P27 * BB * 4294967296 ^ 12 : Nat) : Rat) = 315657 * (P27 : Rat) * (P27 : Rat) * (BB : Rat) * X ^ 12 := by
      rw [Rat.natCast_mul, Rat.natCast_mul, Rat.natCast_mul, Rat.natCast_mul, Rat.natCast_pow, hX]
      rfl
    have t2 : ((2 ^ 1240 : Nat) : Rat) = (2 : Rat) ^ 1240 := by
      rw [Rat.natCast_pow]
      rfl
    rw [t1, t2] at w
    exact w
  have p2 : ∀ a b : Nat, (2 : Rat) ^ (a + b) = (2 : Rat) ^ a * (2 : Rat) ^ b := fun a b => by
    induction b with
    | zero => rw [Nat.add_zero]; grind
    | succ b ih => rw [← Nat.add_assoc, Rat.pow_succ, ih, Rat.pow_succ]; grind
  have two : (2 : Rat) ^ 1240 ≤ (2 : Rat) ^ (e + e) := by
    obtain ⟨r, hr⟩ : ∃ r, 1240 + r = e + e := ⟨e + e - 1240, by omega⟩
    rw [← hr, p2]
    have q1 : (1 : Rat) ≤ (2 : Rat) ^ r := rpow_ge1 (by grind) r
    have q2 : (1 : Rat) ≤ (2 : Rat) ^ 1240 := rpow_ge1 (by grind) 1240
    have : 0 ≤ (2 : Rat) ^ 1240 * ((2 : Rat) ^ r - 1) := Rat.mul_nonneg (by grind) (by grind)
    grind
  have ww : (b - a) * (b - a) * (2 : Rat) ^ (e + e) = 1 := by
    rw [p2]
    have : (b - a) * (b - a) * ((2 : Rat) ^ e * (2 : Rat) ^ e) = ((b - a) * (2 : Rat) ^ e) * ((b - a) * (2 : Rat) ^ e) := by grind
    rw [this, hab]; grind
  have wp : 0 < (b - a) * (b - a) := Rat.mul_pos (by grind) (by grind)
  generalize b2 (c 0) X * (b0 U X * b0 K X + b0 V X * b0 (pdl K) X) = Q0 at far cap
  generalize 315657 * (P27 : Rat) * (P27 : Rat) * (BB : Rat) * X ^ 12 = Q1 at cap rbig
  generalize (2 : Rat) ^ 1240 = Q2 at rbig two
  generalize (2 : Rat) ^ (e + e) = Q3 at two ww
  have : 0 < (b - a) * (b - a) * (Q3 - Q0) := Rat.mul_pos wp (by grind)
  grind
