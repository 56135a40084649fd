/-! FRACTIONS THAT ARE ROOTS; divisor -/
theorem frac_top : ∀ (P : List Int) (r : Rat), lnz P → 1 ≤ P.length → pev P r = 0 → r ≠ 0 → ∃ k, pgt P k ≠ 0 ∧ r.num ∣ pgt P k
  | [], r, _, h, _, _ => by simp at h
  | [a], r, l, _, hr, _ => by
    exfalso
    have a0 : a ≠ 0 := l 0 rfl
    have e : pev [a] r = (a : Rat) := by
      show (a : Rat) + r * 0 = _
      grind
    rw [e] at hr
    exact a0 (Rat.intCast_eq_zero_iff.1 hr)
  | a :: b :: p, r, l, _, hr, r0 => by
    by_cases a0 : a = 0
    · have e : pev (a :: b :: p) r = (a : Rat) + r * pev (b :: p) r := rfl
      rw [e, a0, rat_i0] at hr
      have hr2 : pev (b :: p) r = 0 := by
        have : r * pev (b :: p) r = 0 := by grind
        rcases Rat.mul_eq_zero.1 this with q | q
        · exact absurd q r0
        · exact q
      obtain ⟨k, k1, k2⟩ := frac_top (b :: p) r (fun n hn => l (n + 1) (by simp only [List.length_cons] at hn ⊢; omega)) (by simp) hr2 r0
      exact ⟨k + 1, k1, k2⟩
    · refine ⟨0, a0, ?_⟩
      obtain ⟨n, hn⟩ : ∃ n, (a :: b :: p).length = n + 2 := ⟨p.length, by simp⟩
      have d0 : (0 : Int) < (r.den : Int) := by have := r.den_pos; omega
      have dn : ((r.den : Int) : Rat) ≠ 0 := fun q => by
        have := Rat.intCast_eq_zero_iff.1 q
        omega
      have er : ((r.num : Int) : Rat) / ((r.den : Int) : Rat) = r := by
        rw [← Rat.divInt_eq_div]
        exact Rat.num_divInt_den r
      have z := phm_ev (P := a :: b :: p) (p := r.num) (q := (r.den : Int)) (n := n + 1) dn (n + 1) (Nat.le_refl _)
      rw [er, Nat.sub_self] at z
      have e : pmk (n + 1 + 1) (fun i => pgt (a :: b :: p) (0 + i)) = a :: b :: p := by
        rw [pmk_co (g := pgt (a :: b :: p)) (fun i _ => by rw [Nat.zero_add]), show n + 1 + 1 = (a :: b :: p).length by omega]
        exact pmk_self _
      rw [e, hr, Rat.mul_zero] at z
      have z0 : phm (a :: b :: p) r.num (r.den : Int) (n + 1) (n + 1) = 0 := Rat.intCast_eq_zero_iff.1 z
      have z1 : phm (a :: b :: p) r.num (r.den : Int) (n + 1) n * r.num + pgt (a :: b :: p) (n + 1 - (n + 1)) * (r.den : Int) ^ (n + 1) = 0 := z0
      rw [Nat.sub_self] at z1
      have g : r.num ∣ pgt (a :: b :: p) 0 * (r.den : Int) ^ (n + 1) := ⟨-phm (a :: b :: p) r.num (r.den : Int) (n + 1) n, by
        rw [Int.mul_neg, Int.mul_comm r.num]; omega⟩
      have cop2 : Nat.Coprime r.num.natAbs (r.den ^ (n + 1)) := Nat.Coprime.pow_right (n + 1) r.reduced
      have g3 : r.num.natAbs ∣ (pgt (a :: b :: p) 0).natAbs * r.den ^ (n + 1) := by
        have := Int.natAbs_dvd_natAbs.2 g
        rw [Int.natAbs_mul, Int.natAbs_pow] at this
        exact this
      exact Int.natAbs_dvd_natAbs.1 (Nat.Coprime.dvd_of_dvd_mul_right cop2 g3)
/-- numerator and denominator of a root are within 10 ^ 9 -/
theorem frac_b {P : List Int} {r : Rat} (fP : fct P) (hr : pev P r = 0) : r.num.natAbs ≤ 1000000000 ∧ r.den ≤ 1000000000 ∧ -2147483648 < r ∧ r < 2147483648 := by
  obtain ⟨gP, F, oF, K, eK⟩ := fP
  have hF : pev F r = 0 := by rw [eK r, hr]; grind
  have F1 := oF.1.1
  have l0 := oF.1.2.2.1
  refine ⟨?_, ?_, ?_⟩
  · by_cases r0 : r = 0
    · rw [r0]; decide
    · obtain ⟨k, k1, k2⟩ := frac_top F r l0 F1 hF r0
      have := Nat.le_of_dvd (by omega) (Int.natAbs_dvd_natAbs.2 k2)
      have := oF.2 k
      omega
  · have d := frac_num l0 F1 hF
    have pos := oF.1.2.2.2.1
    have := Int.le_of_dvd pos d
    have := oF.2 (F.length - 1)
    omega
  · have nf : ¬ (2147483648 ≤ r ∨ r ≤ -2147483648) := fun q => by
      rcases root_far q F F1 l0 oF.2 with w | w
      · rw [hF] at w; grind
      · rw [hF] at w; grind
    have n1 : ¬ 2147483648 ≤ r := fun q => nf (Or.inl q)
    have n2 : ¬ r ≤ -2147483648 := fun q => nf (Or.inr q)
    constructor <;> grind
theorem lead_b {P : List Int} (fP : fct P) : 0 < pgt P (P.length - 1) ∧ pgt P (P.length - 1) ≤ 1000000000 := by
  obtain ⟨gP, F, oF, K, eK⟩ := fP
  refine ⟨gP.2.2.2.1, ?_⟩
  obtain ⟨K', lK, eKK⟩ := trim K
  have eK' : ∀ x : Rat, pev F x = pev P x * pev K' x := fun x => by rw [eK x, pev_eq eKK x]
  obtain ⟨p, hp⟩ : ∃ p, P.length = p + 1 := ⟨P.length - 1, by have := gP.1; omega⟩
  obtain ⟨f, hf⟩ : ∃ f, F.length = f + 1 := ⟨F.length - 1, by have := oF.1.1; omega⟩
  have K1 : 1 ≤ K'.length := by
    rcases Nat.eq_zero_or_pos K'.length with q | q
    · exfalso
      have z : pgt F f = 0 := pev_zero (fun x => by
        rw [eK' x, List.eq_nil_of_length_eq_zero q]
        show _ * (0 : Rat) = 0
        grind) f
      exact oF.1.2.2.1 f hf z
    · exact q
  obtain ⟨k, hk⟩ : ∃ k, K'.length = k + 1 := ⟨K'.length - 1, by omega⟩
  have t := pdb_top (P := P) (Q := K') (m := p) (n := k) (pdb_mono (pdb_len _) (by omega)) (pdb_mono (pdb_len _) (by omega))
  have same : ∀ j, pgt (pmul P K') j = pgt F j := pev_inj (fun x => by rw [pmul_ev]; exact (eK' x).symm)
  rw [same] at t
  have b := oF.2 (p + k)
  rw [t, Int.natAbs_mul] at b
  have k0 := lK k hk
  rw [show P.length - 1 = p by omega]
  have : (pgt P p).natAbs * 1 ≤ (pgt P p).natAbs * (pgt K' k).natAbs := Nat.mul_le_mul_left _ (by omega)
  omega
/-- the lead times a root that is a fraction is whole -/
theorem lead_frac {P : List Int} {r : Rat} (lP : lnz P) (P1 : 1 ≤ P.length) (hr : pev P r = 0) : ∃ m : Int, (m : Rat) = (pgt P (P.length - 1) : Rat) * r := by
  obtain ⟨t, ht⟩ := frac_num lP P1 hr
  refine ⟨t * r.num, ?_⟩
  have e : r * ((r.den : Int) : Rat) = (r.num : Rat) := by
    have er : ((r.num : Int) : Rat) / ((r.den : Int) : Rat) = r := by
      rw [← Rat.divInt_eq_div]
      exact Rat.num_divInt_den r
    have dn : ((r.den : Int) : Rat) ≠ 0 := fun q => by
      have := Rat.intCast_eq_zero_iff.1 q
      have := r.den_pos
      omega
    have h := Rat.div_mul_cancel (a := (r.num : Rat)) dn
    rw [er] at h
    exact h
  rw [ht, Rat.intCast_mul, Rat.intCast_mul, ← e]
  grind
theorem divisor_ok {s : im_S} {p q : Int} {Q : Int → im_S → Prop} (hp : -9000000000000000000 ≤ p ∧ p ≤ 9000000000000000000) (hq : 0 < q ∧ q ≤ 9000000000000000000) (hQ : Q (Int.gcd p q : Int) s) : W_divisor p q s Q := by
  unfold W_divisor
  refine ⟨fun _ => ⟨by omega, by omega⟩, fun v hv => ?_⟩
  have ev : v = (p.natAbs : Int) := by rw [hv]; split <;> omega
  refine ⟨fun a => a.2.2 = s ∧ 0 ≤ a.1 ∧ 0 ≤ a.2.1 ∧ Int.gcd a.1 a.2.1 = Int.gcd p q, fun a => a.2.1.toNat, ⟨rfl, by dsimp only; omega, by dsimp only; omega, ?_⟩, ?_⟩
  · dsimp only
    rw [ev]
    show Nat.gcd _ _ = Nat.gcd _ _
    rw [Int.natAbs_natCast]
  · rintro ⟨x, y, s1⟩ ⟨i1, i2, i3, i4⟩
    dsimp only at i1 i2 i3 i4 ⊢
    subst i1
    unfold W_divisor_17
    refine ⟨fun c => ?_, fun c => ⟨by omega, ⟨rfl, by dsimp only; omega, ?_, ?_⟩, ?_⟩⟩
    · rw [c, Int.gcd_zero_right] at i4
      have : x = (Int.gcd p q : Int) := by omega
      rw [this]; exact hQ
    · dsimp only
      rw [Int.tmod_eq_emod_of_nonneg i2]
      exact Int.emod_nonneg _ c
    · dsimp only
      rw [Int.tmod_eq_emod_of_nonneg i2, ← i4]
      exact gcd_st i2 i3
    · dsimp only
      rw [Int.tmod_eq_emod_of_nonneg i2]
      have := Int.emod_lt_of_pos x (show 0 < y by omega)
      have := Int.emod_nonneg x c
      omega
/-- in least terms -/
theorem frac_terms {m L : Int} {r : Rat} (hL : 0 < L) (h : (m : Rat) = (L : Rat) * r) : m.tdiv (Int.gcd m L : Int) = r.num ∧ L.tdiv (Int.gcd m L : Int) = (r.den : Int) := by
  have Lr : (L : Rat) ≠ 0 := fun q => by
    have := Rat.intCast_eq_zero_iff.1 q
    omega
  have er : r = Rat.divInt m L := by
    rw [Rat.divInt_eq_div]
    have e := Rat.div_mul_cancel (a := (m : Rat)) Lr
    have w : ((m : Rat) / L - r) * L = 0 := by grind
    rcases Rat.mul_eq_zero.1 w with q | q
    · grind
    · exact absurd q Lr
  have g1 : (Int.gcd m L : Int) ∣ m := Int.gcd_dvd_left _ _
  have g2 : (Int.gcd m L : Int) ∣ L := Int.gcd_dvd_right _ _
  have gc : Int.gcd L m = Int.gcd m L := Int.gcd_comm _ _
  constructor
  · rw [Int.tdiv_eq_ediv_of_dvd g1, er, Rat.num_divInt, gc, Int.sign_eq_one_of_pos hL, Int.one_mul]
  · rw [Int.tdiv_eq_ediv_of_dvd g2, er, Rat.den_divInt, if_neg (by omega), gc]
    rw [Int.natCast_ediv]
    congr 1
    omega
