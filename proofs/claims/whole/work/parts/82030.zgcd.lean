/-! THE GREATEST COMMON DIVISOR IN WHOLE NUMBERS -/
theorem cont_ex : ∀ (n : Nat) (P : List Int) (k0 : Nat), (pgt P k0).natAbs ≤ n → pgt P k0 ≠ 0 → ∃ (g : Int) (G : List Int), g ≠ 0 ∧ (∀ k, pgt P k = g * pgt G k) ∧ prm1 G
  | 0, P, k0, h, h0 => absurd h0 (by omega)
  | n + 1, P, k0, h, h0 => by
    by_cases q : prm1 P
    · exact ⟨1, P, by decide, fun k => by omega, q⟩
    · unfold prm1 at q
      obtain ⟨d, hd⟩ := Classical.not_forall.1 q
      obtain ⟨d1, d2⟩ := Classical.not_imp.1 hd
      have dn : d ≠ 0 := fun z => by
        have := d1 k0
        rw [z] at this
        exact h0 (Int.zero_dvd.1 this)
      have dn1 : d.natAbs ≠ 1 := fun z => d2 (by
        rcases Int.natAbs_eq d with w | w
        · rw [w, z]; exact ⟨1, rfl⟩
        · rw [w, z]; exact ⟨-1, rfl⟩)
      have e : ∀ k, pgt P k = d * pgt (pmk P.length (fun k => pgt P k / d)) k := fun k => by
        rw [pmk_gt]
        by_cases w : k < P.length
        · rw [if_pos w, Int.mul_ediv_cancel' (d1 k)]
        · rw [if_neg w, pgt_hi P k (by omega), Int.mul_zero]
      have e0 := e k0
      have nz : pgt (pmk P.length (fun k => pgt P k / d)) k0 ≠ 0 := fun z => by rw [z, Int.mul_zero] at e0; exact h0 e0
      have lt : (pgt (pmk P.length (fun k => pgt P k / d)) k0).natAbs ≤ n := by
        have : (pgt P k0).natAbs = d.natAbs * (pgt (pmk P.length (fun k => pgt P k / d)) k0).natAbs := by rw [← Int.natAbs_mul, ← e0]
        have d2 : 2 ≤ d.natAbs := by omega
        have := Nat.mul_le_mul_right (pgt (pmk P.length (fun k => pgt P k / d)) k0).natAbs d2
        omega
      obtain ⟨g, G, g0, hg, hG⟩ := cont_ex n _ k0 lt nz
      exact ⟨d * g, G, Int.mul_ne_zero dn g0, fun k => by rw [e k, hg k]; grind, hG⟩
theorem can9 {G Z : List Int} (hG : nzp G) (h : ∀ x : Rat, pev Z x * pev G x = 0) (x : Rat) : pev Z x = 0 := by
  obtain ⟨Q, q1, q2⟩ := trim G
  have Q1 : 1 ≤ Q.length := by
    obtain ⟨k, hk⟩ := hG
    refine Nat.not_lt.1 fun z => hk ?_
    rw [← q2 k, pgt_hi Q k (by omega)]
  exact pev_can q1 Q1 (fun y => by rw [pev_eq q2 y]; exact h y) x
theorem can_eq {G A B : List Int} (hG : nzp G) (h : ∀ x : Rat, pev G x * pev A x = pev G x * pev B x) (x : Rat) : pev A x = pev B x := by
  have := can9 (Z := padd A (psm (-1) B)) hG (fun y => by
    rw [padd_ev, psm_m1]
    have := h y
    grind) x
  rw [padd_ev, psm_m1] at this
  grind
theorem zgcd {F H : List Int} (hF : nzp F) (hH : nzp H) : ∃ G F1 H1 : List Int, nzp G ∧ prm1 G ∧ (∀ x : Rat, pev F x = pev G x * pev F1 x) ∧ (∀ x : Rat, pev H x = pev G x * pev H1 x) ∧ cop F1 H1 := by
  obtain ⟨A, a1, a2⟩ := trim F
  obtain ⟨B, b1, b2⟩ := trim H
  have A1 : 1 ≤ A.length := by
    obtain ⟨k, hk⟩ := hF
    refine Nat.not_lt.1 fun z => hk ?_
    rw [← a2 k, pgt_hi A k (by omega)]
  obtain ⟨D, D1, lD, qA, qB, c, u, v, c0, e⟩ := bez B.length A B (Nat.le_refl _) a1 b1 A1
  have Dz : pgt D (D.length - 1) ≠ 0 := lD (D.length - 1) (by omega)
  obtain ⟨g, G, g0, hg, pG⟩ := cont_ex _ D (D.length - 1) (Nat.le_refl _) Dz
  have nG : nzp G := ⟨D.length - 1, fun z => Dz (by rw [hg, z, Int.mul_zero])⟩
  have evD : ∀ x : Rat, pev D x = (g : Rat) * pev G x := fun x => pev_csc hg x
  have toG : ∀ {X Y : List Int}, qd D X → (∀ k, pgt X k = pgt Y k) → dvz G Y := fun {X Y} h hxy => by
    obtain ⟨c1, K, c10, k⟩ := h
    refine qd_dvz pG ⟨c1, psm g K, c10, fun x => ?_⟩
    rw [← pev_eq hxy x, k x, evD x, psm_ev]
    grind
  obtain ⟨F1, eF⟩ := toG qA a2
  obtain ⟨H1, eH⟩ := toG qB b2
  refine ⟨G, F1, H1, nG, pG, eF, eH, c * g, u, v, Int.mul_ne_zero c0 g0, fun x => ?_⟩
  have key := can_eq (G := G) (A := [c * g]) (B := padd (pmul u F1) (pmul v H1)) nG (fun y => by
    rw [ev_c, padd_ev, pmul_ev, pmul_ev, Rat.intCast_mul]
    have h := e y
    rw [evD y, pev_eq a2 y, pev_eq b2 y, eF y, eH y] at h
    grind) x
  rw [ev_c, padd_ev, pmul_ev, pmul_ev] at key
  exact key
/-- degrees: F = G F1 -/
theorem deg_mul {F G F1 : List Int} {dF : Int} (hF : dgo dF F) (h0 : 0 ≤ dF) (nG : nzp G) (e : ∀ x : Rat, pev F x = pev G x * pev F1 x) : ∃ g f : Nat, ((g + f : Nat) : Int) = dF ∧ pdb G (g + 1) ∧ pgt G g ≠ 0 ∧ pdb F1 (f + 1) ∧ pgt F1 f ≠ 0 ∧ pgt F dF.toNat = pgt G g * pgt F1 f := by
  have top : ∀ P : List Int, nzp P → ∃ n : Nat, pdb P (n + 1) ∧ pgt P n ≠ 0 := fun P hP => by
    obtain ⟨Q, q1, q2⟩ := trim P
    have Q1 : 1 ≤ Q.length := by
      obtain ⟨k, hk⟩ := hP
      refine Nat.not_lt.1 fun z => hk ?_
      rw [← q2 k, pgt_hi Q k (by omega)]
    refine ⟨Q.length - 1, fun k hk => by rw [← q2 k, pgt_hi Q k (by omega)], ?_⟩
    rw [← q2]
    exact q1 _ (by omega)
  have nF1 : nzp F1 := by
    refine Classical.byContradiction fun n => ?_
    have z : ∀ k, pgt F1 k = 0 := fun k => Classical.byContradiction fun q => n ⟨k, q⟩
    have zz : ∀ x : Rat, pev F x = 0 := fun x => by
      rw [e x, ev_0 z]; grind
    exact hF.2.2.2 h0 (pev_zero zz dF.toNat)
  obtain ⟨g, g1, g2⟩ := top G nG
  obtain ⟨f, f1, f2⟩ := top F1 nF1
  have co : ∀ k, pgt F k = pgt (pmul G F1) k := pev_inj (fun x => by rw [e x, pmul_ev])
  have t : pgt F (g + f) = pgt G g * pgt F1 f := by rw [co, pdb_top g1 f1]
  have hi : ∀ k, g + f < k → pgt F k = 0 := fun k hk => by rw [co, pdb_mul g1 f1 k (by omega)]
  have nz : pgt F (g + f) ≠ 0 := by rw [t]; exact Int.mul_ne_zero g2 f2
  have d1 : ((g + f : Nat) : Int) ≤ dF := Int.not_lt.1 fun q => nz (hF.2.2.1 (g + f) (by omega))
  have d2 : dF ≤ ((g + f : Nat) : Int) := Int.not_lt.1 fun q => hF.2.2.2 h0 (hi dF.toNat (by omega))
  have ed : ((g + f : Nat) : Int) = dF := by omega
  exact ⟨g, f, ed, g1, g2, f1, f2, by rw [← ed, Int.toNat_natCast]; exact t⟩
