/-! HOW LARGE THE FACTORS OF A POLYNOMIAL ARE: by its values at -8 .. 8 -/
theorem psd_c0 (r : Int) (P : List Int) : pgt P 0 = phv r P - r * pgt (psd r P) 0 ∧ ∀ k, pgt P (k + 1) = pgt (psd r P) k - r * pgt (psd r P) (k + 1) := by
  have e : ∀ k, pgt P k = pgt (padd [phv r P] (pmul [-r, 1] (psd r P))) k := pev_inj (fun x => by
    rw [padd_ev, pmul_ev, psd_ev r x P]
    show _ = ((phv r P : Rat) + x * 0) + (((-r : Int) : Rat) + x * (((1 : Int) : Rat) + x * 0)) * pev (psd r P) x
    rw [Rat.intCast_neg, rat_i1]
    grind)
  have m : ∀ k, pgt (pmul [-r, 1] (psd r P)) k = -r * pgt (psd r P) k + pgt (0 :: pmul [1] (psd r P)) k := fun k => by
    show pgt (padd (psm (-r) (psd r P)) (0 :: pmul [1] (psd r P))) k = _
    rw [padd_gt, psm_gt]
  have m1 : ∀ k, pgt (pmul [1] (psd r P)) k = pgt (psd r P) k := pev_inj (fun x => by
    rw [pmul_ev, pev_c1]; grind)
  refine ⟨?_, fun k => ?_⟩
  · rw [e 0, padd_gt, m 0]
    show phv r P + (-r * pgt (psd r P) 0 + 0) = _
    rw [Int.neg_mul]; omega
  · rw [e (k + 1), padd_gt, m (k + 1)]
    show 0 + (-r * pgt (psd r P) (k + 1) + pgt (pmul [1] (psd r P)) k) = _
    rw [m1 k, Int.neg_mul]; omega
def nwt : Nat → Nat
  | 0 => 0
  | n + 1 => 1 + 18 * nwt n
theorem newton : ∀ (n : Nat) (P : List Int) (ρ : Nat → Int) (V : Nat), P.length ≤ n → (∀ i j, i < n → j < n → ρ i = ρ j → i = j) → (∀ i, i < n → (ρ i).natAbs ≤ 8) → (∀ i, i < n → (phv (ρ i) P).natAbs ≤ V) → ∀ k, (pgt P k).natAbs ≤ V * nwt n
  | 0, P, ρ, V, h, _, _, _, k => by rw [pgt_hi P k (by omega)]; show (0 : Int).natAbs ≤ _; omega
  | n + 1, P, ρ, V, h, hi, h8, hv, k => by
    have ih := newton n (psd (ρ 0) P) (fun i => ρ (i + 1)) (2 * V) (by rw [psd_len]; omega) (fun i j a b e => by
      have := hi (i + 1) (j + 1) (by omega) (by omega) e
      omega) (fun i a => h8 (i + 1) (by omega)) (fun i a => by
      have e := psd_ev (ρ 0) (ρ (i + 1) : Rat) P
      rw [phv_ev, phv_ev] at e
      have e2 : phv (ρ (i + 1)) P = phv (ρ 0) P + (ρ (i + 1) - ρ 0) * phv (ρ (i + 1)) (psd (ρ 0) P) := by
        refine Rat.intCast_inj.1 ?_
        rw [Rat.intCast_add, Rat.intCast_mul, Rat.intCast_sub]
        exact e
      have d0 : ρ (i + 1) - ρ 0 ≠ 0 := fun q => by
        have := hi (i + 1) 0 (by omega) (by omega) (by omega)
        omega
      have v0 := hv 0 (by omega)
      have v1 := hv (i + 1) (by omega)
      have m : (phv (ρ (i + 1)) (psd (ρ 0) P)).natAbs ≤ ((ρ (i + 1) - ρ 0) * phv (ρ (i + 1)) (psd (ρ 0) P)).natAbs := by
        rw [Int.natAbs_mul]
        exact Nat.le_mul_of_pos_left _ (by omega)
      omega)
    have c := psd_c0 (ρ 0) P
    have r8 := h8 0 (by omega)
    have v0 := hv 0 (by omega)
    obtain ⟨D, hD⟩ : ∃ D, D = 2 * V * nwt n := ⟨_, rfl⟩
    have fin : V * nwt (n + 1) = V + 9 * D := by
      show V * (1 + 18 * nwt n) = _
      rw [hD]; grind
    have mb : ∀ j, (ρ 0 * pgt (psd (ρ 0) P) j).natAbs ≤ 8 * D := fun j => by
      rw [Int.natAbs_mul, hD]
      exact Nat.mul_le_mul r8 (ih j)
    rw [fin]
    cases k with
    | zero =>
      have a := c.1
      have b := mb 0
      omega
    | succ k =>
      have a := c.2 k
      have b := mb (k + 1)
      have d := ih k
      rw [← hD] at d
      omega
theorem nodes (z : Int → Prop) : ∀ m : Nat, ∃ (ρ ζ : Nat → Int) (p q : Nat), p + q = m ∧ (∀ i j, i < p → j < p → ρ i = ρ j → i = j) ∧ (∀ i, i < p → ¬ z (ρ i) ∧ -8 ≤ ρ i ∧ ρ i < (m : Int) - 8) ∧ (∀ i j, i < q → j < q → ζ i = ζ j → i = j) ∧ (∀ i, i < q → z (ζ i) ∧ ζ i < (m : Int) - 8)
  | 0 => ⟨fun _ => 0, fun _ => 0, 0, 0, rfl, fun i j a => by omega, fun i a => by omega, fun i j a => by omega, fun i a => by omega⟩
  | m + 1 => by
    obtain ⟨ρ, ζ, p, q, e, a1, a2, a3, a4⟩ := nodes z m
    by_cases c : z ((m : Int) - 8)
    · refine ⟨ρ, fun i => if i = q then (m : Int) - 8 else ζ i, p, q + 1, by omega, a1, fun i hi => ?_, fun i j hi hj => ?_, fun i hi => ?_⟩
      · have := a2 i hi
        exact ⟨this.1, this.2.1, by omega⟩
      · dsimp only
        intro h
        split at h <;> split at h
        · omega
        · have := (a4 j (by omega)).2; omega
        · have := (a4 i (by omega)).2; omega
        · exact a3 i j (by omega) (by omega) h
      · dsimp only
        split
        · exact ⟨c, by omega⟩
        · have := a4 i (by omega)
          exact ⟨this.1, by omega⟩
    · refine ⟨fun i => if i = p then (m : Int) - 8 else ρ i, ζ, p + 1, q, by omega, fun i j hi hj => ?_, fun i hi => ?_, a3, fun i hi => ?_⟩
      · dsimp only
        intro h
        split at h <;> split at h
        · omega
        · have := (a2 j (by omega)).2; omega
        · have := (a2 i (by omega)).2; omega
        · exact a1 i j (by omega) (by omega) h
      · dsimp only
        split
        · exact ⟨c, by omega, by omega⟩
        · have := a2 i (by omega)
          exact ⟨this.1, this.2.1, by omega⟩
      · have := a4 i hi
        exact ⟨this.1, by omega⟩
def nwt8 : Nat → Nat
  | 0 => 0
  | n + 1 => 1 + 8 * nwt8 n
theorem phv_abs {r : Int} {H : Nat} (hr : r.natAbs ≤ 8) : ∀ (n : Nat) (P : List Int), P.length ≤ n → pab P H → (phv r P).natAbs ≤ H * nwt8 n
  | _, [], _, _ => by show (0 : Int).natAbs ≤ _; omega
  | 0, a :: p, h, _ => by simp at h
  | n + 1, a :: p, h, hp => by
    have ih := phv_abs hr n p (by simp at h; omega) (fun k => hp (k + 1))
    have ha : a.natAbs ≤ H := hp 0
    show (a + r * phv r p).natAbs ≤ H * (1 + 8 * nwt8 n)
    have m : (r * phv r p).natAbs ≤ 8 * (H * nwt8 n) := by
      rw [Int.natAbs_mul]
      exact Nat.mul_le_mul hr ih
    have e : H * (1 + 8 * nwt8 n) = H + 8 * (H * nwt8 n) := by grind
    omega
def dvz (A F : List Int) : Prop := ∃ K : List Int, ∀ x : Rat, pev F x = pev A x * pev K x
theorem fac_bound {A F : List Int} (h : dvz A F) (hA : A.length ≤ 9) (hF : F.length ≤ 9) (hF0 : ¬ ∀ k, pgt F k = 0) (HF : pab F 1000000000) : pab A p27 := by
  obtain ⟨K, e⟩ := h
  obtain ⟨ρ, ζ, p, q, pq, a1, a2, a3, a4⟩ := nodes (fun r => pev F (r : Rat) = 0) 17
  have p9 : 9 ≤ p := by
    refine Nat.le_of_not_lt fun c => hF0 ?_
    exact pev_roots 9 F ζ hF (fun i j hi hj => a3 i j (by omega) (by omega)) (fun i hi => (a4 i (by omega)).1)
  have r8 : ∀ i, i < p → (ρ i).natAbs ≤ 8 := fun i hi => by
    have := a2 i hi
    omega
  have w := newton 9 A ρ (1000000000 * nwt8 9) hA (fun i j hi hj => a1 i j (by omega) (by omega)) (fun i hi => r8 i (by omega)) (fun i hi => by
    have z := e (ρ i : Rat)
    rw [phv_ev, phv_ev, phv_ev, ← Rat.intCast_mul] at z
    have z2 := Rat.intCast_inj.1 z
    have nz : phv (ρ i) F ≠ 0 := fun q => (a2 i (by omega)).1 (by rw [phv_ev, q]; rfl)
    have le : (phv (ρ i) A).natAbs ≤ (phv (ρ i) F).natAbs := by
      rw [z2, Int.natAbs_mul]
      refine Nat.le_mul_of_pos_right _ ?_
      rcases Nat.eq_zero_or_pos (phv (ρ i) K).natAbs with q | q
      · rw [z2, Int.natAbs_eq_zero.1 q, Int.mul_zero] at nz
        exact absurd rfl nz
      · exact q
    exact Nat.le_trans le (phv_abs (r8 i (by omega)) 9 F hF HF))
  intro k
  refine Nat.le_trans (w k) (by decide)
