/-! THE TOP OF A PRODUCT, and how large a piece is -/
/-- the top of a polynomial that is not 0 -/
theorem top_ex {P : List Int} (hP : nzp P) : ∃ n : Nat, pdb P (n + 1) ∧ pgt P n ≠ 0 := by
  obtain ⟨Q, q1, q2⟩ := trim P
  have Q1 : 1 ≤ Q.length := by
    obtain ⟨k, hk⟩ := hP
    refine Nat.not_lt.1 fun z => hk ?_
    rw [← q2 k, pgt_hi Q k (by omega)]
  refine ⟨Q.length - 1, fun k hk => by rw [← q2 k, pgt_hi Q k (by omega)], ?_⟩
  rw [← q2]
  exact q1 _ (by omega)
theorem top_pr {A P K : List Int} {m n N : Nat} (e : ∀ x : Rat, pev A x = pev P x * pev K x) (hA : pdb A (N + 1)) (hP : pdb P (m + 1)) (tP : pgt P m ≠ 0) (hK : pdb K (n + 1)) (tK : pgt K n ≠ 0) : m + n ≤ N ∧ pgt A (m + n) = pgt P m * pgt K n := by
  have co : pgt A (m + n) = pgt P m * pgt K n := by
    rw [← pdb_top hP hK]
    exact pev_inj (fun x => by rw [e x, pmul_ev]) (m + n)
  refine ⟨Nat.not_lt.1 fun q => Int.mul_ne_zero tP tK ?_, co⟩
  rw [← co, hA (m + n) (by omega)]
theorem le_of_top {x y : Int} {B : Nat} (hy : y ≠ 0) (h : (x * y).natAbs ≤ B) : x.natAbs ≤ B := by
  rw [Int.natAbs_mul] at h
  have := Nat.mul_le_mul_left x.natAbs (show 1 ≤ y.natAbs by omega)
  omega
/-- sizes: F divides an atom, F = G F1 -/
theorem pat_sz {F G F1 : List Int} (pF : pat F) (eF : ∀ x : Rat, pev F x = pev G x * pev F1 x) : ∃ g a : Nat, g + a ≤ 8 ∧ pdb F (g + a + 1) ∧ pdb G (g + 1) ∧ pgt G g ≠ 0 ∧ pdb F1 (a + 1) ∧ pgt F1 a ≠ 0 ∧ pab F 310000000000 ∧ pab F1 310000000000 ∧ (g + a = 8 → pab F 1000000000) ∧ (pgt F (g + a)).natAbs ≤ 1000000000 ∧ pgt F (g + a) ≠ 0 ∧ ∀ i j, (pgt G i * pgt F1 j).natAbs ≤ 1000000000000000 := by
  have nF := pat_0 pF
  obtain ⟨A, K, eA, A9, An, bA⟩ := pF
  obtain ⟨nG, nF1⟩ := ne_of_mul eF nF
  obtain ⟨_, nK⟩ := ne_of_mul eA An
  obtain ⟨g, g1, g2⟩ := top_ex nG
  obtain ⟨a, a1, a2⟩ := top_ex nF1
  obtain ⟨f, f1, f2⟩ := top_ex nF
  obtain ⟨k, k1, k2⟩ := top_ex nK
  have tf := top_pr eF f1 g1 g2 a1 a2
  have ef : f = g + a := by
    refine Nat.le_antisymm (Nat.not_lt.1 fun q => f2 ?_) tf.1
    rw [show pgt F f = pgt (pmul G F1) f from pev_inj (fun x => by rw [eF x, pmul_ev]) f, pdb_mul g1 a1 f (by omega)]
  subst ef
  have ta := top_pr eA (N := 8) A9 f1 f2 k1 k2
  have bF : pab F 310000000000 := fun i => le_of_top k2 (dbd_B eA bA f1 k1 ta.1 i k)
  have e2 : ∀ x : Rat, pev A x = pev F1 x * pev (pmul G K) x := fun x => by rw [eA x, eF x, pmul_ev]; grind
  have gk : pdb (pmul G K) (g + k + 1) := pdb_mono (pdb_mul g1 k1) (by omega)
  have gkt : pgt (pmul G K) (g + k) ≠ 0 := by rw [pdb_top g1 k1]; exact Int.mul_ne_zero g2 k2
  have bF1 : pab F1 310000000000 := fun j => le_of_top gkt (dbd_B e2 bA a1 gk (by omega) j (g + k))
  refine ⟨g, a, by omega, f1, g1, g2, a1, a2, bF, bF1, fun e8 i => ?_, ?_, f2, fun i j => ?_⟩
  · have k0 : k = 0 := by omega
    subst k0
    have : pgt A i = pgt F i * pgt K 0 := by
      have := pev_inj (P := A) (Q := psm (pgt K 0) F) (fun x => by rw [eA x, psm_ev, const_ev (F := K) (fun j => k1 (j + 1) (by omega)) x]; grind) i
      rw [this, psm_gt, Int.mul_comm]
    exact le_of_top k2 (by rw [← this]; exact bA i)
  · exact le_of_top k2 (by rw [← ta.2]; exact bA _)
  · have := dbd_B eF bF g1 a1 (by omega) i j
    omega
