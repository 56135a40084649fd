/-! find, for the two uses of the Basis -/
/-- both divide atoms -/
theorem fp_pat {F H G F1 H1 : List Int} (pF : pat F) (pH : pat H) (eF : ∀ x : Rat, pev F x = pev G x * pev F1 x) (eH : ∀ x : Rat, pev H x = pev G x * pev H1 x) (hc : cop F1 H1) : ((∀ k, 1 ≤ k → pgt G k = 0) ∨ ∃ (c : Int) (u v : List Int), c ≠ 0 ∧ (c.natAbs : Int) < 2 ^ 681 ∧ ∀ x : Rat, (c : Rat) = pev u x * pev F1 x + pev v x * pev H1 x) ∧ ∀ i j, (pgt G i * pgt F1 j).natAbs ≤ 1000000000000000 ∧ (pgt G i * pgt H1 j).natAbs ≤ 1000000000000000 := by
  obtain ⟨g, a, ga, _, g1, g2, a1, a2, _, bF1, _, _, _, s1⟩ := pat_sz pF eF
  obtain ⟨g', b, gb, _, g1', g2', b1, b2, _, bH1, _, _, _, s2⟩ := pat_sz pH eH
  have eg : g' = g := by
    rcases Nat.lt_trichotomy g' g with w | w | w
    · exact absurd (g1' g (by omega)) g2
    · exact w
    · exact absurd (g1 g' (by omega)) g2'
  subst eg
  refine ⟨?_, fun i j => ⟨s1 i j, s2 i j⟩⟩
  by_cases g0 : g' = 0
  · exact Or.inl (fun k hk => g1 k (by omega))
  · exact Or.inr (small_c (S := 14) a1 a2 b1 b2 hc bF1 bH1 (by decide) (by omega) (by decide +kernel))
/-- the second is the first one's derivative -/
theorem fp_slope {F H G F1 H1 : List Int} (pF : pat F) (hH : ∀ k, pgt H k = pgt F (k + 1) * ((k : Int) + 1)) (nH : nzp H) (eF : ∀ x : Rat, pev F x = pev G x * pev F1 x) (eH : ∀ x : Rat, pev H x = pev G x * pev H1 x) (hc : cop F1 H1) : ((∀ k, 1 ≤ k → pgt G k = 0) ∨ ∃ (c : Int) (u v : List Int), c ≠ 0 ∧ (c.natAbs : Int) < 2 ^ 681 ∧ ∀ x : Rat, (c : Rat) = pev u x * pev F1 x + pev v x * pev H1 x) ∧ ∀ i j, (pgt G i * pgt F1 j).natAbs ≤ 1000000000000000 ∧ (pgt G i * pgt H1 j).natAbs ≤ 1000000000000000 := by
  obtain ⟨g, a, ga, hF, g1, g2, a1, a2, bF, bF1, b8, _, tF, s1⟩ := pat_sz pF eF
  obtain ⟨_, nH1⟩ := ne_of_mul eH nH
  obtain ⟨b, b1, b2⟩ := top_ex nH1
  have dH : pdb H (g + a) := fun k hk => by rw [hH, hF (k + 1) (by omega), Int.zero_mul]
  have t1 : 1 ≤ g + a := by
    refine Nat.not_lt.1 fun q => ?_
    obtain ⟨k, hk⟩ := nH
    exact hk (dH k (by omega))
  have gb : g + b ≤ g + a - 1 := (top_pr eH (N := g + a - 1) (pdb_mono dH (by omega)) g1 g2 b1 b2).1
  have szH : ∀ B : Nat, pab F B → pab H (8 * B) := fun B hB k => by
    rw [hH, Int.natAbs_mul]
    by_cases k8 : k < 8
    · have := Nat.mul_le_mul (hB (k + 1)) (show ((k : Int) + 1).natAbs ≤ 8 by omega)
      omega
    · rw [hF (k + 1) (by omega)]; simp
  have s2 : ∀ i j, (pgt G i * pgt H1 j).natAbs ≤ 768800000000000 := fun i j => dbd_B eH (szH _ bF) g1 b1 (by omega) i j
  refine ⟨?_, fun i j => ⟨s1 i j, by have := s2 i j; omega⟩⟩
  by_cases g0 : g = 0
  · exact Or.inl (fun k hk => g1 k (by omega))
  · right
    by_cases e8 : g + a = 8
    · have bH1 : pab H1 2480000000000 := fun j => le_of_top (y := pgt G g) g2 (by rw [Int.mul_comm]; exact dbd_B eH (szH _ (b8 e8)) g1 b1 (by omega) g j)
      exact small_c (S := 13) a1 a2 b1 b2 hc (fun k => by have := bF1 k; omega) bH1 (by decide) (by omega) (by decide +kernel)
    · have bH1 : pab H1 768800000000000 := fun j => le_of_top (y := pgt G g) g2 (by rw [Int.mul_comm]; exact s2 g j)
      exact small_c (S := 11) a1 a2 b1 b2 hc (fun k => by have := bF1 k; omega) bH1 (by decide) (by omega) (by decide +kernel)
/-- leads are no multiples of the primes -/
theorem prmv_nd {t : Nat} (ht : t < 44) {x : Int} (h0 : x ≠ 0) (h : x.natAbs ≤ 1000000000) : ¬ prmv t ∣ x := fun d => by
  have p := (prmv_z ht).1
  have := Int.le_of_dvd (show 0 < (x.natAbs : Int) by omega) (Int.dvd_natAbs.2 d)
  omega
theorem lead_pat {F : List Int} {d : Int} (hd : dgo d F) (pF : pat F) {t : Nat} (ht : t < 44) : ¬ prmv t ∣ pgt F d.toNat := by
  have d0 := dgo_0 hd (pat_0 pF)
  obtain ⟨g, a, ga, hF, _, _, _, _, _, _, _, lb, ln, _⟩ := pat_sz (F := F) (G := F) (F1 := [1]) pF (fun x => by rw [ev_c, rat_i1]; grind)
  have e : d.toNat = g + a := by
    rcases Nat.lt_trichotomy d.toNat (g + a) with w | w | w
    · exact absurd (hd.2.2.1 (g + a) (by omega)) ln
    · exact w
    · exact absurd (hF d.toNat (by omega)) (hd.2.2.2 d0)
  rw [e]
  exact prmv_nd ht ln lb
theorem lead_slope {F H : List Int} {d e : Int} (hd : dgo d F) (he : dgo e H) (pF : pat F) (hH : ∀ k, pgt H k = pgt F (k + 1) * ((k : Int) + 1)) (nH : nzp H) {t : Nat} (ht : t < 44) : ¬ prmv t ∣ pgt H e.toNat := fun z => by
  have e0 := dgo_0 he nH
  have d0 := dgo_0 hd (pat_0 pF)
  have hn := he.2.2.2 e0
  rw [hH] at hn z
  have f1 : pgt F (e.toNat + 1) ≠ 0 := fun q => hn (by rw [q, Int.zero_mul])
  have le : e + 1 ≤ d := Int.not_lt.1 fun q => f1 (hd.2.2.1 _ (by omega))
  have ed : d.toNat = e.toNat + 1 := by
    refine Nat.le_antisymm (Nat.not_lt.1 fun q => ?_) (by omega)
    obtain ⟨k, hk⟩ : ∃ k, d.toNat = k + 1 := ⟨d.toNat - 1, by omega⟩
    have := he.2.2.1 k (by omega)
    rw [hH, ← hk] at this
    rcases Int.mul_eq_zero.1 this with w | w
    · exact hd.2.2.2 d0 w
    · omega
  have e8 := he.2.1
  rcases prmv_mul ht _ _ z with w | w
  · rw [← ed] at w
    exact lead_pat hd pF ht w
  · exact prmv_nd ht (by omega) (by omega) w
