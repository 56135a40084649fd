/-! where a root lies: every interval holds a point of at most 2^31 -/
theorem bis_k {F : List Int} {l r : Rat} (hlr : l ≤ r) (hz : ∀ x : Rat, l ≤ x → x ≤ r → pev F x ≠ 0) (hs : pev F l * pev F r < 0) : ∀ k : Nat, ∃ l' r' : Rat, l ≤ l' ∧ l' ≤ r' ∧ r' ≤ r ∧ (r' - l') * ((2 ^ k : Nat) : Rat) = r - l ∧ pev F l' * pev F r' < 0
  | 0 => ⟨l, r, Rat.le_refl, hlr, Rat.le_refl, by
      rw [show ((2 ^ 0 : Nat) : Rat) = 1 from rfl, Rat.mul_one], hs⟩
  | k + 1 => by
    obtain ⟨l', r', a1, a2, a3, a4, a5⟩ := bis_k hlr hz hs k
    have e : ((2 ^ (k + 1) : Nat) : Rat) = ((2 ^ k : Nat) : Rat) * 2 := by
      rw [Nat.pow_succ, Rat.natCast_mul]; rfl
    rw [e]
    obtain ⟨m, hm⟩ : ∃ m : Rat, m = (l' + r') / 2 := ⟨_, rfl⟩
    have m2 : m + m = l' + r' := by grind
    generalize ((2 ^ k : Nat) : Rat) = T at a4 ⊢
    have zl : pev F l' ≠ 0 := hz l' a1 (by grind)
    have zr : pev F r' ≠ 0 := hz r' (by grind) a3
    have zm : pev F m ≠ 0 := hz m (by grind) (by grind)
    have d := (flip2 zl zr).2 a5
    by_cases q : pev F l' * pev F m < 0
    · exact ⟨l', m, a1, by grind, by grind, by grind, q⟩
    · have e1 : rsg (pev F l') = rsg (pev F m) := Classical.byContradiction fun w => q ((flip2 zl zm).1 w)
      exact ⟨m, r', by grind, by grind, a3, by grind, (flip2 zm zr).1 (by rw [← e1]; exact d)⟩
theorem fct_cof {F : List Int} (fF : fct F) : ∃ (O K : List Int), org O ∧ K.length = 9 ∧ pab K p27 ∧ ∀ x : Rat, pev O x = pev F x * pev K x := by
  obtain ⟨g, O, ⟨gO, hO⟩, K, hK⟩ := fF
  obtain ⟨g1, g2, g3, g4, g5⟩ := g
  have Fd : pdb F (F.length - 1 + 1) := pdb_mono (pdb_len F) (by omega)
  have F0 : pgt F (F.length - 1) ≠ 0 := by omega
  have Od : pdb O (F.length - 1 + 9) := pdb_mono (pdb_len O) (by have := gO.2.1; omega)
  have Kd : pdb K 9 := dcan (fun x => by rw [hK x]; grind) Fd F0 Od
  have e : ∀ x : Rat, pev O x = pev F x * pev (pmk 9 (pgt K)) x := fun x => by rw [pdb_ev Kd]; exact hK x
  refine ⟨O, pmk 9 (pgt K), ⟨gO, hO⟩, pmk_len _ _, ?_, e⟩
  refine fac_bound (F := O) ⟨F, fun x => by rw [e x]; grind⟩ (by rw [pmk_len]; omega) gO.2.1 (fun z => ?_) hO
  have := z (O.length - 1)
  have := gO.2.2.2.1
  omega
theorem root_31 {F : List Int} {l r : Rat} (fF : fct F) (hlr : l < r) (hw : r - l ≤ 1) (hl : rb l ((2 ^ 94 : Nat) : Rat)) (hr : rb r ((2 ^ 94 : Nat) : Rat)) (hz : ∀ x : Rat, l ≤ x → x ≤ r → pev F x ≠ 0) (hs : pev F l * pev F r < 0) : ∃ x : Rat, l ≤ x ∧ x ≤ r ∧ -2147483648 < x ∧ x < 2147483648 := by
  obtain ⟨T, hT⟩ : ∃ T : Nat, T = 2 ^ 1700 := ⟨_, rfl⟩
  obtain ⟨l', r', a1, a2, a3, a4, a5⟩ : ∃ l' r' : Rat, l ≤ l' ∧ l' ≤ r' ∧ r' ≤ r ∧ (r' - l') * (T : Rat) = r - l ∧ pev F l' * pev F r' < 0 := by
    rw [hT]
    exact bis_k (Rat.le_of_lt hlr) hz hs 1700
  refine ⟨l', a1, by grind, ?_⟩
  obtain ⟨O, K, hO, K9, Kb, e⟩ := fct_cof fF
  have X1 : (1 : Rat) ≤ ((2 ^ 94 : Nat) : Rat) := nat_rle (show 1 ≤ 2 ^ 94 by decide)
  have hl' : rb l' ((2 ^ 94 : Nat) : Rat) := ⟨by have := hl.1; grind, by have := hr.2; grind⟩
  have hr' : rb r' ((2 ^ 94 : Nat) : Rat) := ⟨by have := hl.1; grind, by have := hr.2; grind⟩
  have nb := near_b hl' hr' hl' Rat.le_refl a2 (W := r' - l') rfl a5 (hz l' a1 (by grind))
  have bn := b1_num X1 7 F (by have := fF.1.2.1; omega) (fct_pab fF)
  have bk := b0_num X1 8 K (by omega) Kb
  have pk := rb_mono (pev_rb hl' K) bk
  obtain ⟨A1, hA1⟩ : ∃ A1 : Nat, A1 = 9 * 9 * p27 * (2 ^ 94) ^ 7 := ⟨_, rfl⟩
  obtain ⟨A2, hA2⟩ : ∃ A2 : Nat, A2 = 9 * p27 * (2 ^ 94) ^ 8 := ⟨_, rfl⟩
  have e1 : (A1 : Rat) = ((7 + 2 : Nat) : Rat) * ((7 + 2 : Nat) : Rat) * (p27 : Rat) * ((2 ^ 94 : Nat) : Rat) ^ 7 := by
    rw [hA1, Rat.natCast_mul, Rat.natCast_mul, Rat.natCast_mul, Rat.natCast_pow]
  have e2 : (A2 : Rat) = ((8 + 1 : Nat) : Rat) * (p27 : Rat) * ((2 ^ 94 : Nat) : Rat) ^ 8 := by
    rw [hA2, Rat.natCast_mul, Rat.natCast_mul, Rat.natCast_pow]
  rw [← e1] at bn
  rw [← e2] at pk
  have w0 : 0 ≤ r' - l' := by grind
  have nb2 := rb_mono nb (Rat.mul_le_mul_of_nonneg_left bn w0)
  have ob := rb_mul nb2 pk
  rw [← e] at ob
  have e170 : (2 ^ 170) ^ 10 = 2 ^ 1700 := (Nat.pow_mul 2 170 10).symm.trans (congrArg (fun n => 2 ^ n) (show 170 * 10 = 1700 from rfl))
  have C2 : 2 * (A1 * A2) ≤ T := by
    rw [hA1, hA2, hT, ← e170]
    decide
  have C3 := nat_rle C2
  have two : ((2 : Nat) : Rat) = 2 := rfl
  rw [Rat.natCast_mul, Rat.natCast_mul, two] at C3
  clear hA1 hA2 hT e1 e2 C2 e170
  generalize (T : Rat) = T at a4 C3
  generalize (A1 : Rat) = A at ob C3
  generalize (A2 : Rat) = B at ob C3
  have k1 := Rat.mul_le_mul_of_nonneg_left C3 w0
  have k2 : 2 * ((r' - l') * A * B) ≤ 1 := by grind
  have oo : -1 < pev O l' ∧ pev O l' < 1 := ⟨by have := ob.1; grind, by have := ob.2; grind⟩
  refine ⟨Rat.not_le.1 (fun w => ?_), Rat.not_le.1 (fun w => ?_)⟩
  · rcases root_far (Or.inr w) O hO.1.1 hO.1.2.2.1 hO.2 with q | q <;> grind
  · rcases root_far (Or.inl w) O hO.1.1 hO.1.2.2.1 hO.2 with q | q <;> grind
