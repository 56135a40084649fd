/-! HOW SMALL A COMBINATION OF THE COFACTORS IS -/
theorem ev_at0 (P : List Int) : pev P 0 = (pgt P 0 : Rat) := by
  cases P with
  | nil => rfl
  | cons a l =>
    show (a : Rat) + 0 * pev l 0 = (a : Rat)
    grind
theorem small_c {F1 H1 : List Int} {a b Hb S : Nat} (hF : pdb F1 (a + 1)) (tF : pgt F1 a ≠ 0) (hH : pdb H1 (b + 1)) (tH : pgt H1 b ≠ 0) (hc : cop F1 H1) (bF : pab F1 Hb) (bH : pab H1 Hb) (S1 : 1 ≤ S) (ab : a + b ≤ S) (hS : 2 * Hb * (S * Hb) ^ (S - 1) < 2 ^ 681) : ∃ (c : Int) (u v : List Int), c ≠ 0 ∧ (c.natAbs : Int) < 2 ^ 681 ∧ ∀ x : Rat, (c : Rat) = pev u x * pev F1 x + pev v x * pev H1 x := by
  have h1 : 1 ≤ Hb := by have := bF a; omega
  have HS : Hb < 2 ^ 681 := by
    have p1 : 1 ≤ (S * Hb) ^ (S - 1) := by first | exact Nat.pow_pos (Nat.mul_pos S1 h1) | exact Nat.pos_pow_of_pos _ (Nat.mul_pos S1 h1) | exact Nat.one_le_pow _ _ (Nat.mul_pos S1 h1)
    have := Nat.mul_le_mul_left (2 * Hb) p1
    omega
  have cast : ∀ n : Nat, n < 2 ^ 681 → (n : Int) < 2 ^ 681 := fun n h => by
    have e : ((2 ^ 681 : Nat) : Int) = 2 ^ 681 := by rw [Int.natCast_pow]; rfl
    rw [← e]
    exact Int.ofNat_lt.2 h
  by_cases a0 : a = 0
  · subst a0
    refine ⟨pgt F1 0, [1], [], tF, cast _ (Nat.lt_of_le_of_lt (bF 0) HS), fun x => ?_⟩
    rw [ev_c, ev_n, rat_i1, const_ev (fun k => hF (k + 1) (by omega)) x]; grind
  by_cases b0 : b = 0
  · subst b0
    refine ⟨pgt H1 0, [], [1], tH, cast _ (Nat.lt_of_le_of_lt (bH 0) HS), fun x => ?_⟩
    rw [ev_c, ev_n, rat_i1, const_ev (fun k => hH (k + 1) (by omega)) x]; grind
  have eA := pdb_ev hF
  have eB := pdb_ev hH
  have cAB : cop (pmk (a + 1) (pgt F1)) (pmk (b + 1) (pgt H1)) := by
    obtain ⟨c, u, v, c0, e⟩ := hc
    exact ⟨c, u, v, c0, fun x => by rw [eA x, eB x]; exact e x⟩
  have lA : lnz (pmk (a + 1) (pgt F1)) := fun n hn => by
    rw [pmk_len] at hn
    rw [pdb_tr hF, show n = a by omega]; exact tF
  obtain ⟨U, V, s, s0, _, _, hU, hV, e⟩ := cop_small (a := a) (b := b) (H := Hb) (pmk_len _ _) (pmk_len _ _) (by omega) (by omega) lA cAB (fun k => by rw [pdb_tr hF]; exact bF k) (fun k => by rw [pdb_tr hH]; exact bH k) h1
  refine ⟨s, U, V, s0, cast _ ?_, fun x => by rw [e x, eA x, eB x]⟩
  have e0 := e 0
  rw [ev_at0, ev_at0, ev_at0, ev_at0, pdb_tr hF, pdb_tr hH, ← Rat.intCast_mul, ← Rat.intCast_mul, ← Rat.intCast_add] at e0
  have es := Rat.intCast_inj.1 e0
  have m1 := Nat.mul_le_mul (hU 0) (bF 0)
  have m2 := Nat.mul_le_mul (hV 0) (bH 0)
  have tri := Int.natAbs_add_le (pgt U 0 * pgt F1 0) (pgt V 0 * pgt H1 0)
  rw [← es, Int.natAbs_mul, Int.natAbs_mul] at tri
  have pm : ((a + b) * Hb) ^ (a + b - 1) ≤ (S * Hb) ^ (S - 1) := Nat.le_trans (Nat.pow_le_pow_left (Nat.mul_le_mul_right Hb ab) _) (Nat.pow_le_pow_right (Nat.mul_pos S1 h1) (by omega))
  have pm2 := Nat.mul_le_mul_right Hb pm
  have e9 : 2 * Hb * (S * Hb) ^ (S - 1) = 2 * ((S * Hb) ^ (S - 1) * Hb) := by grind
  rw [e9] at hS
  generalize (S * Hb) ^ (S - 1) * Hb = X at *
  generalize ((a + b) * Hb) ^ (a + b - 1) * Hb = Y at *
  omega
