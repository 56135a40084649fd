/-! THE REFERENCE'S POLYNOMIALS: share -/
def shf (F G : List Int) (L : Int) (n m : Nat) : Nat → Nat → Int
  | 0, k => pgt F k
  | j + 1, k => L * shf F G L n m j k - (if k < n - j - m then 0 else shf F G L n m j (n - j) * pgt G (k - (n - j - m)))
theorem lim_pow (L : Int) : ∀ a : Nat, lim (L ^ a) ≤ a * lim L + 1
  | 0 => by rw [Int.pow_zero, lim_one]; omega
  | 1 => by rw [Int.pow_succ, Int.pow_zero, Int.one_mul]; omega
  | a + 2 => by
    rw [Int.pow_succ]
    have h1 := lim_mul (L ^ (a + 1)) L
    have h2 := lim_pow L (a + 1)
    have e : (a + 2) * lim L = (a + 1) * lim L + lim L := Nat.succ_mul _ _
    omega
theorem lim_pw2 (L X : Int) : ∀ a : Nat, lim (L ^ a * X) ≤ a * lim L + lim X
  | 0 => by rw [Int.pow_zero, Int.one_mul]; omega
  | a + 1 => by
    rw [Int.pow_succ, Int.mul_comm (L ^ a) L, Int.mul_assoc]
    have h1 := lim_mul L (L ^ a * X)
    have h2 := lim_pw2 L X a
    have e : (a + 1) * lim L = a * lim L + lim L := Nat.succ_mul _ _
    omega
theorem shf_lb {F G : List Int} {L : Int} {n m M N : Nat} (hM : plb F M) (hN : plb G N) (hL : lim L ≤ N) : ∀ j k : Nat, lim (shf F G L n m j k) ≤ M + j * (N + 1)
  | 0, k => by have := hM k; show lim (pgt F k) ≤ _; omega
  | j + 1, k => by
    show lim (L * shf F G L n m j k - (if k < n - j - m then 0 else shf F G L n m j (n - j) * pgt G (k - (n - j - m)))) ≤ _
    have e : (j + 1) * (N + 1) = j * (N + 1) + (N + 1) := Nat.succ_mul _ _
    have a := shf_lb hM hN hL (n := n) (m := m) j k
    have b := lim_mul L (shf F G L n m j k)
    by_cases c : k < n - j - m
    · rw [if_pos c, Int.sub_zero]; omega
    · rw [if_neg c]
      have z := lim_sub (L * shf F G L n m j k) (shf F G L n m j (n - j) * pgt G (k - (n - j - m)))
      have a2 := shf_lb hM hN hL (n := n) (m := m) j (n - j)
      have b2 := lim_mul (shf F G L n m j (n - j)) (pgt G (k - (n - j - m)))
      have b3 := hN (k - (n - j - m))
      omega
theorem shf_lb2 {F G : List Int} {L : Int} {n m M N W : Nat} {a j k t : Nat} (hM : plb F M) (hN : plb G N) (hL : lim L ≤ N) (hW : M + t * (N + 1) ≤ W) (ht : a + j ≤ t) : lim (L ^ a * shf F G L n m j k) + (t - (a + j)) * (N + 1) ≤ W := by
  have h1 := lim_pw2 L (shf F G L n m j k) a
  have h2 := shf_lb hM hN hL (n := n) (m := m) j k
  have h3 : a * lim L ≤ a * (N + 1) := Nat.mul_le_mul_left _ (by omega)
  obtain ⟨b, rfl⟩ : ∃ b, t = a + j + b := ⟨t - (a + j), by omega⟩
  have e : (a + j + b) * (N + 1) = a * (N + 1) + j * (N + 1) + b * (N + 1) := by rw [Nat.add_mul, Nat.add_mul]
  rw [show a + j + b - (a + j) = b by omega]
  omega
/-- what was carried out of the highest places -/
theorem shf_hi {F G : List Int} {L : Int} {n m : Nat} (hF : F.length = n + 1) (hG : G.length = m + 1) (hL : L = pgt G m) : ∀ j : Nat, j + m ≤ n + 1 → ∀ k, n + 1 ≤ k + j → shf F G L n m j k = 0
  | 0, _, k, hk => pgt_hi F k (by omega)
  | j + 1, hj, k, hk => by
    show L * shf F G L n m j k - (if k < n - j - m then 0 else shf F G L n m j (n - j) * pgt G (k - (n - j - m))) = 0
    rw [if_neg (by omega)]
    by_cases c : k = n - j
    · rw [c, show n - j - (n - j - m) = m by omega, ← hL, Int.mul_comm]
      omega
    · rw [shf_hi hF hG hL j (by omega) k (by omega), pgt_hi G (k - (n - j - m)) (by omega)]
      omega
theorem shf_ev {F G : List Int} {L : Int} {n m j : Nat} (hG : G.length = m + 1) (hj : j + m ≤ n) (x : Rat) : pev (pmk (n + 1) (shf F G L n m (j + 1))) x = L * pev (pmk (n + 1) (shf F G L n m j)) x - shf F G L n m j (n - j) * x ^ (n - j - m) * pev G x := by
  have h1 : pev (pmk (n + 1) (shf F G L n m (j + 1))) x = pev (pmk (n + 1) (fun k => L * shf F G L n m j k)) x - pev (pmk (n + 1) (fun k => if k < n - j - m then 0 else (fun i => shf F G L n m j (n - j) * pgt G i) (k - (n - j - m)))) x := by
    rw [← pev_sub]
    rfl
  have h2 := pev_shift (n - j - m) (n + 1 - (n - j - m)) (fun i => shf F G L n m j (n - j) * pgt G i) x
  rw [show n - j - m + (n + 1 - (n - j - m)) = n + 1 by omega] at h2
  rw [h1, h2, pev_sc, pev_sc, pev_pad G (n + 1 - (n - j - m)) x (by omega)]
  grind
theorem shf_sum {F G : List Int} {L : Int} {n m t : Nat} (hF : F.length = n + 1) (hG : G.length = m + 1) (ht : t + m = n + 1) (x : Rat) : ∀ j : Nat, j ≤ t → (L : Rat) ^ j * pev F x = pev (pmk t (fun d => if t - 1 - d < j then L ^ (j - 1 - (t - 1 - d)) * shf F G L n m (t - 1 - d) (n - (t - 1 - d)) else 0)) x * pev G x + pev (pmk (n + 1) (shf F G L n m j)) x
  | 0, _ => by
    rw [pev_z t _ x (fun k _ => if_neg (by omega))]
    have e : pev (pmk (n + 1) (shf F G L n m 0)) x = pev F x := by
      rw [← hF]
      exact pev_pad F F.length x (Nat.le_refl _)
    rw [e]
    grind
  | j + 1, hj => by
    have ih := shf_sum (L := L) hF hG ht x j (by omega)
    rw [shf_ev hG (by omega)]
    have e : pev (pmk t (fun d => if t - 1 - d < j + 1 then L ^ (j + 1 - 1 - (t - 1 - d)) * shf F G L n m (t - 1 - d) (n - (t - 1 - d)) else 0)) x = L * pev (pmk t (fun d => if t - 1 - d < j then L ^ (j - 1 - (t - 1 - d)) * shf F G L n m (t - 1 - d) (n - (t - 1 - d)) else 0)) x + shf F G L n m j (n - j) * x ^ (n - j - m) := by
      rw [← pev_sc, ← pev_one t (n - j - m) (shf F G L n m j (n - j)) x (by omega), ← pev_add]
      refine congrArg (fun p => pev p x) (pmk_co (fun d hd => ?_))
      by_cases c1 : d = n - j - m
      · rw [if_pos c1, if_pos (by omega), if_neg (by omega), show t - 1 - d = j by omega, show j + 1 - 1 - j = 0 by omega, Int.pow_zero]
        omega
      · rw [if_neg c1]
        by_cases c2 : t - 1 - d < j
        · rw [if_pos (by omega), if_pos c2, show j + 1 - 1 - (t - 1 - d) = (j - 1 - (t - 1 - d)) + 1 by omega, Int.pow_succ]
          grind
        · rw [if_neg (by omega), if_neg c2]
          omega
    rw [e, Rat.pow_succ]
    grind
/-- the quotient's list before it is cleaned, and what share says -/
def shq (F G : List Int) : List Int := pmk (F.length + 1 - G.length) (fun d => pgt G (G.length - 1) ^ d * shf F G (pgt G (G.length - 1)) (F.length - 1) (G.length - 1) (F.length - G.length - d) (d + (G.length - 1)))
theorem shq_id {F G : List Int} (hG : 1 ≤ G.length) (hFG : G.length ≤ F.length) : ∃ R : List Int, R.length < G.length ∧ ∀ x : Rat, (pgt G (G.length - 1) : Rat) ^ (F.length + 1 - G.length) * pev F x = pev (shq F G) x * pev G x + pev R x := by
  obtain ⟨m, hm⟩ : ∃ m, G.length = m + 1 := ⟨G.length - 1, by omega⟩
  obtain ⟨n, hn⟩ : ∃ n, F.length = n + 1 := ⟨F.length - 1, by omega⟩
  obtain ⟨t, ht⟩ : ∃ t, t + m = n + 1 := ⟨n + 1 - m, by omega⟩
  refine ⟨pmk m (shf F G (pgt G m) n m t), by rw [pmk_len]; omega, fun x => ?_⟩
  have h := shf_sum (L := pgt G m) hn hm ht x t (Nat.le_refl _)
  have e1 : F.length + 1 - G.length = t := by omega
  have e2 : G.length - 1 = m := by omega
  have e3 : pev (pmk (n + 1) (shf F G (pgt G m) n m t)) x = pev (pmk m (shf F G (pgt G m) n m t)) x := by
    have hz := shf_hi hn hm rfl (L := pgt G m) t (by omega)
    have q : ∀ a : Nat, pev (pmk (m + a) (shf F G (pgt G m) n m t)) x = pev (pmk m (shf F G (pgt G m) n m t)) x := by
      intro a
      induction a with
      | zero => rfl
      | succ a ih =>
        rw [← Nat.add_assoc, pev_top, ih, hz (m + a) (by omega)]
        have e : ((0 : Int) : Rat) = 0 := rfl
        rw [e]
        grind
    rw [show n + 1 = m + (n + 1 - m) by omega]
    exact q _
  rw [e3] at h
  unfold shq
  rw [e1, e2, h]
  congr 2
  refine congrArg (fun p => pev p x) (pmk_co (fun d hd => ?_))
  rw [if_pos (by omega), show t - 1 - (t - 1 - d) = d by omega, show F.length - 1 = n by omega, show F.length - G.length - d = t - 1 - d by omega, show n - (t - 1 - d) = d + m by omega]
