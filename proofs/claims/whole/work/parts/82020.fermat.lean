/-! FERMAT'S LITTLE THEOREM -/
def bnc : Nat → Nat → Nat
  | _, 0 => 1
  | 0, _ + 1 => 0
  | n + 1, k + 1 => bnc n k + bnc n (k + 1)
theorem bnc_hi : ∀ n k : Nat, n < k → bnc n k = 0
  | 0, 0, h => absurd h (by omega)
  | 0, _ + 1, _ => rfl
  | n + 1, 0, h => absurd h (by omega)
  | n + 1, k + 1, h => by
    show bnc n k + bnc n (k + 1) = 0
    rw [bnc_hi n k (by omega), bnc_hi n (k + 1) (by omega)]
theorem bnc_nn : ∀ n : Nat, bnc n n = 1
  | 0 => rfl
  | n + 1 => by
    show bnc n n + bnc n (n + 1) = 1
    rw [bnc_nn n, bnc_hi n (n + 1) (by omega)]
theorem bnc_0 (n : Nat) : bnc n 0 = 1 := by cases n <;> rfl
theorem bnc_m : ∀ n k : Nat, (k + 1) * bnc (n + 1) (k + 1) = (n + 1) * bnc n k
  | 0, 0 => rfl
  | 0, k + 1 => by
    show (k + 2) * (bnc 0 (k + 1) + bnc 0 (k + 2)) = 1 * bnc 0 (k + 1)
    rw [bnc_hi 0 (k + 1) (by omega), bnc_hi 0 (k + 2) (by omega)]
    simp
  | n + 1, 0 => by
    have h := bnc_m n 0
    have e : bnc (n + 2) 1 = bnc (n + 1) 0 + bnc (n + 1) 1 := rfl
    simp only [bnc_0] at h
    rw [show n + 1 + 1 = n + 2 from rfl, show 0 + 1 = 1 from rfl, e]
    simp only [bnc_0]
    rw [show 0 + 1 = 1 from rfl] at h
    omega
  | n + 1, k + 1 => by
    have h1 := bnc_m n k
    have h2 := bnc_m n (k + 1)
    have e : bnc (n + 2) (k + 2) = bnc (n + 1) (k + 1) + bnc (n + 1) (k + 2) := rfl
    have e2 : bnc (n + 1) (k + 1) = bnc n k + bnc n (k + 1) := rfl
    rw [show n + 1 + 1 = n + 2 from rfl, show k + 1 + 1 = k + 2 from rfl, e]
    rw [show k + 1 + 1 = k + 2 from rfl] at h2
    grind
def bsum (n : Nat) (a : Int) : Nat → Int
  | 0 => 0
  | m + 1 => bsum n a m + (bnc n m : Int) * a ^ m
theorem bsum_s (n : Nat) (a : Int) : ∀ m : Nat, bsum (n + 1) a (m + 1) = bsum n a (m + 1) + a * bsum n a m
  | 0 => by simp [bsum, bnc_0]
  | m + 1 => by
    have h := bsum_s n a m
    show bsum (n + 1) a (m + 1) + ((bnc n m + bnc n (m + 1) : Nat) : Int) * a ^ (m + 1) = (bsum n a (m + 1) + (bnc n (m + 1) : Int) * a ^ (m + 1)) + a * (bsum n a m + (bnc n m : Int) * a ^ m)
    rw [h, Int.natCast_add, Int.pow_succ]
    grind
theorem binom (a : Int) : ∀ n : Nat, (a + 1) ^ n = bsum n a (n + 1)
  | 0 => by simp [bsum, bnc]
  | n + 1 => by
    have h := binom a n
    have e : bsum n a (n + 2) = bsum n a (n + 1) := by
      show bsum n a (n + 1) + (bnc n (n + 1) : Int) * a ^ (n + 1) = _
      rw [bnc_hi n (n + 1) (by omega)]
      simp
    rw [bsum_s n a (n + 1), e, Int.pow_succ, h]
    grind
theorem bnc_p {p k : Nat} (hp : prime p) (h1 : 1 ≤ k) (h2 : k < p) : (p : Int) ∣ (bnc p k : Int) := by
  obtain ⟨n, rfl⟩ : ∃ n, p = n + 1 := ⟨p - 1, by omega⟩
  obtain ⟨j, rfl⟩ : ∃ j, k = j + 1 := ⟨k - 1, by omega⟩
  have h := bnc_m n j
  have d : ((n + 1 : Nat) : Int) ∣ ((j + 1 : Nat) : Int) * (bnc (n + 1) (j + 1) : Int) := ⟨(bnc n j : Int), by rw [← Int.natCast_mul, h, Int.natCast_mul]⟩
  rcases prime_mul hp d with q | q
  · have := Int.le_of_dvd (by omega) q
    omega
  · exact q
theorem bsum_p {p : Nat} (hp : prime p) (a : Int) : ∀ m : Nat, m < p → (p : Int) ∣ bsum p a (m + 1) - 1
  | 0, _ => by
    show (p : Int) ∣ (0 + (bnc p 0 : Int) * a ^ 0) - 1
    rw [bnc_0]
    exact ⟨0, by simp⟩
  | m + 1, h => by
    have i := bsum_p hp a m (by omega)
    obtain ⟨x, hx⟩ := i
    obtain ⟨y, hy⟩ := bnc_p hp (show 1 ≤ m + 1 by omega) h
    refine ⟨x + y * a ^ (m + 1), ?_⟩
    show (bsum p a (m + 1) + (bnc p (m + 1) : Int) * a ^ (m + 1)) - 1 = _
    rw [hy]
    grind
theorem flt_s {p : Nat} (hp : prime p) (a : Int) : (p : Int) ∣ (a + 1) ^ p - a ^ p - 1 := by
  have p2 := hp.1
  obtain ⟨x, hx⟩ := bsum_p hp a (p - 1) (by omega)
  rw [show p - 1 + 1 = p by omega] at hx
  rw [binom a p]
  refine ⟨x, ?_⟩
  show (bsum p a p + (bnc p p : Int) * a ^ p) - a ^ p - 1 = _
  rw [bnc_nn]
  grind
theorem flt_n {p : Nat} (hp : prime p) : ∀ a : Nat, (p : Int) ∣ (a : Int) ^ p - a
  | 0 => by
    obtain ⟨q, hq⟩ : ∃ q, p = q + 1 := ⟨p - 1, by have := hp.1; omega⟩
    rw [hq, Int.pow_succ]
    exact ⟨0, by simp⟩
  | a + 1 => by
    obtain ⟨x, hx⟩ := flt_n hp a
    obtain ⟨y, hy⟩ := flt_s hp (a : Int)
    exact ⟨x + y, by rw [Int.natCast_add]; rw [show ((1 : Nat) : Int) = 1 from rfl]; grind⟩
theorem flt {p : Nat} (hp : prime p) {v : Int} (h1 : 0 < v) (h2 : v < p) : (p : Int) ∣ v ^ (p - 2) * v - 1 := by
  have p2 := hp.1
  obtain ⟨n, rfl⟩ : ∃ n : Nat, v = n := ⟨v.toNat, by omega⟩
  obtain ⟨x, hx⟩ := flt_n hp n
  have e : (n : Int) ^ p = (n : Int) ^ (p - 2) * n * n := by
    rw [← Int.pow_succ, ← Int.pow_succ, show (p - 2).succ.succ = p by omega]
  rw [e] at hx
  have d : (p : Int) ∣ (n : Int) * ((n : Int) ^ (p - 2) * n - 1) := ⟨x, by grind⟩
  rcases prime_mul hp d with q | q
  · have := Int.le_of_dvd (by omega) q
    omega
  · exact q
/-! numbers without divisors, by trying 6 f + 5 and 6 f + 7 -/
def tdv (n : Nat) : Nat → Bool
  | 0 => true
  | f + 1 => match n % (6 * f + 5) with
    | 0 => false
    | _ + 1 => match n % (6 * f + 7) with
      | 0 => false
      | _ + 1 => tdv n f
theorem tdv_s {n : Nat} : ∀ {F : Nat}, tdv n F = true → ∀ f, f < F → n % (6 * f + 5) ≠ 0 ∧ n % (6 * f + 7) ≠ 0
  | 0, _, f, h => absurd h (by omega)
  | F + 1, h, f, hf => by
    unfold tdv at h
    split at h
    · cases h
    · rename_i a ha
      split at h
      · cases h
      · rename_i b hb
        by_cases e : f = F
        · rw [e, ha, hb]; exact ⟨by omega, by omega⟩
        · exact tdv_s h f (by omega)
theorem tdv_p {n F : Nat} (h2 : 5 ≤ n) (ho : n % 2 = 1) (h3 : n % 3 ≠ 0) (h : tdv n F = true) (hF : n < (6 * F + 5) * (6 * F + 5)) : prime n := by
  have no : ∀ d, 2 ≤ d → d ≤ 6 * F + 4 → ¬ d ∣ n := fun d d2 dF hd => by
    have md : n % d = 0 := Nat.mod_eq_zero_of_dvd hd
    obtain ⟨e, he⟩ := hd
    have od : d % 2 = 1 := by
      refine Classical.byContradiction fun q => ?_
      have : d % 2 = 0 := by omega
      rw [he, Nat.mul_mod, this] at ho
      simp at ho
    have t3 : d % 3 ≠ 0 := fun q => by
      rw [he, Nat.mul_mod, q] at h3
      simp at h3
    by_cases c : d % 6 = 5
    · have := (tdv_s h ((d - 5) / 6) (by omega)).1
      rw [show 6 * ((d - 5) / 6) + 5 = d by omega] at this
      exact this md
    · have c1 : d % 6 = 1 := by omega
      have := (tdv_s h ((d - 7) / 6) (by omega)).2
      rw [show 6 * ((d - 7) / 6) + 7 = d by omega] at this
      exact this md
  refine ⟨by omega, fun d d2 hd => ?_⟩
  have hd' := hd
  obtain ⟨e, he⟩ := hd
  refine Classical.byContradiction fun ne => ?_
  have e2 : 2 ≤ e := by
    refine Nat.not_lt.1 fun q => ?_
    have : e = 0 ∨ e = 1 := by omega
    rcases this with z | z
    · rw [z] at he; omega
    · rw [z, Nat.mul_one] at he; exact ne he.symm
  have b1 := Nat.not_le.1 (fun q => no d d2 q hd')
  have b2 := Nat.not_le.1 (fun q => no e e2 q ⟨d, by rw [he]; exact Nat.mul_comm _ _⟩)
  have := Nat.mul_le_mul (show 6 * F + 5 ≤ d by omega) (show 6 * F + 5 ≤ e by omega)
  omega
