/-! LIMBS OF 32 BITS -/
abbrev W9 : Int := 4294967296
def bv (f : Nat → Int) : Nat → Int
  | 0 => 0
  | n + 1 => bv f n + (f n % 4294967296) * 4294967296 ^ n
theorem w_pos (n : Nat) : (0 : Int) < 4294967296 ^ n := Int.pow_pos (by decide)
theorem w_succ (n : Nat) : (4294967296 : Int) ^ (n + 1) = 4294967296 * 4294967296 ^ n := by rw [Int.pow_succ]; exact Int.mul_comm _ _
theorem w_le {m n : Nat} (h : m ≤ n) : (4294967296 : Int) ^ m ≤ 4294967296 ^ n := by
  obtain ⟨k, rfl⟩ := Nat.exists_eq_add_of_le h
  rw [Int.pow_add]
  have h1 := w_pos m
  have h2 : (1 : Int) ≤ 4294967296 ^ k := w_pos k
  calc (4294967296 : Int) ^ m = 4294967296 ^ m * 1 := (Int.mul_one _).symm
    _ ≤ _ := Int.mul_le_mul_of_nonneg_left h2 (Int.le_of_lt h1)
theorem bv_0 (f : Nat → Int) : bv f 0 = 0 := rfl
theorem bv_s (f : Nat → Int) (n : Nat) : bv f (n + 1) = bv f n + (f n % 4294967296) * 4294967296 ^ n := rfl
theorem bv_nn (f : Nat → Int) : ∀ n, 0 ≤ bv f n := by
  intro n
  induction n with
  | zero => exact Int.le_refl _
  | succ n ih =>
    rw [bv_s]
    have h1 : 0 ≤ f n % 4294967296 := Int.emod_nonneg _ (by decide)
    have h2 := Int.mul_nonneg h1 (Int.le_of_lt (w_pos n))
    omega
theorem bv_lt (f : Nat → Int) : ∀ n, bv f n < 4294967296 ^ n := by
  intro n
  induction n with
  | zero => show (0 : Int) < 4294967296 ^ 0; decide
  | succ n ih =>
    rw [bv_s, w_succ]
    have h1 : f n % 4294967296 ≤ 4294967295 := by omega
    have h2 := Int.mul_le_mul_of_nonneg_right h1 (Int.le_of_lt (w_pos n))
    omega
theorem bv_congr {f g : Nat → Int} : ∀ {n : Nat}, (∀ i, i < n → f i % 4294967296 = g i % 4294967296) → bv f n = bv g n := by
  intro n
  induction n with
  | zero => intro _; rfl
  | succ n ih =>
    intro h
    rw [bv_s, bv_s, ih (fun i hi => h i (by omega)), h n (by omega)]
theorem bv_zero {f : Nat → Int} {n : Nat} (h : f n % 4294967296 = 0) : bv f (n + 1) = bv f n := by
  rw [bv_s, h, Int.zero_mul, Int.add_zero]
theorem bv_top {f : Nat → Int} {n : Nat} (h : f n % 4294967296 ≠ 0) : 4294967296 ^ n ≤ bv f (n + 1) := by
  rw [bv_s]
  have h1 : 1 ≤ f n % 4294967296 := by omega
  have h2 := Int.mul_le_mul_of_nonneg_right h1 (Int.le_of_lt (w_pos n))
  have h3 := bv_nn f n
  omega
theorem bv_zeros {f : Nat → Int} {n : Nat} : ∀ {m : Nat}, n ≤ m → (∀ i, n ≤ i → i < m → f i % 4294967296 = 0) → bv f m = bv f n := by
  intro m
  induction m with
  | zero => intro h _; rw [Nat.le_zero.mp h]
  | succ m ih =>
    intro h h2
    by_cases e : n = m + 1
    · rw [e]
    · rw [bv_zero (h2 m (by omega) (by omega)), ih (by omega) (fun i h3 h4 => h2 i h3 (by omega))]
/-- the limbs from k on -/
theorem bv_add (f : Nat → Int) (k : Nat) : ∀ n, bv f (k + n) = bv f k + 4294967296 ^ k * bv (fun i => f (k + i)) n := by
  intro n
  induction n with
  | zero => show bv f k = _; rw [bv_0, Int.mul_zero, Int.add_zero]
  | succ n ih =>
    show bv f (k + n) + (f (k + n) % 4294967296) * 4294967296 ^ (k + n) = _
    rw [ih, bv_s, Int.mul_add, Int.pow_add]
    have e : f (k + n) % 4294967296 * (4294967296 ^ k * 4294967296 ^ n) = 4294967296 ^ k * (f (k + n) % 4294967296 * 4294967296 ^ n) := by
      rw [Int.mul_left_comm]
    rw [e]
    omega
theorem bv_shift (f : Nat → Int) (n : Nat) : bv f (n + 1) = f 0 % 4294967296 + 4294967296 * bv (fun i => f (i + 1)) n := by
  have h := bv_add f 1 n
  rw [Nat.add_comm 1 n] at h
  rw [h]
  have e : (fun i => f (1 + i)) = fun i => f (i + 1) := by funext i; rw [Nat.add_comm]
  rw [e]
  show bv f 0 + f 0 % 4294967296 * 4294967296 ^ 0 + _ = _
  rw [bv_0]
  simp
/-- how many limbs a number needs -/
theorem bv_size {n m : Nat} {x : Int} (h1 : 0 < n) (h2 : (4294967296 : Int) ^ (n - 1) ≤ x) (h3 : x < 4294967296 ^ m) : n ≤ m := by
  rcases Nat.lt_or_ge m n with h | h
  · have := w_le (show m ≤ n - 1 by omega)
    omega
  · exact h
