/-! SMALL SOLUTIONS OF LINEAR EQUATIONS: more unknowns than equations -/
def sm : Nat → (Nat → Int) → Int
  | 0, _ => 0
  | n + 1, f => sm n f + f n
theorem sm_co : ∀ {n : Nat} {f g : Nat → Int}, (∀ k, k < n → f k = g k) → sm n f = sm n g
  | 0, _, _, _ => rfl
  | n + 1, f, g, h => by
    show sm n f + f n = sm n g + g n
    rw [sm_co (n := n) (fun k hk => h k (by omega)), h n (by omega)]
theorem sm_sub : ∀ (n : Nat) (f g : Nat → Int), sm n (fun k => f k - g k) = sm n f - sm n g
  | 0, _, _ => rfl
  | n + 1, f, g => by
    show sm n (fun k => f k - g k) + (f n - g n) = sm n f + f n - (sm n g + g n)
    rw [sm_sub n]; omega
theorem sm_abs : ∀ {n : Nat} {f : Nat → Int} {B : Nat}, (∀ k, k < n → (f k).natAbs ≤ B) → (sm n f).natAbs ≤ n * B
  | 0, _, _, _ => by show (0 : Int).natAbs ≤ _; omega
  | n + 1, f, B, h => by
    have a := sm_abs (n := n) (fun k hk => h k (by omega))
    have b := h n (by omega)
    show (sm n f + f n).natAbs ≤ _
    have e : (n + 1) * B = n * B + B := Nat.succ_mul _ _
    omega
theorem pigeon : ∀ (m : Nat) (f : Nat → Nat), (∀ i, i ≤ m → f i < m) → ∃ i j, i < j ∧ j ≤ m ∧ f i = f j
  | 0, f, h => absurd (h 0 (Nat.le_refl _)) (Nat.not_lt_zero _)
  | m + 1, f, h => by
    by_cases c : ∃ i, i ≤ m ∧ f i = f (m + 1)
    · obtain ⟨i, hi, e⟩ := c
      exact ⟨i, m + 1, by omega, Nat.le_refl _, e⟩
    · have nc : ∀ i, i ≤ m → f i ≠ f (m + 1) := fun i hi e => c ⟨i, hi, e⟩
      have hv := h (m + 1) (Nat.le_refl _)
      obtain ⟨i, j, ij, jm, e⟩ := pigeon m (fun i => if f i = m then f (m + 1) else f i) (fun i hi => by
        have a := h i (by omega)
        have b := nc i hi
        split <;> omega)
      refine ⟨i, j, ij, by omega, ?_⟩
      have a := nc i (by omega)
      have b := nc j jm
      split at e <;> split at e <;> omega
def enc (b : Nat) (d : Nat → Nat) : Nat → Nat
  | 0 => 0
  | n + 1 => enc b d n + d n * b ^ n
theorem enc_lt {b : Nat} {d : Nat → Nat} : ∀ {n : Nat}, (∀ k, k < n → d k < b) → enc b d n < b ^ n
  | 0, _ => by show 0 < 1; decide
  | n + 1, h => by
    have a := enc_lt (n := n) (fun k hk => h k (by omega))
    have c := h n (by omega)
    show enc b d n + d n * b ^ n < b ^ (n + 1)
    have e : b ^ (n + 1) = b * b ^ n := by rw [Nat.pow_succ, Nat.mul_comm]
    have m : (d n + 1) * b ^ n ≤ b * b ^ n := Nat.mul_le_mul_right _ c
    have s : (d n + 1) * b ^ n = d n * b ^ n + b ^ n := Nat.succ_mul _ _
    omega
theorem enc_inj {b : Nat} {d d' : Nat → Nat} : ∀ {n : Nat}, (∀ k, k < n → d k < b) → (∀ k, k < n → d' k < b) → enc b d n = enc b d' n → ∀ k, k < n → d k = d' k
  | 0, _, _, _, k, hk => absurd hk (Nat.not_lt_zero k)
  | n + 1, h, h', e, k, hk => by
    have a := enc_lt (b := b) (d := d) (n := n) (fun k hk => h k (by omega))
    have a' := enc_lt (b := b) (d := d') (n := n) (fun k hk => h' k (by omega))
    have e1 : enc b d n + d n * b ^ n = enc b d' n + d' n * b ^ n := e
    have en : d n = d' n := by
      rcases Nat.lt_trichotomy (d n) (d' n) with q | q | q
      · have m : (d n + 1) * b ^ n ≤ d' n * b ^ n := Nat.mul_le_mul_right _ q
        have s : (d n + 1) * b ^ n = d n * b ^ n + b ^ n := Nat.succ_mul _ _
        omega
      · exact q
      · have m : (d' n + 1) * b ^ n ≤ d n * b ^ n := Nat.mul_le_mul_right _ q
        have s : (d' n + 1) * b ^ n = d' n * b ^ n + b ^ n := Nat.succ_mul _ _
        omega
    by_cases c : k = n
    · rw [c]; exact en
    · rw [en] at e1
      exact enc_inj (n := n) (fun k hk => h k (by omega)) (fun k hk => h' k (by omega)) (by omega) k (by omega)
def dig (b i k : Nat) : Nat := i / b ^ k % b
theorem enc_dig (b i : Nat) : ∀ n : Nat, enc b (dig b i) n = i % b ^ n
  | 0 => by show 0 = i % 1; rw [Nat.mod_one]
  | n + 1 => by
    show enc b (dig b i) n + i / b ^ n % b * b ^ n = i % b ^ (n + 1)
    rw [enc_dig b i n, Nat.pow_succ, Nat.mod_mul, Nat.mul_comm (b ^ n)]
theorem siegel {E : Nat} {A : Nat} (r : Nat → Nat → Int) (hA : 1 ≤ A) (hr : ∀ e i, e < E → i < E + 1 → (r e i).natAbs ≤ A) : ∃ z : Nat → Int, (∃ i, i < E + 1 ∧ z i ≠ 0) ∧ (∀ i, i < E + 1 → (z i).natAbs ≤ ((E + 1) * A) ^ E) ∧ ∀ e, e < E → sm (E + 1) (fun i => r e i * z i) = 0 := by
  obtain ⟨D, hD⟩ : ∃ D, D = (E + 1) * A := ⟨_, rfl⟩
  obtain ⟨X, hX⟩ : ∃ X, X = D ^ E := ⟨_, rfl⟩
  have D1 : 1 ≤ D := by rw [hD]; exact Nat.le_trans hA (Nat.le_mul_of_pos_left A (by omega))
  have cnt : (2 * D * X + 1) ^ E ≤ (2 * D * X + 1) ^ E := Nat.le_refl _
  have dlt : ∀ i k : Nat, dig (X + 1) i k < X + 1 := fun i k => Nat.mod_lt _ (by omega)
  -- values are moved to be at least 0
  have lo : ∀ (e n : Nat), n ≤ E + 1 → e < E → ∃ L : Int, ∀ x : Nat → Nat, (∀ k, k < n → x k ≤ X) → L ≤ sm n (fun k => r e k * (x k : Int)) ∧ sm n (fun k => r e k * (x k : Int)) ≤ L + (n * (A * X) : Nat) := by
    intro e n hn he
    induction n with
    | zero => exact ⟨0, fun x _ => ⟨Int.le_refl 0, by show (0 : Int) ≤ _; omega⟩⟩
    | succ n ih =>
      obtain ⟨L, hL⟩ := ih (by omega)
      have hrn := hr e n he (by omega)
      have sx : (n + 1) * (A * X) = n * (A * X) + A * X := Nat.succ_mul _ _
      by_cases c : 0 ≤ r e n
      · refine ⟨L, fun x hx => ?_⟩
        have a := hL x (fun k hk => hx k (by omega))
        have b := hx n (by omega)
        have m1 : 0 ≤ r e n * (x n : Int) := Int.mul_nonneg c (by omega)
        have m2 : r e n * (x n : Int) ≤ (A : Int) * X := Int.mul_le_mul (by omega) (by omega) (by omega) (by omega)
        have m3 : ((A * X : Nat) : Int) = (A : Int) * X := Int.natCast_mul _ _
        show L ≤ sm n (fun k => r e k * (x k : Int)) + r e n * (x n : Int) ∧ sm n (fun k => r e k * (x k : Int)) + r e n * (x n : Int) ≤ _
        rw [sx]
        omega
      · refine ⟨L - (A * X : Nat), fun x hx => ?_⟩
        have a := hL x (fun k hk => hx k (by omega))
        have b := hx n (by omega)
        have m1 : 0 ≤ (-r e n) * (x n : Int) := Int.mul_nonneg (by omega) (by omega)
        have m2 : (-r e n) * (x n : Int) ≤ (A : Int) * X := Int.mul_le_mul (by omega) (by omega) (by omega) (by omega)
        have m3 : ((A * X : Nat) : Int) = (A : Int) * X := Int.natCast_mul _ _
        have m4 : (-r e n) * (x n : Int) = -(r e n * (x n : Int)) := Int.neg_mul _ _
        show L - (A * X : Nat) ≤ sm n (fun k => r e k * (x k : Int)) + r e n * (x n : Int) ∧ sm n (fun k => r e k * (x k : Int)) + r e n * (x n : Int) ≤ _
        rw [sx]
        omega
  have lo2 : ∀ e, ∃ L : Int, e < E → ∀ x : Nat → Nat, (∀ k, k < E + 1 → x k ≤ X) → L ≤ sm (E + 1) (fun k => r e k * (x k : Int)) ∧ sm (E + 1) (fun k => r e k * (x k : Int)) ≤ L + (D * X : Nat) := by
    intro e
    by_cases he : e < E
    · obtain ⟨L, hL⟩ := lo e (E + 1) (Nat.le_refl _) he
      refine ⟨L, fun _ x hx => ?_⟩
      have a := hL x hx
      rw [hD, Nat.mul_assoc]
      exact a
    · exact ⟨0, fun q => absurd q he⟩
  obtain ⟨L, hL⟩ := Classical.axiomOfChoice lo2
  have vb : ∀ e i, e < E → (sm (E + 1) (fun k => r e k * (dig (X + 1) i k : Int)) - L e).toNat < D * X + 1 := by
    intro e i he
    have a := hL e he (fun k => dig (X + 1) i k) (fun k _ => by have := dlt i k; omega)
    omega
  have pos : ∀ e i, e < E → 0 ≤ sm (E + 1) (fun k => r e k * (dig (X + 1) i k : Int)) - L e := by
    intro e i he
    have a := hL e he (fun k => dig (X + 1) i k) (fun k _ => by have := dlt i k; omega)
    omega
  have room : (D * X + 1) ^ E < (X + 1) ^ (E + 1) := by
    have h1 : D * X + 1 ≤ D * (X + 1) := by rw [Nat.mul_add, Nat.mul_one]; omega
    have h2 : (D * X + 1) ^ E ≤ (D * (X + 1)) ^ E := Nat.pow_le_pow_left h1 E
    rw [Nat.mul_pow, ← hX] at h2
    have h3 : (X + 1) ^ (E + 1) = X * (X + 1) ^ E + (X + 1) ^ E := by
      rw [Nat.pow_succ, Nat.mul_comm, Nat.succ_mul]
    have h4 : 0 < (X + 1) ^ E := Nat.pow_pos (by omega)
    omega
  obtain ⟨i, j, ij, jm, e⟩ := pigeon ((D * X + 1) ^ E) (fun i => enc (D * X + 1) (fun e => (sm (E + 1) (fun k => r e k * (dig (X + 1) i k : Int)) - L e).toNat) E) (fun i _ => enc_lt (fun e he => vb e i he))
  have ev := enc_inj (fun e he => vb e i he) (fun e he => vb e j he) e
  refine ⟨fun k => (dig (X + 1) i k : Int) - (dig (X + 1) j k : Int), ?_, fun k hk => ?_, fun e he => ?_⟩
  · refine Classical.byContradiction fun hc => ?_
    have same : ∀ k, k < E + 1 → dig (X + 1) i k = dig (X + 1) j k := by
      intro k hk
      refine Classical.byContradiction fun hne => hc ⟨k, hk, ?_⟩
      dsimp only
      omega
    have eq : enc (X + 1) (dig (X + 1) i) (E + 1) = enc (X + 1) (dig (X + 1) j) (E + 1) := by
      have q : ∀ n, n ≤ E + 1 → enc (X + 1) (dig (X + 1) i) n = enc (X + 1) (dig (X + 1) j) n := by
        intro n
        induction n with
        | zero => intro _; rfl
        | succ n ih =>
          intro hn
          show enc (X + 1) (dig (X + 1) i) n + dig (X + 1) i n * (X + 1) ^ n = enc (X + 1) (dig (X + 1) j) n + dig (X + 1) j n * (X + 1) ^ n
          rw [ih (by omega), same n (by omega)]
      exact q (E + 1) (Nat.le_refl _)
    rw [enc_dig, enc_dig, Nat.mod_eq_of_lt (by omega), Nat.mod_eq_of_lt (by omega)] at eq
    omega
  · have a := dlt i k
    have b := dlt j k
    dsimp only
    rw [← hD, ← hX]
    omega
  · have a := ev e he
    have p1 := pos e i he
    have p2 := pos e j he
    have eq : sm (E + 1) (fun k => r e k * (dig (X + 1) i k : Int)) = sm (E + 1) (fun k => r e k * (dig (X + 1) j k : Int)) := by omega
    rw [sm_co (g := fun k => r e k * (dig (X + 1) i k : Int) - r e k * (dig (X + 1) j k : Int)) (fun k _ => Int.mul_sub _ _ _), sm_sub, eq]
    omega
