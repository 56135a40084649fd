/-! PRODUCTS OF PIECES -/
def PRd (p : Nat → List Int) (m : Nat → Nat) (x : Rat) : Nat → Rat
  | 0 => 1
  | n + 1 => PRd p m x n * pev (p n) x ^ m n
theorem PRd_co {p p' : Nat → List Int} {m m' : Nat → Nat} {x : Rat} : ∀ {n : Nat}, (∀ e, e < n → pev (p' e) x = pev (p e) x ∧ m' e = m e) → PRd p' m' x n = PRd p m x n
  | 0, _ => rfl
  | n + 1, h => by
    show PRd p' m' x n * pev (p' n) x ^ m' n = PRd p m x n * pev (p n) x ^ m n
    rw [PRd_co (fun e he => h e (by omega)), (h n (by omega)).1, (h n (by omega)).2]
/-- one factor changes: by q times what it was -/
theorem PRd_ch {p p' : Nat → List Int} {m m' : Nat → Nat} {x q : Rat} {e0 : Nat} (h0 : pev (p' e0) x ^ m' e0 * q = pev (p e0) x ^ m e0) : ∀ {n : Nat}, e0 < n → (∀ e, e < n → e ≠ e0 → pev (p' e) x = pev (p e) x ∧ m' e = m e) → PRd p' m' x n * q = PRd p m x n
  | 0, h, _ => absurd h (by omega)
  | n + 1, h, k => by
    show PRd p' m' x n * pev (p' n) x ^ m' n * q = PRd p m x n * pev (p n) x ^ m n
    by_cases c : e0 = n
    · subst c
      rw [PRd_co (p := p) (m := m) (fun e he => k e (by omega) (by omega)), Rat.mul_assoc, h0]
    · have ih := PRd_ch h0 (n := n) (by omega) (fun e he => k e (by omega))
      obtain ⟨k1, k2⟩ := k n (by omega) (by omega)
      rw [k1, k2, ← ih]
      grind
theorem rmul_pow (a b : Rat) : ∀ n : Nat, (a * b) ^ n = a ^ n * b ^ n
  | 0 => by rw [Rat.pow_zero, Rat.pow_zero, Rat.pow_zero]; grind
  | n + 1 => by rw [Rat.pow_succ, Rat.pow_succ, Rat.pow_succ, rmul_pow a b n]; grind
/-- a piece is split: the product is as it was -/
theorem PRd_split {p p' : Nat → List Int} {m m' : Nat → Nat} {x : Rat} {e0 n : Nat} (he : e0 < n) (h1 : pev (p e0) x = pev (p' n) x * pev (p' e0) x) (h2 : m' e0 = m e0) (h3 : m' n = m e0) (k : ∀ e, e < n → e ≠ e0 → pev (p' e) x = pev (p e) x ∧ m' e = m e) : PRd p' m' x (n + 1) = PRd p m x n := by
  show PRd p' m' x n * pev (p' n) x ^ m' n = _
  refine PRd_ch (e0 := e0) ?_ he k
  rw [h2, h3, h1, rmul_pow, Rat.mul_comm]
/-- one more of a piece -/
theorem PRd_inc {p : Nat → List Int} {m m' : Nat → Nat} {x : Rat} {e0 n : Nat} (he : e0 < n) (h2 : m' e0 = m e0 + 1) (k : ∀ e, e < n → e ≠ e0 → m' e = m e) : PRd p m' x n = PRd p m x n * pev (p e0) x := by
  have hq : pev (p e0) x ^ m e0 * pev (p e0) x = pev (p e0) x ^ m' e0 := by rw [h2, Rat.pow_succ]
  exact (PRd_ch (p' := p) (m' := m) (p := p) (m := m') hq he (fun e h1 h3 => ⟨rfl, (k e h1 h3).symm⟩)).symm
/-- a new piece -/
theorem PRd_new {p p' : Nat → List Int} {m m' : Nat → Nat} {x : Rat} {n k : Nat} (hk : m' n = k) (h : ∀ e, e < n → pev (p' e) x = pev (p e) x ∧ m' e = m e) : PRd p' m' x (n + 1) = PRd p m x n * pev (p' n) x ^ k := by
  show PRd p' m' x n * pev (p' n) x ^ m' n = _
  rw [PRd_co h, hk]
/-- where a product of coprime square-free pieces turns or not is told by one piece: at a cut at most one of them turns -/
theorem one_turn {p : Nat → List Int} {n : Nat} {c : Rat → Int} (hc : cut c) (hp : ∀ e e', e < n → e' < n → e ≠ e' → cop (p e) (p e')) {e e' : Nat} (he : e < n) (he' : e' < n) (h : rtc (p e) c) (h' : rtc (p e') c) : e = e' := Classical.byContradiction fun q => rtc_cop hc (hp e e' he he' q) h h'
