/-! POLYNOMIALS AS LISTS: sums, products, how the values tell the factors, Gauss -/
def padd (P Q : List Int) : List Int := pmk (max P.length Q.length) (fun k => pgt P k + pgt Q k)
def psm (c : Int) (P : List Int) : List Int := pmk P.length (fun k => c * pgt P k)
def pmul : List Int → List Int → List Int
  | [], _ => []
  | a :: P, Q => padd (psm a Q) (0 :: pmul P Q)
theorem padd_gt (P Q : List Int) (k : Nat) : pgt (padd P Q) k = pgt P k + pgt Q k := by
  unfold padd
  rw [pmk_gt]
  by_cases c : k < max P.length Q.length
  · rw [if_pos c]
  · rw [if_neg c, pgt_hi P k (by omega), pgt_hi Q k (by omega)]; rfl
theorem psm_gt (c : Int) (P : List Int) (k : Nat) : pgt (psm c P) k = c * pgt P k := by
  unfold psm
  rw [pmk_gt]
  by_cases q : k < P.length
  · rw [if_pos q]
  · rw [if_neg q, pgt_hi P k (by omega), Int.mul_zero]
theorem padd_len (P Q : List Int) : (padd P Q).length = max P.length Q.length := pmk_len _ _
theorem psm_len (c : Int) (P : List Int) : (psm c P).length = P.length := pmk_len _ _
theorem padd_ev (P Q : List Int) (x : Rat) : pev (padd P Q) x = pev P x + pev Q x := by
  unfold padd
  rw [pev_add, pev_pad P _ x (by omega), pev_pad Q _ x (by omega)]
theorem psm_ev (c : Int) (P : List Int) (x : Rat) : pev (psm c P) x = c * pev P x := by
  unfold psm
  rw [pev_sc, pev_pad P _ x (Nat.le_refl _)]
theorem rat_i0 : ((0 : Int) : Rat) = 0 := rfl
theorem rat_i1 : ((1 : Int) : Rat) = 1 := rfl
theorem pmul_ev : ∀ (P Q : List Int) (x : Rat), pev (pmul P Q) x = pev P x * pev Q x
  | [], Q, x => by
    show (0 : Rat) = 0 * _
    grind
  | a :: P, Q, x => by
    show pev (padd (psm a Q) (0 :: pmul P Q)) x = ((a : Rat) + x * pev P x) * pev Q x
    rw [padd_ev, psm_ev]
    show a * pev Q x + (((0 : Int) : Rat) + x * pev (pmul P Q) x) = _
    rw [pmul_ev P Q x, rat_i0]
    grind
theorem pmul_hi : ∀ (P Q : List Int) (k : Nat), P.length + Q.length ≤ k + 1 → pgt (pmul P Q) k = 0
  | [], _, _, _ => rfl
  | a :: P, Q, k, h => by
    show pgt (padd (psm a Q) (0 :: pmul P Q)) k = 0
    simp only [List.length_cons] at h
    rw [padd_gt, psm_gt, pgt_hi Q k (by omega), Int.mul_zero, Int.zero_add]
    cases k with
    | zero => rfl
    | succ k => exact pmul_hi P Q k (by omega)
theorem pmul_top : ∀ (P Q : List Int) (m n : Nat), P.length ≤ m + 1 → Q.length ≤ n + 1 → pgt (pmul P Q) (m + n) = pgt P m * pgt Q n
  | [], Q, m, n, _, _ => by
    show (0 : Int) = 0 * _
    omega
  | a :: P, Q, 0, n, h1, h2 => by
    show pgt (padd (psm a Q) (0 :: pmul P Q)) (0 + n) = a * pgt Q n
    simp only [List.length_cons] at h1
    have e : P = [] := List.eq_nil_of_length_eq_zero (by omega)
    subst e
    rw [padd_gt, psm_gt, Nat.zero_add]
    have z : pgt (0 :: pmul [] Q) n = 0 := by
      cases n with
      | zero => rfl
      | succ n => rfl
    rw [z]; omega
  | a :: P, Q, m + 1, n, h1, h2 => by
    show pgt (padd (psm a Q) (0 :: pmul P Q)) (m + 1 + n) = pgt P m * pgt Q n
    simp only [List.length_cons] at h1
    rw [padd_gt, psm_gt, pgt_hi Q (m + 1 + n) (by omega), Int.mul_zero, Int.zero_add, show m + 1 + n = (m + n) + 1 by omega]
    exact pmul_top P Q m n (by omega) h2
theorem pmul_0 : ∀ (P Q : List Int), pgt (pmul P Q) 0 = pgt P 0 * pgt Q 0
  | [], Q => by show (0 : Int) = 0 * _; omega
  | a :: P, Q => by
    show pgt (padd (psm a Q) (0 :: pmul P Q)) 0 = a * pgt Q 0
    rw [padd_gt, psm_gt]
    show a * pgt Q 0 + 0 = _
    omega
/-! values at whole numbers tell the factors -/
def phv (r : Int) : List Int → Int
  | [] => 0
  | a :: p => a + r * phv r p
theorem phv_ev (r : Int) : ∀ P : List Int, pev P (r : Rat) = (phv r P : Rat)
  | [] => rfl
  | a :: p => by
    show (a : Rat) + r * pev p r = ((a + r * phv r p : Int) : Rat)
    rw [phv_ev r p, Rat.intCast_add, Rat.intCast_mul]
def psd (r : Int) : List Int → List Int
  | [] => []
  | [_] => []
  | _ :: b :: p => phv r (b :: p) :: psd r (b :: p)
theorem psd_len (r : Int) : ∀ P : List Int, (psd r P).length = P.length - 1
  | [] => rfl
  | [_] => rfl
  | a :: b :: p => by
    show (psd r (b :: p)).length + 1 = _
    rw [psd_len r (b :: p)]
    simp
theorem psd_ev (r : Int) (x : Rat) : ∀ P : List Int, pev P x = (phv r P : Rat) + (x - r) * pev (psd r P) x
  | [] => by
    show (0 : Rat) = ((0 : Int) : Rat) + (x - r) * 0
    rw [rat_i0]; grind
  | [a] => by
    show (a : Rat) + x * 0 = ((a + r * 0 : Int) : Rat) + (x - r) * 0
    rw [Int.mul_zero, Int.add_zero]; grind
  | a :: b :: p => by
    have ih := psd_ev r x (b :: p)
    show (a : Rat) + x * pev (b :: p) x = ((a + r * phv r (b :: p) : Int) : Rat) + (x - r) * ((phv r (b :: p) : Rat) + x * pev (psd r (b :: p)) x)
    rw [Rat.intCast_add, Rat.intCast_mul]
    grind
theorem phv_z (r : Int) : ∀ P : List Int, (∀ k, pgt P k = 0) → phv r P = 0
  | [], _ => rfl
  | a :: p, h => by
    show a + r * phv r p = 0
    rw [phv_z r p (fun k => h (k + 1))]
    have : a = 0 := h 0
    omega
theorem psd_z (r : Int) : ∀ P : List Int, (∀ k, pgt (psd r P) k = 0) → ∀ k, pgt P (k + 1) = 0
  | [], _, _ => rfl
  | [a], _, k => rfl
  | a :: b :: p, h, k => by
    have h0 : phv r (b :: p) = 0 := h 0
    have ih := psd_z r (b :: p) (fun k => h (k + 1))
    have z : phv r p = 0 := phv_z r p (fun k => ih k)
    have hb : b = 0 := by
      have e : b + r * phv r p = 0 := h0
      rw [z] at e
      omega
    cases k with
    | zero => exact hb
    | succ k => exact ih k
/-- as many zeros as factors: all factors are 0 -/
theorem pev_roots : ∀ (n : Nat) (P : List Int) (ρ : Nat → Int), P.length ≤ n → (∀ i j, i < n → j < n → ρ i = ρ j → i = j) → (∀ i, i < n → pev P (ρ i : Rat) = 0) → ∀ k, pgt P k = 0
  | 0, P, ρ, h, _, _, k => pgt_hi P k (by omega)
  | n + 1, P, ρ, h, hi, hz, k => by
    have h0 : phv (ρ 0) P = 0 := by
      have z := hz 0 (by omega)
      rw [phv_ev] at z
      exact Rat.intCast_eq_zero_iff.1 z
    have ih := pev_roots n (psd (ρ 0) P) (fun i => ρ (i + 1)) (by rw [psd_len]; omega) (fun i j a b e => by
      have := hi (i + 1) (j + 1) (by omega) (by omega) e
      omega) (fun i a => by
      have z := hz (i + 1) (by omega)
      have e := psd_ev (ρ 0) (ρ (i + 1) : Rat) P
      rw [z, h0, rat_i0] at e
      have ne : (ρ (i + 1) : Rat) - (ρ 0 : Rat) ≠ 0 := fun q => by
        have q2 : ((ρ (i + 1) - ρ 0 : Int) : Rat) = 0 := by rw [Rat.intCast_sub]; exact q
        have q3 := Rat.intCast_eq_zero_iff.1 q2
        have := hi (i + 1) 0 (by omega) (by omega) (by omega)
        omega
      have e2 : ((ρ (i + 1) : Rat) - (ρ 0 : Rat)) * pev (psd (ρ 0) P) (ρ (i + 1) : Rat) = 0 := by grind
      rcases Rat.mul_eq_zero.1 e2 with q | q
      · exact absurd q ne
      · exact q)
    have z := psd_z (ρ 0) P ih
    cases k with
    | zero =>
      cases P with
      | nil => rfl
      | cons a p =>
        have e : a + ρ 0 * phv (ρ 0) p = 0 := h0
        rw [phv_z (ρ 0) p (fun k => z k)] at e
        show a = 0
        omega
    | succ k => exact z k
theorem pev_zero {P : List Int} (h : ∀ x : Rat, pev P x = 0) (k : Nat) : pgt P k = 0 := pev_roots P.length P (fun i => (i : Int)) (Nat.le_refl _) (fun i j _ _ e => by omega) (fun i _ => h _) k
theorem pev_inj {P Q : List Int} (h : ∀ x : Rat, pev P x = pev Q x) (k : Nat) : pgt P k = pgt Q k := by
  have z := pev_zero (P := padd P (psm (-1) Q)) (fun x => by
    rw [padd_ev, psm_ev, h x]
    have : ((-1 : Int) : Rat) = -1 := rfl
    rw [this]
    grind) k
  rw [padd_gt, psm_gt] at z
  omega
/-! Gauss -/
theorem least_div : ∀ (b n : Nat), n ≤ b → 2 ≤ n → ∃ p, 2 ≤ p ∧ p ∣ n ∧ ∀ d, 2 ≤ d → d ∣ p → d = p
  | 0, n, h, h2 => by omega
  | b + 1, n, h, h2 => by
    by_cases c : ∃ d, 2 ≤ d ∧ d < n ∧ d ∣ n
    · obtain ⟨d, d2, dn, dd⟩ := c
      obtain ⟨p, p2, pd, pp⟩ := least_div b d (by omega) d2
      exact ⟨p, p2, Nat.dvd_trans pd dd, pp⟩
    · refine ⟨n, h2, Nat.dvd_refl n, fun d d2 dd => ?_⟩
      have le := Nat.le_of_dvd (by omega) dd
      rcases Nat.lt_or_eq_of_le le with q | q
      · exact absurd ⟨d, d2, q, dd⟩ c
      · exact q
def prime (p : Nat) : Prop := 2 ≤ p ∧ ∀ d, 2 ≤ d → d ∣ p → d = p
theorem prime_mul {p : Nat} (hp : prime p) {a b : Int} (h : (p : Int) ∣ a * b) : (p : Int) ∣ a ∨ (p : Int) ∣ b := by
  have h1 : p ∣ a.natAbs * b.natAbs := by
    rw [← Int.natAbs_mul]
    exact Int.ofNat_dvd_left.1 h
  by_cases c : p ∣ a.natAbs
  · exact Or.inl (Int.ofNat_dvd_left.2 c)
  · right
    have g1 : Nat.gcd p a.natAbs ∣ p := Nat.gcd_dvd_left _ _
    have g2 : Nat.gcd p a.natAbs ∣ a.natAbs := Nat.gcd_dvd_right _ _
    have g3 : Nat.gcd p a.natAbs = 1 := by
      have pos : 0 < Nat.gcd p a.natAbs := Nat.gcd_pos_of_pos_left _ (by have := hp.1; omega)
      by_cases q : Nat.gcd p a.natAbs = 1
      · exact q
      · have e := hp.2 _ (by omega) g1
        rw [e] at g2
        exact absurd g2 c
    have g4 : Nat.Coprime p a.natAbs := g3
    exact Int.ofNat_dvd_left.2 (Nat.Coprime.dvd_of_dvd_mul_left g4 h1)
theorem gauss_p {p : Nat} (hp : prime p) : ∀ (n : Nat) (P Q : List Int), P.length + Q.length ≤ n → (∀ k, (p : Int) ∣ pgt (pmul P Q) k) → (∀ k, (p : Int) ∣ pgt P k) ∨ (∀ k, (p : Int) ∣ pgt Q k)
  | _, [], Q, _, _ => Or.inl (fun _ => Int.dvd_zero _)
  | _, a :: P, [], _, _ => Or.inr (fun _ => Int.dvd_zero _)
  | 0, a :: P, b :: Q, h, _ => by simp at h
  | n + 1, a :: P, b :: Q, h, hd => by
    simp only [List.length_cons] at h
    have d0 := hd 0
    rw [pmul_0] at d0
    have hs : ∀ k, pgt (pmul (a :: P) (b :: Q)) (k + 1) = a * pgt Q k + pgt (pmul P (b :: Q)) k := fun k => by
      show pgt (padd (psm a (b :: Q)) (0 :: pmul P (b :: Q))) (k + 1) = _
      rw [padd_gt, psm_gt]
      rfl
    rcases prime_mul hp d0 with q | q
    · have q : (p : Int) ∣ a := q
      have ih := gauss_p hp n P (b :: Q) (by simp only [List.length_cons]; omega) (fun k => by
        have z := hd (k + 1)
        rw [hs] at z
        exact (Int.dvd_add_right (Int.dvd_trans q (Int.dvd_mul_right a _))).1 z)
      rcases ih with w | w
      · left
        intro k
        cases k with
        | zero => exact q
        | succ k => exact w k
      · exact Or.inr w
    · have q : (p : Int) ∣ b := q
      have e : ∀ k, pgt (pmul (a :: P) (b :: Q)) (k + 1) = b * pgt P k + pgt (pmul (a :: P) Q) k := by
        intro k
        have z : ∀ x : Rat, pev (pmul (a :: P) (b :: Q)) x = pev (padd (psm b (a :: P)) (0 :: pmul (a :: P) Q)) x := fun x => by
          rw [pmul_ev, padd_ev, psm_ev]
          show ((a : Rat) + x * pev P x) * ((b : Rat) + x * pev Q x) = b * ((a : Rat) + x * pev P x) + (((0 : Int) : Rat) + x * pev (pmul (a :: P) Q) x)
          rw [pmul_ev, rat_i0]
          show _ = b * ((a : Rat) + x * pev P x) + (0 + x * (((a : Rat) + x * pev P x) * pev Q x))
          grind
        rw [pev_inj z (k + 1), padd_gt, psm_gt]
        rfl
      have ih := gauss_p hp n (a :: P) Q (by simp only [List.length_cons]; omega) (fun k => by
        have z := hd (k + 1)
        rw [e] at z
        exact (Int.dvd_add_right (Int.dvd_trans q (Int.dvd_mul_right b _))).1 z)
      rcases ih with w | w
      · exact Or.inl w
      · right
        intro k
        cases k with
        | zero => exact q
        | succ k => exact w k
/-- no number but 1 and -1 divides all factors -/
def prm1 (P : List Int) : Prop := ∀ d : Int, (∀ k, d ∣ pgt P k) → d ∣ 1
theorem gauss : ∀ (n : Nat) (c : Int) (P F K : List Int), c.natAbs ≤ n → c ≠ 0 → prm1 P → (∀ x : Rat, c * pev F x = pev P x * pev K x) → ∃ K' : List Int, ∀ x : Rat, pev F x = pev P x * pev K' x
  | 0, c, P, F, K, h, h0, _, _ => by omega
  | n + 1, c, P, F, K, h, h0, hp, he => by
    by_cases c1 : c.natAbs = 1
    · have q : c = 1 ∨ c = -1 := by omega
      rcases q with q | q
      · exact ⟨K, fun x => by have := he x; rw [q, rat_i1] at this; grind⟩
      · refine ⟨psm (-1) K, fun x => ?_⟩
        have := he x
        have e : ((-1 : Int) : Rat) = -1 := rfl
        rw [q, e] at this
        rw [psm_ev, e]
        grind
    · obtain ⟨p, p2, pd, pp⟩ := least_div c.natAbs c.natAbs (Nat.le_refl _) (by omega)
      have hpr : prime p := ⟨p2, pp⟩
      have pc' : (p : Int) ∣ c := Int.ofNat_dvd_left.2 pd
      obtain ⟨c', hc'⟩ := pc'
      have ec : ∀ k, c * pgt F k = pgt (pmul P K) k := fun k => by
        rw [← psm_gt]
        exact pev_inj (fun x => by rw [psm_ev, pmul_ev]; exact he x) k
      rcases gauss_p hpr _ P K (Nat.le_refl _) (fun k => by rw [← ec k, hc', Int.mul_assoc]; exact Int.dvd_mul_right _ _) with q | q
      · have := hp _ q
        have := Int.ofNat_dvd_left.1 this
        have := Nat.le_of_dvd (by decide) this
        omega
      · have hp0 : (p : Int) ≠ 0 := by omega
        have hk : ∀ k, pgt K k = p * pgt (pmk K.length (fun k => pgt K k / p)) k := fun k => by
          rw [pmk_gt]
          by_cases c2 : k < K.length
          · rw [if_pos c2]; exact (Int.mul_ediv_cancel' (q k)).symm
          · rw [if_neg c2, pgt_hi K k (by omega), Int.mul_zero]
        have na : c.natAbs = p * c'.natAbs := by rw [hc', Int.natAbs_mul]; rfl
        have c'0 : c' ≠ 0 := fun z => h0 (by rw [hc', z, Int.mul_zero])
        have lt : c'.natAbs < c.natAbs := by
          have : 0 < c'.natAbs := by omega
          have : 2 * c'.natAbs ≤ p * c'.natAbs := Nat.mul_le_mul_right _ p2
          omega
        refine gauss n c' P F (pmk K.length (fun k => pgt K k / p)) (by omega) c'0 hp (fun x => ?_)
        have e1 := he x
        rw [pev_csc hk x, hc', Rat.intCast_mul] at e1
        have p0 : ((p : Int) : Rat) ≠ 0 := fun z => hp0 (Rat.intCast_eq_zero_iff.1 z)
        have e2 : ((p : Int) : Rat) * (c' * pev F x - pev P x * pev (pmk K.length (fun k => pgt K k / p)) x) = 0 := by grind
        rcases Rat.mul_eq_zero.1 e2 with w | w
        · exact absurd w p0
        · grind
