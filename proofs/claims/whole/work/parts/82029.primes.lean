/-! THE ROW OF PRIMES -/
def prim9 (v : Int32) : Bool := Nat.ble 5 v.toInt.toNat && Nat.beq (v.toInt.toNat % 2) 1 && !(Nat.beq (v.toInt.toNat % 3) 0) && Nat.ble (v.toInt.toNat + 1) (46343 * 46343) && tdv v.toInt.toNat 7723
set_option maxRecDepth 100000 in
theorem prim_all : rm_zV.all prim9 = true := by decide +kernel
def prmv (t : Nat) : Int := (rm_zV.getD t 0).toInt
theorem prmv_z {t : Nat} (h : t < 44) : prz (prmv t) := prz_at h
theorem prmv_p {t : Nat} (h : t < 44) : prime (prmv t).toNat := by
  have hl : t < rm_zV.length := by rw [prz_len]; exact h
  have z := List.all_eq_true.mp prim_all (rm_zV.getD t 0) (by
    rw [List.getD_eq_getElem?_getD, List.getElem?_eq_getElem hl]
    exact List.getElem_mem hl)
  unfold prim9 at z
  simp only [Bool.and_eq_true, Bool.not_eq_true', Nat.ble_eq] at z
  obtain ⟨⟨⟨⟨a, b⟩, c⟩, d⟩, e⟩ := z
  refine tdv_p a (Nat.eq_of_beq_eq_true b) (fun q => ?_) e (by show (prmv t).toNat < _; exact d)
  have c : ((prmv t).toNat % 3).beq 0 = false := c
  rw [q] at c
  exact absurd c (by decide)
def decr9 : List Int32 → Bool
  | [] => true
  | a :: l => l.all (fun b => decide (b.toInt < a.toInt)) && decr9 l
theorem decr_all : decr9 rm_zV = true := by decide +kernel
theorem decr_s : ∀ {l : List Int32}, decr9 l = true → ∀ i j, i < j → j < l.length → (l.getD j 0).toInt < (l.getD i 0).toInt
  | [], _, i, j, _, h => by simp at h
  | a :: l, h, i, j, hij, hj => by
    have h : (l.all (fun b => decide (b.toInt < a.toInt)) && decr9 l) = true := h
    simp only [Bool.and_eq_true] at h
    cases j with
    | zero => omega
    | succ j =>
      cases i with
      | zero =>
        have hj' : j < l.length := by simpa using hj
        have := List.all_eq_true.mp h.1 (l.getD j 0) (by
          rw [List.getD_eq_getElem?_getD, List.getElem?_eq_getElem hj']
          exact List.getElem_mem hj')
        have : (l.getD j 0).toInt < a.toInt := of_decide_eq_true this
        exact this
      | succ i => exact decr_s h.2 i j (by omega) (by simpa using hj)
theorem prmv_lt {i j : Nat} (h : i < j) (hj : j < 44) : prmv j < prmv i := decr_s decr_all i j h (by rw [prz_len]; exact hj)
theorem prmv_mul {t : Nat} (h : t < 44) (a b : Int) (d : prmv t ∣ a * b) : prmv t ∣ a ∨ prmv t ∣ b := by
  have p := prmv_z h
  have e : ((prmv t).toNat : Int) = prmv t := by have := p.1; omega
  have := prime_mul (prmv_p h) (a := a) (b := b) (by rw [e]; exact d)
  rw [e] at this
  exact this
theorem prmv_inv {t : Nat} (h : t < 44) (v : Int) (h0 : 0 < v) (h1 : v < prmv t) : prmv t ∣ v ^ (prmv t - 2).toNat * v - 1 := by
  have p := prmv_z h
  have e : ((prmv t).toNat : Int) = prmv t := by have := p.1; omega
  have := flt (prmv_p h) h0 (by rw [e]; exact h1)
  rw [e] at this
  rw [show (prmv t - 2).toNat = (prmv t).toNat - 2 by have := p.1; omega]
  exact this
theorem prmv_dv {i j : Nat} (hi : i < 44) (hj : j < 44) (h : prmv i ∣ prmv j) : i = j := by
  have pi := prmv_z hi
  have pj := prmv_z hj
  have e : prmv i = prmv j := by
    obtain ⟨k, hk⟩ := h
    have a := pi.1
    have b := pj.2
    have c := pj.1
    have k1 : k = 1 := by
      have : 0 < k := Int.not_le.1 fun q => by
        have := Int.mul_le_mul_of_nonneg_left q (show 0 ≤ prmv i by omega)
        omega
      have : k < 2 := Int.not_le.1 fun q => by
        have := Int.mul_le_mul_of_nonneg_left q (show 0 ≤ prmv i by omega)
        omega
      omega
    rw [k1] at hk
    omega
  rcases Nat.lt_trichotomy i j with q | q | q
  · have := prmv_lt q hj; omega
  · exact q
  · have := prmv_lt q hi; omega
/-! two primes side by side that don't divide c -/
def pprd (f : Nat → Nat) : Nat → Int
  | 0 => 1
  | m + 1 => pprd f m * prmv (f m)
theorem pprd_dv {f : Nat → Nat} {t : Nat} (ht : t < 44) : ∀ {m : Nat}, (∀ j, j < m → f j < 44) → prmv t ∣ pprd f m → ∃ j, j < m ∧ t = f j
  | 0, _, h => by
    have p := prmv_z ht
    have h : prmv t ∣ 1 := h
    have := Int.le_of_dvd (by decide) h
    have := p.1
    omega
  | m + 1, hf, h => by
    rcases prmv_mul ht _ _ h with q | q
    · obtain ⟨j, j1, j2⟩ := pprd_dv ht (fun j hj => hf j (by omega)) q
      exact ⟨j, by omega, j2⟩
    · exact ⟨m, by omega, prmv_dv ht (hf m (by omega)) q⟩
theorem pprd_c {f : Nat → Nat} {c : Int} (fi : ∀ i j, i < j → f i ≠ f j) : ∀ {m : Nat}, (∀ j, j < m → f j < 44) → (∀ j, j < m → prmv (f j) ∣ c) → pprd f m ∣ c
  | 0, _, _ => ⟨c, by show c = 1 * c; omega⟩
  | m + 1, hf, hc => by
    obtain ⟨y, hy⟩ := pprd_c fi (m := m) (fun j hj => hf j (by omega)) (fun j hj => hc j (by omega))
    have d := hc m (by omega)
    rw [hy] at d
    rcases prmv_mul (hf m (by omega)) _ _ d with q | q
    · obtain ⟨j, j1, j2⟩ := pprd_dv (hf m (by omega)) (fun j hj => hf j (by omega)) q
      exact absurd j2.symm (fi j m j1)
    · obtain ⟨z, hz⟩ := q
      exact ⟨z, by show c = pprd f m * prmv (f m) * z; rw [hy, hz]; grind⟩
theorem pprd_ge {f : Nat → Nat} : ∀ {m : Nat}, (∀ j, j < m → f j < 44) → (2147482693 : Int) ^ m ≤ pprd f m
  | 0, _ => by show (1 : Int) ≤ 1; decide
  | m + 1, hf => by
    have ih := pprd_ge (m := m) (fun j hj => hf j (by omega))
    have p : (2147482693 : Int) ≤ prmv (f m) := by
      have h9 := hf m (by omega)
      have l : prmv 43 = 2147482693 := by decide +kernel
      rcases Nat.lt_or_ge (f m) 43 with q | q
      · have := prmv_lt q (by decide)
        omega
      · have : f m = 43 := by omega
        rw [this, l]; decide
    show (2147482693 : Int) ^ m * 2147482693 ≤ pprd f m * prmv (f m)
    exact Int.le_trans (Int.mul_le_mul_of_nonneg_right ih (by decide)) (Int.mul_le_mul_of_nonneg_left p (Int.le_trans (Int.pow_nonneg (by decide)) ih))
theorem two_lucky {c : Int} (c0 : c ≠ 0) (hc : (c.natAbs : Int) < 2 ^ 681) : ∃ t, t + 1 < 44 ∧ ¬ prmv t ∣ c ∧ ¬ prmv (t + 1) ∣ c := by
  refine Classical.byContradiction fun n => ?_
  have all : ∀ j, j < 22 → prmv (2 * j) ∣ c ∨ prmv (2 * j + 1) ∣ c := fun j hj => Classical.byContradiction fun q => n ⟨2 * j, by omega, fun z => q (Or.inl z), fun z => q (Or.inr z)⟩
  obtain ⟨f, hf⟩ : ∃ f : Nat → Nat, ∀ j, (f j = 2 * j ∨ f j = 2 * j + 1) ∧ (j < 22 → prmv (f j) ∣ c) := by
    refine ⟨fun j => if prmv (2 * j) ∣ c then 2 * j else 2 * j + 1, fun j => ?_⟩
    dsimp only
    by_cases q : prmv (2 * j) ∣ c
    · rw [if_pos q]; exact ⟨Or.inl rfl, fun _ => q⟩
    · rw [if_neg q]
      refine ⟨Or.inr rfl, fun h => ?_⟩
      rcases all j h with w | w
      · exact absurd w q
      · exact w
  have d := pprd_c (f := f) (c := c) (fun i j hij => by have := (hf i).1; have := (hf j).1; omega) (m := 22) (fun j hj => by have := (hf j).1; omega) (fun j hj => (hf j).2 hj)
  have g := pprd_ge (f := f) (m := 22) (fun j hj => by have := (hf j).1; omega)
  have big : (2 : Int) ^ 681 ≤ 2147482693 ^ 22 := by decide +kernel
  have le := Int.le_of_dvd (show 0 < (c.natAbs : Int) by omega) (Int.dvd_natAbs.2 d)
  omega
