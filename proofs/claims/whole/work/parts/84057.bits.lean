/-! THE CLASS'S BITS -/
theorem or_sh_d : ∀ k : Fin 10, ∀ x : Fin 1024, x.val < 2 ^ k.val → orI ((x.val : Nat) : Int) (shlI 1 ((k.val : Nat) : Int)) = ((2 ^ k.val + x.val : Nat) : Int) := by decide +kernel
theorem or_0_d : ∀ x : Fin 1024, orI ((x.val : Nat) : Int) 0 = ((x.val : Nat) : Int) := by decide +kernel
theorem an_sh_d : ∀ c : Fin 10, ∀ x : Fin 1024, andI (shrI ((x.val : Nat) : Int) ((c.val : Nat) : Int)) 1 = ((x.val / 2 ^ c.val % 2 : Nat) : Int) := by decide +kernel
theorem pu_d : ∀ x : Fin 1024, orJ (shlJ ((x.val : Nat) : Int) 1) 0 = ((2 * x.val : Nat) : Int) ∧ orJ (shlJ ((x.val : Nat) : Int) 1) 1 = ((2 * x.val + 1 : Nat) : Int) := by decide +kernel
theorem no_d : ∀ x : Fin 2048, xorJ ((x.val : Nat) : Int) 1 = ((x.val / 2 * 2 + (1 - x.val % 2) : Nat) : Int) := by decide +kernel
theorem an_d : ∀ x : Fin 2048, andJ (ushJ ((x.val : Nat) : Int) 1) (orJ (andJ ((x.val : Nat) : Int) 1) (-2)) = ((x.val / 4 * 2 + x.val / 2 % 2 * (x.val % 2) : Nat) : Int) := by decide +kernel
theorem or_d : ∀ x : Fin 2048, orJ (ushJ ((x.val : Nat) : Int) 1) (andJ ((x.val : Nat) : Int) 1) = ((x.val / 4 * 2 + (x.val / 2 % 2 + x.val % 2 - x.val / 2 % 2 * (x.val % 2)) : Nat) : Int) := by decide +kernel
theorem lo_d : ∀ x : Fin 2048, andJ ((x.val : Nat) : Int) 1 = ((x.val % 2 : Nat) : Int) := by decide +kernel
theorem tst_v (t : Nat → Bool) : ∀ m : Nat, m ≤ 10 → ∃ x : Nat, tst t m = (x : Int) ∧ x < 2 ^ m ∧ ∀ i, i < m → x.testBit i = t i
  | 0, _ => ⟨0, rfl, by decide, fun i hi => by omega⟩
  | m + 1, h => by
    obtain ⟨x, e, l, b⟩ := tst_v t m (by omega)
    have l10 : 2 ^ m ≤ 2 ^ 9 := Nat.pow_le_pow_right (by decide) (by omega)
    have x10 : x < 1024 := by omega
    have st : tst t (m + 1) = orI (tst t m) (if t m = true then shlI 1 (m : Int) else 0) := rfl
    have p2 : 2 ^ (m + 1) = 2 * 2 ^ m := by rw [Nat.pow_succ, Nat.mul_comm]
    rw [st, e]
    by_cases q : t m = true
    · rw [if_pos q]
      refine ⟨2 ^ m + x, or_sh_d ⟨m, by omega⟩ ⟨x, x10⟩ l, by omega, fun i hi => ?_⟩
      by_cases ei : i = m
      · subst ei
        rw [Nat.testBit_two_pow_add_eq, Nat.testBit_lt_two_pow l, q]; rfl
      · rw [Nat.testBit_two_pow_add_gt (by omega)]
        exact b i (by omega)
    · rw [if_neg q]
      refine ⟨x, or_0_d ⟨x, x10⟩, by omega, fun i hi => ?_⟩
      by_cases ei : i = m
      · subst ei
        rw [Nat.testBit_lt_two_pow l]
        cases h : t i with
        | false => rfl
        | true => exact absurd h q
      · exact b i (by omega)
theorem bpu_bit {b : Bool} {y : bst} {x : Nat} (h : ∀ i, y i = (x / 2).testBit i) (hb : b = decide (x % 2 = 1)) (i : Nat) : bpu b y i = x.testBit i := by
  cases i with
  | zero => rw [Nat.testBit_zero]; exact hb
  | succ i => rw [Nat.testBit_succ]; exact h i
/-- the stack of truths as bits does what the program does -/
theorem pst_v {r : Nat → Int} {t : Nat → Bool} {m : Nat} (m10 : m ≤ 10) : ∀ (k : Nat) (l : List Int), l.length = k → lrw r l → cnz l ≤ 10 → (∀ c, c ∈ l → 0 ≤ c ∧ c ≤ 12 ∧ (c < 10 → c < (m : Int))) → ∃ x : Nat, pst r (tst t m) k = (x : Int) ∧ x < 2 ^ (cnz l + 1) ∧ ∀ i, brn t l (fun _ => false) i = x.testBit i
  | 0, l, hl, hr, hc, hk => by
    have : l = [] := List.eq_nil_of_length_eq_zero hl
    subst this
    exact ⟨0, rfl, by decide, fun i => (Nat.zero_testBit i).symm⟩
  | k + 1, l, hl, hr, hc, hk => by
    rcases lst_x l with e | ⟨L, c, e⟩
    · rw [e] at hl; exact absurd hl (by show ¬ (0 = k + 1); omega)
    subst e
    have lL : L.length = k := by rw [List.length_append] at hl; have : L.length + 1 = k + 1 := hl; omega
    have rc : r k = c := by rw [← lL]; exact lrw_at hr
    have cn := cnz_a L c
    obtain ⟨x, e, lx, b⟩ := pst_v (t := t) m10 k L lL (lrw_pre hr) (by omega) (fun c hc => hk c (List.mem_append.2 (Or.inl hc)))
    obtain ⟨c0, c12, cm⟩ := hk c (List.mem_append.2 (Or.inr (List.mem_singleton.2 rfl)))
    have st : pst r (tst t m) (k + 1) = if 10 ≤ r k then (if ¬ (r k = 10) then (if ¬ (r k = 11) then (orJ (ushJ (pst r (tst t m) k) 1) (andJ (pst r (tst t m) k) 1)) else (andJ (ushJ (pst r (tst t m) k) 1) (orJ (andJ (pst r (tst t m) k) 1) (-2)))) else (xorJ (pst r (tst t m) k) 1)) else (orJ (shlJ (pst r (tst t m) k) 1) (andI (shrI (tst t m) (r k)) 1)) := rfl
    have br : brn t (L ++ [c]) (fun _ => false) = bs1 t c (brn t L (fun _ => false)) := by rw [brn_a]; rfl
    rw [br]
    generalize brn t L (fun _ => false) = y at b ⊢
    have p11 : 2 ^ (cnz L + 1) ≤ 2 ^ 11 := Nat.pow_le_pow_right (by decide) (by omega)
    have x11 : x < 2048 := by omega
    rw [st, rc, e]
    have q4 : x / 2 / 2 = x / 4 := by omega
    have b1 : ∀ i, y (i + 1) = (x / 2).testBit i := fun i => by rw [b, Nat.testBit_succ]
    have b2 : ∀ i, y (i + 2) = (x / 4).testBit i := fun i => by rw [b, Nat.testBit_succ, Nat.testBit_succ, q4]
    have y0 : y 0 = decide (x % 2 = 1) := by rw [b, Nat.testBit_zero]
    have y1 : y 1 = decide (x / 2 % 2 = 1) := by rw [b, Nat.testBit_succ, Nat.testBit_zero]
    unfold bs1
    by_cases h10 : c < 10
    · rw [if_neg (by omega), if_pos h10]
      rw [if_pos h10] at cn
      have p10 : 2 ^ (cnz L + 1) ≤ 2 ^ 10 := Nat.pow_le_pow_right (by decide) (by omega)
      have x10 : x < 1024 := by omega
      obtain ⟨z, ez, lz, bz⟩ := tst_v t m m10
      have z10 : z < 1024 := by
        have : 2 ^ m ≤ 2 ^ 10 := Nat.pow_le_pow_right (by decide) m10
        omega
      obtain ⟨a, rfl⟩ : ∃ a : Nat, c = (a : Int) := ⟨c.toNat, by omega⟩
      have am : a < m := by omega
      have tb := bz a am
      rw [Nat.testBit_eq_decide_div_mod_eq] at tb
      have an := an_sh_d ⟨a, by omega⟩ ⟨z, z10⟩
      dsimp only at an
      have pu := pu_d ⟨x, x10⟩
      dsimp only at pu
      rw [ez, an, Int.toNat_natCast, ← tb]
      rw [cn, Nat.pow_succ]
      rcases Nat.mod_two_eq_zero_or_one (z / 2 ^ a) with q | q
      · rw [q]
        refine ⟨2 * x, pu.1, by omega, bpu_bit (fun i => ?_) ?_⟩
        · rw [show 2 * x / 2 = x by omega]; exact b i
        · rw [show 2 * x % 2 = 0 by omega]
      · rw [q]
        refine ⟨2 * x + 1, pu.2, by omega, bpu_bit (fun i => ?_) ?_⟩
        · rw [show (2 * x + 1) / 2 = x by omega]; exact b i
        · rw [show (2 * x + 1) % 2 = 1 by omega]
    · rw [if_pos (by omega), if_neg h10]
      rw [if_neg h10, Nat.add_zero] at cn
      rw [cn]
      have pw : 2 ^ (cnz L + 1) = 2 * 2 ^ cnz L := by rw [Nat.pow_succ, Nat.mul_comm]
      by_cases c10 : c = 10
      · rw [if_neg (fun z => z c10), if_pos c10]
        have nd := no_d ⟨x, x11⟩
        dsimp only at nd
        refine ⟨x / 2 * 2 + (1 - x % 2), nd, by omega, bpu_bit (fun i => ?_) ?_⟩
        · rw [show (x / 2 * 2 + (1 - x % 2)) / 2 = x / 2 by omega]; exact b1 i
        · rw [show (x / 2 * 2 + (1 - x % 2)) % 2 = 1 - x % 2 by omega, y0]
          rcases Nat.mod_two_eq_zero_or_one x with q | q <;> rw [q] <;> rfl
      · rw [if_pos c10, if_neg c10]
        have m1 : x % 2 < 2 := Nat.mod_lt _ (by decide)
        have m2 : x / 2 % 2 < 2 := Nat.mod_lt _ (by decide)
        by_cases c11 : c = 11
        · rw [if_neg (fun z => z c11), if_pos c11]
          have ad := an_d ⟨x, x11⟩
          dsimp only at ad
          have pr : x / 2 % 2 * (x % 2) = if x / 2 % 2 = 1 ∧ x % 2 = 1 then 1 else 0 := by
            rcases Nat.mod_two_eq_zero_or_one x with q | q <;> rcases Nat.mod_two_eq_zero_or_one (x / 2) with q' | q' <;> rw [q, q'] <;> rfl
          have pb : x / 2 % 2 * (x % 2) < 2 := by rw [pr]; split <;> omega
          refine ⟨x / 4 * 2 + x / 2 % 2 * (x % 2), ad, by omega, bpu_bit (fun i => ?_) ?_⟩
          · rw [show (x / 4 * 2 + x / 2 % 2 * (x % 2)) / 2 = x / 4 by omega]; exact b2 i
          · rw [show (x / 4 * 2 + x / 2 % 2 * (x % 2)) % 2 = x / 2 % 2 * (x % 2) by omega, y0, y1]
            rcases Nat.mod_two_eq_zero_or_one x with q | q <;> rcases Nat.mod_two_eq_zero_or_one (x / 2) with q' | q' <;> rw [q, q'] <;> rfl
        · rw [if_pos c11, if_neg c11]
          have od := or_d ⟨x, x11⟩
          dsimp only at od
          have pr : x / 2 % 2 + x % 2 - x / 2 % 2 * (x % 2) = if x / 2 % 2 = 1 ∨ x % 2 = 1 then 1 else 0 := by
            rcases Nat.mod_two_eq_zero_or_one x with q | q <;> rcases Nat.mod_two_eq_zero_or_one (x / 2) with q' | q' <;> rw [q, q'] <;> rfl
          obtain ⟨w, hw⟩ : ∃ w, w = x / 2 % 2 + x % 2 - x / 2 % 2 * (x % 2) := ⟨_, rfl⟩
          rw [← hw] at od pr
          have pb : w < 2 := by rw [pr]; split <;> omega
          refine ⟨x / 4 * 2 + w, od, by omega, bpu_bit (fun i => ?_) ?_⟩
          · rw [show (x / 4 * 2 + w) / 2 = x / 4 by omega]; exact b2 i
          · rw [show (x / 4 * 2 + w) % 2 = w by omega, pr, y0, y1]
            rcases Nat.mod_two_eq_zero_or_one x with q | q <;> rcases Nat.mod_two_eq_zero_or_one (x / 2) with q' | q' <;> rw [q, q'] <;> rfl
theorem fulf_z {r : Nat → Int} {t : Nat → Bool} {A : atz} {st : Nat} (h : ZW A) (m10 : A.1.length ≤ 10) (hr : lrw r A.2) (hs : st = A.2.length) : fulf r st (tst t A.1.length) = if brn t A.2 (fun _ => false) 0 = true then 1 else 0 := by
  obtain ⟨x, e, l, b⟩ := pst_v (t := t) m10 st A.2 hs.symm hr (by rw [h.1]; exact m10) h.2
  have p11 : 2 ^ (cnz A.2 + 1) ≤ 2 ^ 11 := Nat.pow_le_pow_right (by decide) (by have := h.1; omega)
  have ld := lo_d ⟨x, by omega⟩
  dsimp only at ld
  unfold fulf
  rw [e, ld, b, Nat.testBit_zero]
  rcases Nat.mod_two_eq_zero_or_one x with q | q <;> rw [q] <;> rfl
