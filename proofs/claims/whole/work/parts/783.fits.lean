/-! the first rows fit -/
theorem pat_8 {P : List Int} (h : pat P) (h9 : pdb P 9) (h8 : pgt P 8 ≠ 0) : pab P 1000000000 := by
  obtain ⟨A, Q, e, a9, a0, ab⟩ := h
  have q1 : pdb Q 1 := dcan (Z := Q) (A := P) (T := A) (a := 8) (j := 1) (fun x => by rw [e x]; grind) h9 h8 a9
  have ev : ∀ x : Rat, pev A x = ((pgt Q 0 : Int) : Rat) * pev P x := fun x => by
    rw [e x, ← pdb_ev q1 x]
    show pev P x * ((pgt Q 0 : Rat) + x * 0) = _
    grind
  have co : ∀ k, pgt A k = pgt Q 0 * pgt P k := fun k => by
    have := pev_inj (P := A) (Q := psm (pgt Q 0) P) (fun x => by rw [psm_ev]; exact ev x) k
    rw [this, psm_gt]
  have q0 : pgt Q 0 ≠ 0 := fun z => by
    obtain ⟨k, hk⟩ := a0
    rw [co k, z, Int.zero_mul] at hk
    exact hk rfl
  intro k
  have := ab k
  rw [co k, Int.natAbs_mul] at this
  have : 1 * (pgt P k).natAbs ≤ (pgt Q 0).natAbs * (pgt P k).natAbs := Nat.mul_le_mul_right _ (by omega)
  omega
theorem w1n_max {M : Nat} : ∀ B : List Int, pab B M → w1n B + M ≤ 2 ^ B.length * M
  | [], _ => by show 0 + M ≤ 2 ^ 0 * M; omega
  | x :: B, h => by
    have ih := w1n_max B (fun k => h (k + 1))
    have h0 : x.natAbs ≤ M := h 0
    show x.natAbs + 2 * w1n B + M ≤ 2 ^ (B.length + 1) * M
    have e : 2 ^ (B.length + 1) * M = 2 * (2 ^ B.length * M) := by rw [Nat.pow_succ]; grind
    omega
theorem ffl_le : ∀ d, d ≤ 8 → ffl d d ≤ 362880 := by
  have h : ∀ d ∈ List.range 9, ffl d d ≤ 362880 := by decide +kernel
  intro d hd
  exact h d (List.mem_range.2 (by omega))
theorem xok_of {D d w N W : Nat} (d8 : d ≤ 8) (hN : D * d ≤ N) (hw : w ≤ W) (h : ((2 ^ N * W * 362880 : Nat) : Int) < BB) : xok (2 ^ (D * d) * w) d := by
  have a : 2 ^ (D * d) ≤ 2 ^ N := Nat.pow_le_pow_right (by decide) hN
  have b : 2 ^ (D * d) * w ≤ 2 ^ N * W := Nat.mul_le_mul a hw
  have c : 2 ^ (D * d) * w * ffl d d ≤ 2 ^ N * W * 362880 := Nat.mul_le_mul b (ffl_le d d8)
  unfold xok
  omega
theorem Bl_bd {P : List Int} {d M N : Nat} {st : Int} (bP : pab P M) (hN : ∀ i, i ≤ d → ebn st d i ≤ N) : pab (Bl P d st) (M * 2 ^ N) := fun i => by
  by_cases c : i ≤ d
  · rw [Bl_gt c, Int.natAbs_mul, Int.natAbs_pow]
    have p : (2 : Int).natAbs ^ ebn st d i ≤ 2 ^ N := Nat.pow_le_pow_right (by decide) (hN i c)
    exact Nat.mul_le_mul (bP i) p
  · rw [pgt_hi _ _ (by rw [Bl_len]; omega)]; show (0 : Int).natAbs ≤ _; exact Nat.zero_le _
def n7 : Bool := decide (((2 ^ (286 * 7) * (2 ^ 8 * (15482880000000000 * 2 ^ 224)) * 362880 : Nat) : Int) < BB)
theorem n7_t : n7 = true := by decide +kernel
def n8a : Bool := decide (((2 ^ (256 * 8) * (2 ^ 9 * (1000000000 * 2 ^ 256)) * 362880 : Nat) : Int) < BB)
theorem n8a_t : n8a = true := by decide +kernel
def n8b : Bool := decide (((2 ^ (284 * 8) * (2 ^ 9 * (1000000000 * 2 ^ 224)) * 362880 : Nat) : Int) < BB)
theorem n8b_t : n8b = true := by decide +kernel
def n8c : Bool := decide (((2 ^ (286 * 8) * (7 * 2 ^ 248 + 2 ^ 248) * 362880 : Nat) : Int) < BB)
theorem n8c_t : n8c = true := by decide +kernel
def n8d : Bool := decide (((2 ^ (285 * 8) * (14 * 2 ^ 240 + 2 ^ 248) * 362880 : Nat) : Int) < BB)
theorem n8d_t : n8d = true := by decide +kernel
/-- w1n splits off its last place -/
theorem w1n_top : ∀ (n : Nat) (f : Nat → Int), w1n (pmk (n + 1) f) = w1n (pmk n f) + 2 ^ n * (f n).natAbs
  | 0, f => by show (f 0).natAbs + 2 * 0 = 0 + 2 ^ 0 * (f 0).natAbs; omega
  | n + 1, f => by
    have ih := w1n_top n (fun k => f (k + 1))
    show (f 0).natAbs + 2 * w1n (pmk (n + 1) (fun k => f (k + 1))) = ((f 0).natAbs + 2 * w1n (pmk n (fun k => f (k + 1)))) + 2 ^ (n + 1) * (f (n + 1)).natAbs
    rw [ih, Nat.pow_succ]; grind
theorem ar7 {w Z a K : Nat} (b : w + Z ≤ a * Z) (p : a ≤ K) : w ≤ K * Z := by
  have := Nat.mul_le_mul_right Z p
  omega
theorem ar8 {w wl L k Z Zb Zc V : Nat} (low : wl + Z ≤ 2 ^ 8 * Z) (u : 2 ^ 8 * Z ≤ Zc) (split : w = wl + 2 ^ 8 * (L * Zb)) (hL : L ≤ k) (v : 2 ^ 8 * (k * Zb) = V) : w ≤ V + Zc := by
  have := Nat.mul_le_mul_right Zb hL
  omega
theorem xok_start {P : List Int} {d : Nat} {st : Int} (hp : pat P) (d8 : d ≤ 8) (h9 : pdb P (d + 1)) (L0 : pgt P d ≠ 0) (s1 : -30 ≤ st) (s2 : st ≤ 32) (hB : 2 ≤ -st → rcB P d (-st)) : xok (2 ^ ((256 - st).toNat * d) * w1n (Bl P d st)) d := by
  have ebd : ∀ i, i ≤ d → ebn st d i ≤ 32 * d := fun i hi => by
    unfold ebn
    split
    · have : st * ((d - i : Nat) : Int) ≤ 32 * ((d - i : Nat) : Int) := Int.mul_le_mul_of_nonneg_right s2 (by omega)
      omega
    · have : -st * (i : Int) ≤ 32 * (i : Int) := Int.mul_le_mul_of_nonneg_right (by omega) (by omega)
      omega
  by_cases c7 : d ≤ 7
  · have b := w1n_max _ (Bl_bd (N := 224) (st := st) (d := d) (pat_b hp) (fun i hi => by have := ebd i hi; omega))
    rw [Bl_len] at b
    have p : 2 ^ (d + 1) ≤ 2 ^ 8 := Nat.pow_le_pow_right (by decide) (by omega)
    refine xok_of (N := 286 * 7) (W := 2 ^ 8 * (15482880000000000 * 2 ^ 224)) d8 (Nat.mul_le_mul (by omega) c7) ?_ (of_decide_eq_true n7_t)
    exact ar7 b p
  · have e8 : d = 8 := by omega
    subst e8
    have b9 := pat_8 hp h9 L0
    by_cases c0 : 0 ≤ st
    · have b := w1n_max _ (Bl_bd (N := 256) (st := st) (d := 8) b9 (fun i hi => by have := ebd i hi; omega))
      rw [Bl_len] at b
      refine xok_of (N := 256 * 8) (W := 2 ^ 9 * (1000000000 * 2 ^ 256)) d8 (Nat.mul_le_mul_right _ (by omega)) ?_ (of_decide_eq_true n8a_t)
      exact ar7 b (Nat.le_refl _)
    · have eb : ∀ i : Nat, ebn st 8 i = (-st).toNat * i := fun i => by
        unfold ebn
        rw [if_neg c0, show -st = (((-st).toNat : Nat) : Int) by omega, ← Int.natCast_mul, Int.toNat_natCast, Int.toNat_natCast]
      by_cases c28 : -st ≤ 28
      · have b := w1n_max _ (Bl_bd (N := 224) (st := st) (d := 8) b9 (fun i hi => by
          rw [eb i]
          have : (-st).toNat * i ≤ 28 * 8 := Nat.mul_le_mul (by omega) hi
          omega))
        rw [Bl_len] at b
        refine xok_of (N := 284 * 8) (W := 2 ^ 9 * (1000000000 * 2 ^ 224)) d8 (Nat.mul_le_mul_right _ (by omega)) ?_ (of_decide_eq_true n8b_t)
        exact ar7 b (Nat.le_refl _)
      · obtain ⟨k, hk⟩ := hB (by omega)
        have bk := b9 k
        have split : w1n (Bl P 8 st) = w1n (pmk 8 (fun i => pgt P i * 2 ^ ebn st 8 i)) + 2 ^ 8 * (pgt P 8 * 2 ^ ebn st 8 8).natAbs := w1n_top 8 _
        have low := w1n_max (M := 1000000000 * 2 ^ ((-st).toNat * 7)) (pmk 8 (fun i => pgt P i * 2 ^ ebn st 8 i)) (fun i => by
          rw [pmk_gt]
          by_cases ci : i < 8
          · rw [if_pos ci, Int.natAbs_mul, Int.natAbs_pow]
            have p : (2 : Int).natAbs ^ ebn st 8 i ≤ 2 ^ ((-st).toNat * 7) := Nat.pow_le_pow_right (by decide) (by rw [eb i]; exact Nat.mul_le_mul_left _ (by omega))
            exact Nat.mul_le_mul (b9 i) p
          · rw [if_neg ci]; exact Nat.zero_le _)
        rw [pmk_len] at low
        have topb : (pgt P 8 * 2 ^ ebn st 8 8).natAbs = (pgt P 8).natAbs * 2 ^ ((-st).toNat * 8) := by
          rw [Int.natAbs_mul, Int.natAbs_pow, eb 8]; rfl
        rw [topb] at split
        by_cases c30 : st = -30
        · subst c30
          have L7 : (pgt P 8).natAbs ≤ 7 := by
            have hk' : ((pgt P 8).natAbs : Int) * 268435456 < 2 * ((pgt P k).natAbs : Int) := hk
            omega
          refine xok_of (N := 286 * 8) (W := 7 * 2 ^ 248 + 2 ^ 248) d8 (Nat.le_refl _) ?_ (of_decide_eq_true n8c_t)
          have low' : w1n (pmk 8 (fun i => pgt P i * 2 ^ ebn (-30) 8 i)) + 1000000000 * 2 ^ 210 ≤ 2 ^ 8 * (1000000000 * 2 ^ 210) := low
          have split' : w1n (Bl P 8 (-30)) = w1n (pmk 8 (fun i => pgt P i * 2 ^ ebn (-30) 8 i)) + 2 ^ 8 * ((pgt P 8).natAbs * 2 ^ 240) := split
          exact ar8 (k := 7) low' (by decide +kernel) split' L7 (by decide +kernel)
        · have e29 : st = -29 := by omega
          subst e29
          have L7 : (pgt P 8).natAbs ≤ 14 := by
            have hk' : ((pgt P 8).natAbs : Int) * 134217728 < 2 * ((pgt P k).natAbs : Int) := hk
            omega
          refine xok_of (N := 285 * 8) (W := 14 * 2 ^ 240 + 2 ^ 248) d8 (Nat.le_refl _) ?_ (of_decide_eq_true n8d_t)
          have low' : w1n (pmk 8 (fun i => pgt P i * 2 ^ ebn (-29) 8 i)) + 1000000000 * 2 ^ 203 ≤ 2 ^ 8 * (1000000000 * 2 ^ 203) := low
          have split' : w1n (Bl P 8 (-29)) = w1n (pmk 8 (fun i => pgt P i * 2 ^ ebn (-29) 8 i)) + 2 ^ 8 * ((pgt P 8).natAbs * 2 ^ 232) := split
          exact ar8 (k := 14) low' (by decide +kernel) split' L7 (by decide +kernel)
