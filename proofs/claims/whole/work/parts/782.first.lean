/-! THE FIRST POLYNOMIAL: its values, its size, and that 1 is no zero -/
/-- c over 2 to the power b -/
def xv (c b : Int) : Rat := if 0 ≤ b then (c : Rat) / 2 ^ b.toNat else c * 2 ^ (-b).toNat
def wR (st : Int) : Rat := xv 1 st
theorem q2p (n : Nat) : (0 : Rat) < 2 ^ n := rp_pos (by grind) n
theorem wR_pos (st : Int) : 0 < wR st := by
  unfold wR xv
  split
  · rw [rat_i1, Rat.div_def, Rat.one_mul]; exact Rat.inv_pos.2 (q2p _)
  · rw [rat_i1, Rat.one_mul]; exact q2p _
theorem xv_mul (c b : Int) : xv c b = c * wR b := by
  unfold wR xv
  split
  · rw [rat_i1, Rat.div_def, Rat.div_def, Rat.one_mul]
  · rw [rat_i1, Rat.one_mul]
theorem wR_s (b : Int) : wR b = 2 * wR (b + 1) := by
  unfold wR xv
  rw [rat_i1]
  by_cases c : 0 ≤ b
  · rw [if_pos c, if_pos (by omega), show (b + 1).toNat = b.toNat + 1 by omega, Rat.pow_succ]
    have := q2p b.toNat
    grind
  · rw [if_neg c]
    by_cases c2 : b = -1
    · subst c2; rw [if_pos (by decide)]; show (1 : Rat) * 2 ^ 1 = 2 * (1 / 2 ^ 0); grind
    · rw [if_neg (by omega), show (-b).toNat = (-(b + 1)).toNat + 1 by omega, Rat.pow_succ]; grind
theorem wR_t (st : Int) : ∀ t : Nat, wR st = 2 ^ t * wR (st + t)
  | 0 => by rw [show st + ((0 : Nat) : Int) = st by omega]; grind
  | t + 1 => by
    rw [wR_t st t, wR_s (st + t), Rat.pow_succ, show st + (t : Int) + 1 = st + ((t + 1 : Nat) : Int) by omega]; grind
theorem node_x (st c : Int) (t : Nat) : wR st * ((c : Rat) / 2 ^ t) = xv c (st + t) := by
  rw [xv_mul, wR_t st t]
  have := q2p t
  grind
theorem ev_sc : ∀ (n : Nat) (f : Nat → Int) (r : Int) (z : Rat), pev (pmk n (fun i => f i * r ^ i)) z = pev (pmk n f) (r * z)
  | 0, _, _, _ => rfl
  | n + 1, f, r, z => by
    rw [pev_mks, pev_mks]
    have e : pmk n (fun k => f (k + 1) * r ^ (k + 1)) = pmk n (fun k => r * (f (k + 1) * r ^ k)) := pmk_co (fun k _ => by rw [Int.pow_succ]; grind)
    rw [e, pev_sc n r (fun k => f (k + 1) * r ^ k) z, ev_sc n (fun k => f (k + 1)) r z]
    rw [show f 0 * r ^ 0 = f 0 by rw [Int.pow_zero, Int.mul_one]]
    grind
theorem ev_sd (r : Int) (hr : (r : Rat) ≠ 0) : ∀ (n : Nat) (f : Nat → Int) (z : Rat), pev (pmk (n + 1) (fun i => f i * r ^ (n - i))) z = r ^ n * pev (pmk (n + 1) f) (z / r)
  | 0, f, z => by
    show ((f 0 * r ^ 0 : Int) : Rat) + z * 0 = _ * ((f 0 : Rat) + z / r * 0)
    rw [Int.pow_zero, Int.mul_one]; grind
  | n + 1, f, z => by
    rw [pev_mks (n + 1) (fun i => f i * r ^ (n + 1 - i)) z, pev_mks (n + 1) f (z / r)]
    have e : pmk (n + 1) (fun k => f (k + 1) * r ^ (n + 1 - (k + 1))) = pmk (n + 1) (fun k => f (k + 1) * r ^ (n - k)) := pmk_co (fun k _ => by rw [show n + 1 - (k + 1) = n - k by omega])
    rw [e, ev_sd r hr n (fun k => f (k + 1)) z, Nat.sub_zero, Rat.intCast_mul, Rat.intCast_pow, Rat.pow_succ]
    grind
theorem Bl_ev {P : List Int} {d : Nat} {st : Int} (hP : pdb P (d + 1)) : ∃ ka : Rat, 0 < ka ∧ ∀ z : Rat, pev (Bl P d st) z = ka * pev P (wR st * z) := by
  by_cases c : 0 ≤ st
  · refine ⟨((2 ^ st.toNat : Int) : Rat) ^ d, ?_, fun z => ?_⟩
    · have : ((2 ^ st.toNat : Int) : Rat) = 2 ^ st.toNat := by rw [Rat.intCast_pow]; rfl
      rw [this]; exact rp_pos (q2p _) d
    · have e : Bl P d st = pmk (d + 1) (fun i => pgt P i * (2 ^ st.toNat) ^ (d - i)) := pmk_co (fun i hi => by
        unfold ebn
        rw [if_pos c, ← Int.pow_mul]
        congr 2
        rw [show st = ((st.toNat : Nat) : Int) by omega, ← Int.natCast_mul, Int.toNat_natCast, Int.toNat_natCast])
      have r2 : ((2 ^ st.toNat : Int) : Rat) = 2 ^ st.toNat := by rw [Rat.intCast_pow]; rfl
      have p := q2p st.toNat
      rw [e, ev_sd _ (by rw [r2]; grind), pdb_ev hP]
      congr 2
      unfold wR xv
      rw [if_pos c, rat_i1, r2, Rat.div_def, Rat.div_def, Rat.one_mul, Rat.mul_comm]
  · refine ⟨1, by grind, fun z => ?_⟩
    have e : Bl P d st = pmk (d + 1) (fun i => pgt P i * (2 ^ (-st).toNat) ^ i) := pmk_co (fun i hi => by
      unfold ebn
      rw [if_neg c, ← Int.pow_mul]
      congr 2
      rw [show -st = (((-st).toNat : Nat) : Int) by omega, ← Int.natCast_mul, Int.toNat_natCast, Int.toNat_natCast])
    have r2 : ((2 ^ (-st).toNat : Int) : Rat) = 2 ^ (-st).toNat := by rw [Rat.intCast_pow]; rfl
    rw [e, ev_sc, pdb_ev hP, Rat.one_mul]
    congr 1
    unfold wR xv
    rw [if_neg c, rat_i1, r2, Rat.one_mul]
/-! 1 is no zero -/
def rcl (L : Nat) : List Int → Prop
  | [] => False
  | [a] => a.natAbs = L
  | x :: y :: p => x.natAbs * 2 ^ (p.length + 1) < L ∧ rcl L (y :: p)
theorem rcl_ev {L : Nat} : ∀ B : List Int, rcl L B → L ≤ 2 ^ (B.length - 1) * (phv 1 B).natAbs
  | [], h => h.elim
  | [a], h => by
    show L ≤ 2 ^ 0 * (a + 1 * 0).natAbs
    have h' : a.natAbs = L := h
    rw [Nat.pow_zero, Nat.one_mul]; omega
  | x :: y :: p, h => by
    have ih := rcl_ev (y :: p) h.2
    have h1 := h.1
    show L ≤ 2 ^ (p.length + 1) * (x + 1 * phv 1 (y :: p)).natAbs
    have ih' : L ≤ 2 ^ p.length * (phv 1 (y :: p)).natAbs := ih
    rw [Int.one_mul]
    generalize phv 1 (y :: p) = v at ih'
    have e : 2 ^ (p.length + 1) * (x + v).natAbs + x.natAbs * 2 ^ (p.length + 1) ≥ 2 ^ (p.length + 1) * v.natAbs := by
      rw [Nat.mul_comm x.natAbs, ← Nat.mul_add]
      exact Nat.mul_le_mul_left _ (by omega)
    have e2 : 2 ^ (p.length + 1) * v.natAbs = 2 * (2 ^ p.length * v.natAbs) := by rw [Nat.pow_succ]; grind
    omega
theorem rcl_mk {f : Nat → Int} : ∀ (d : Nat), (∀ i, 1 ≤ i → i ≤ d → (f (d - i)).natAbs * 2 ^ i < (f d).natAbs) → rcl (f d).natAbs (pmk (d + 1) f)
  | 0, _ => rfl
  | d + 1, h => by
    have ih := rcl_mk (f := fun k => f (k + 1)) d (fun i i1 i2 => by
      have := h i i1 (by omega)
      rw [show d + 1 - i = d - i + 1 by omega] at this
      exact this)
    have h0 := h (d + 1) (by omega) (Nat.le_refl _)
    rw [Nat.sub_self] at h0
    show (f 0).natAbs * 2 ^ ((pmk d (fun k => f (k + 1 + 1))).length + 1) < _ ∧ _
    rw [pmk_len]
    exact ⟨h0, ih⟩
theorem pat_end {P : List Int} (h : pat P) : pev P ((1073741824 : Int) : Rat) ≠ 0 := by
  obtain ⟨A, Q, e, a9, a0, ab⟩ := h
  have go : ∀ A : List Int, pab A 1000000000 → (∃ k, pgt A k ≠ 0) → phv 1073741824 A ≠ 0 := by
    intro A
    induction A with
    | nil => intro _ h; obtain ⟨k, hk⟩ := h; exact absurd rfl hk
    | cons x p ih =>
      intro hb h0
      show x + 1073741824 * phv 1073741824 p ≠ 0
      have bx : x.natAbs ≤ 1000000000 := hb 0
      by_cases c : ∃ k, pgt p k ≠ 0
      · have := ih (fun k => hb (k + 1)) c
        omega
      · have z : ∀ k, pgt p k = 0 := fun k => Classical.byContradiction fun q => c ⟨k, q⟩
        rw [phv_z _ p z]
        obtain ⟨k, hk⟩ := h0
        cases k with
        | zero => have : pgt (x :: p) 0 = x := rfl; rw [this] at hk; omega
        | succ k => exact absurd (z k) hk
  have ne := go A ab a0
  intro hz
  have := e ((1073741824 : Int) : Rat)
  rw [hz, Rat.zero_mul, phv_ev] at this
  exact ne (Rat.intCast_inj.1 (this.trans rat_i0.symm))
theorem B_end {P : List Int} {d : Nat} {st : Int} (hP : pdb P (d + 1)) (L0 : pgt P d ≠ 0) (hp : pat P) (s1 : -30 ≤ st) (s2 : st ≤ 32) (hA : -st < 30 → ∀ i, 1 ≤ i → i ≤ d → rcA P d (-st) i) : pev (Bl P d st) 1 ≠ 0 := by
  by_cases c : -st < 30
  · have rc : rcl (pgt P d * 2 ^ ebn st d d).natAbs (Bl P d st) := rcl_mk (f := fun i => pgt P i * 2 ^ ebn st d i) d (fun i i1 i2 => by
      have h := hA c i i1 i2
      unfold rcA at h
      show (pgt P (d - i) * 2 ^ ebn st d (d - i)).natAbs * 2 ^ i < (pgt P d * 2 ^ ebn st d d).natAbs
      have cast : ∀ (x : Int) (n : Nat), (((x * 2 ^ n).natAbs : Nat) : Int) = (x.natAbs : Int) * 2 ^ n := fun x n => by
        rw [Int.natAbs_mul, Int.natCast_mul, Int.natAbs_pow, Int.natCast_pow]; rfl
      have goal : (((pgt P (d - i) * 2 ^ ebn st d (d - i)).natAbs * 2 ^ i : Nat) : Int) < (((pgt P d * 2 ^ ebn st d d).natAbs : Nat) : Int) := by
        rw [Int.natCast_mul, cast, cast, Int.natCast_pow]
        show ((pgt P (d - i)).natAbs : Int) * 2 ^ ebn st d (d - i) * 2 ^ i < ((pgt P d).natAbs : Int) * 2 ^ ebn st d d
        unfold ebn
        by_cases c0 : 0 ≤ st
        · rw [if_pos c0, if_pos c0, Nat.sub_self, show d - (d - i) = i by omega]
          have e1 : (-(-st * (i : Int))).toNat = (st * (i : Int)).toNat := by congr 1; grind
          have n1 : 0 ≤ st * (i : Int) := Int.mul_nonneg c0 (by omega)
          have e2 : (-st * (i : Int)).toNat = 0 := by rw [Int.neg_mul]; omega
          rw [e1, e2] at h
          have e3 : (st * ((0 : Nat) : Int)).toNat = 0 := by show (st * 0).toNat = 0; rw [Int.mul_zero]; rfl
          rw [e3]
          have : ((pgt P (d - i)).natAbs : Int) * 2 ^ (st * (i : Int)).toNat * 2 ^ i = ((pgt P (d - i)).natAbs : Int) * 2 ^ i * 2 ^ (st * (i : Int)).toNat := by grind
          omega
        · rw [if_neg c0, if_neg c0]
          have n1 : 0 ≤ -st * (i : Int) := Int.mul_nonneg (by omega) (by omega)
          have e2 : (-(-st * (i : Int))).toNat = 0 := by omega
          rw [e2, Int.pow_zero, Int.mul_one] at h
          have n2 : 0 ≤ -st * ((d - i : Nat) : Int) := Int.mul_nonneg (by omega) (by omega)
          have e4 : (-st * (d : Int)).toNat = (-st * ((d - i : Nat) : Int)).toNat + (-st * (i : Int)).toNat := by
            have : -st * (d : Int) = -st * ((d - i : Nat) : Int) + -st * (i : Int) := by
              rw [← Int.mul_add]; congr 1; omega
            omega
          rw [e4, Int.pow_add]
          have g := Int.mul_lt_mul_of_pos_right h (p2p (-st * ((d - i : Nat) : Int)).toNat)
          have x1 : ((pgt P (d - i)).natAbs : Int) * 2 ^ i * 2 ^ (-st * ((d - i : Nat) : Int)).toNat = ((pgt P (d - i)).natAbs : Int) * 2 ^ (-st * ((d - i : Nat) : Int)).toNat * 2 ^ i := by grind
          have x2 : ((pgt P d).natAbs : Int) * 2 ^ (-st * (i : Int)).toNat * 2 ^ (-st * ((d - i : Nat) : Int)).toNat = ((pgt P d).natAbs : Int) * (2 ^ (-st * ((d - i : Nat) : Int)).toNat * 2 ^ (-st * (i : Int)).toNat) := by grind
          omega
      omega)
    have h := rcl_ev _ rc
    have Lp : 1 ≤ (pgt P d * 2 ^ ebn st d d).natAbs := by
      have := Int.mul_ne_zero L0 (Int.ne_of_gt (p2p (ebn st d d)))
      omega
    intro z
    have z2 : pev (Bl P d st) ((1 : Int) : Rat) = 0 := z
    rw [phv_ev] at z2
    have z3 := Rat.intCast_inj.1 (z2.trans rat_i0.symm)
    rw [z3] at h
    have : 2 ^ ((Bl P d st).length - 1) * (0 : Int).natAbs = 0 := Nat.mul_zero _
    omega
  · have : st = -30 := by omega
    subst this
    obtain ⟨ka, k0, hk⟩ := Bl_ev (st := -30) hP
    rw [hk 1]
    have w : wR (-30) * 1 = ((1073741824 : Int) : Rat) := by
      have : wR (-30) = 1 * 2 ^ 30 := rfl
      have e : (1073741824 : Int) = 2 ^ 30 := by decide
      have e2 : ((2 : Int) : Rat) = 2 := rfl
      rw [this, e, Rat.intCast_pow, e2]; grind
    rw [w]
    intro z
    rcases Rat.mul_eq_zero.1 z with q | q
    · grind
    · exact pat_end hp q
