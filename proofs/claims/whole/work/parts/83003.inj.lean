/-! THE TWO DERIVATIVES OF A FORM WITHOUT DOUBLE ROOTS have no common divisor -/
theorem cons0_pdb {V : List Int} {m : Nat} (h : pdb V m) : pdb (0 :: V) (m + 1) := fun k hk => by
  cases k with
  | zero => rfl
  | succ k => exact h k (by omega)
theorem cons0_ev (V : List Int) (x : Rat) : pev (0 :: V) x = x * pev V x := by
  show ((0 : Int) : Rat) + x * pev V x = _
  rw [rat_i0, Rat.zero_add]
theorem m1_ev (P : List Int) (x : Rat) : pev (psm (-1) P) x = - pev P x := by
  rw [psm_ev, show ((-1 : Int) : Rat) = -1 from rfl]
  grind
theorem injF_P {m : Nat} {P : List Int} (hP : pdb P (m + 2)) (top : pgt P (m + 1) ≠ 0) (sq : sqf P) : injF m P := by
  intro U V hU hV h
  obtain ⟨c, u, v, c0, hc⟩ := sq
  obtain ⟨D, hD⟩ : ∃ D, D = padd U (psm (-1) (0 :: V)) := ⟨_, rfl⟩
  have dD : pdb D (m + 1) := by rw [hD]; exact pdb_add (pdb_mono hU (by omega)) (pdb_sm (cons0_pdb hV))
  have eD : ∀ x : Rat, pev D x = pev U x - x * pev V x := fun x => by
    rw [hD, padd_ev, m1_ev, cons0_ev, Rat.sub_eq_add_neg]
  have rel : ∀ x : Rat, pev D x * pev (pdl P) x = -(((m : Rat) + 1) * (pev V x * pev P x)) := fun x => by
    have a := h x
    rw [gfx_ev hP x] at a
    rw [eD]
    generalize pev U x = U' at a ⊢
    generalize pev V x = V' at a ⊢
    generalize pev P x = P' at a ⊢
    generalize pev (pdl P) x = F' at a ⊢
    grind
  obtain ⟨K, hK⟩ : ∃ K, K = padd (pmul D u) (psm (-((m : Int) + 1)) (pmul v V)) := ⟨_, rfl⟩
  have eK : ∀ x : Rat, pev K x * pev P x = pev (psm c D) x := fun x => by
    rw [hK, padd_ev, pmul_ev, psm_ev, pmul_ev, psm_ev]
    have a := rel x
    have b := hc x
    rw [Rat.intCast_neg, Rat.intCast_add, rat_i1, Rat.intCast_natCast]
    generalize pev D x = D' at a ⊢
    generalize pev V x = V' at a ⊢
    generalize pev P x = P' at a b ⊢
    generalize pev (pdl P) x = F' at a b
    generalize pev u x = u' at b ⊢
    generalize pev v x = v' at b ⊢
    generalize (c : Rat) = C at b ⊢
    generalize (m : Rat) = M at a ⊢
    have z : v' * (D' * F') = v' * (-((M + 1) * (V' * P'))) := by rw [a]
    rw [b]
    grind
  have zK : pdb K 0 := dcan (Z := K) (A := P) (T := psm c D) (a := m + 1) eK hP top (pdb_sm dD)
  have zD : ∀ x : Rat, pev D x = 0 := fun x => by
    have a := eK x
    rw [pev_eq (R := []) (fun k => zK k (by omega)) x] at a
    rw [psm_ev] at a
    have b : (c : Rat) * pev D x = 0 := by
      rw [← a]
      show (0 : Rat) * pev P x = 0
      rw [Rat.zero_mul]
    rcases Rat.mul_eq_zero.1 b with q | q
    · exact absurd (Rat.intCast_eq_zero_iff.1 q) c0
    · exact q
  have VP : ∀ x : Rat, pev V x * pev P x = pev [] x := fun x => by
    have a := rel x
    rw [zD x, Rat.zero_mul] at a
    show _ = (0 : Rat)
    have n : ((m : Rat) + 1) ≠ 0 := by
      have := rat_nn m
      grind
    have b : ((m : Rat) + 1) * (pev V x * pev P x) = 0 := by grind
    rcases Rat.mul_eq_zero.1 b with q | q
    · exact absurd q n
    · exact q
  have zV : pdb V 0 := dcan (Z := V) (A := P) (T := []) (a := m + 1) VP hP top (fun k _ => rfl)
  have zV' : ∀ k, pgt V k = 0 := fun k => zV k (by omega)
  refine ⟨fun k => pev_zero (fun x => ?_) k, zV'⟩
  have a := zD x
  rw [eD, pev_eq (R := []) zV' x] at a
  rw [show pev [] x = 0 from rfl, Rat.mul_zero, Rat.sub_eq_add_neg, show -(0 : Rat) = 0 from rfl, Rat.add_zero] at a
  exact a
/-! turned round -/
def rvl (n : Nat) (A : List Int) : List Int := pmk (n + 1) (fun j => pgt A (n - j))
theorem rvl_ev {n : Nat} {A : List Int} (hA : pdb A (n + 1)) {s : Rat} (hs : s ≠ 0) : pev (rvl n A) s = s ^ n * pev A (1 / s) := by
  have e : pev (rvl n A) s = pev (pmk (n + 1) (pgt A)).reverse s := pev_eq (fun k => by
    unfold rvl
    rw [pmk_gt]
    by_cases c : k < n + 1
    · rw [if_pos c, rev_gt _ _ (by rw [pmk_len]; exact c), pmk_len, pmk_gt, if_pos (by omega), Nat.add_sub_cancel]
    · rw [if_neg c, pgt_hi _ _ (by rw [List.length_reverse, pmk_len]; omega)]) s
  have r := rev_ev hs (pmk (n + 1) (pgt A))
  rw [pmk_len, pdb_ev hA, Rat.pow_succ] at r
  rw [e]
  generalize pev (pmk (n + 1) (pgt A)).reverse s = X at r ⊢
  generalize pev A (1 / s) = Y at r ⊢
  generalize s ^ n = T at r ⊢
  have z : s * (X - T * Y) = 0 := by grind
  rcases Rat.mul_eq_zero.1 z with q | q
  · exact absurd q hs
  · grind
theorem rvl_pdb (n : Nat) (A : List Int) : pdb (rvl n A) (n + 1) := by
  have := pdb_len (rvl n A)
  unfold rvl at this ⊢
  rw [pmk_len] at this
  exact this
theorem rvl_gt {n : Nat} {A : List Int} {k : Nat} (h : k ≤ n) : pgt (rvl n A) k = pgt A (n - k) := by
  unfold rvl
  rw [pmk_gt, if_pos (by omega)]
theorem rvl_ab {n H : Nat} {A : List Int} (h : pab A H) : pab (rvl n A) H := fun k => by
  unfold rvl
  rw [pmk_gt]
  split
  · exact h _
  · exact Nat.zero_le _
theorem zero_nz {A : List Int} (h : ∀ x : Rat, x ≠ 0 → pev A x = 0) (k : Nat) : pgt A k = 0 := pev_roots A.length A (fun i => (i : Int) + 1) (Nat.le_refl _) (fun i j _ _ e => by omega) (fun i _ => h _ (by
  intro z
  have z2 : ((i : Int) + 1) = 0 := Rat.intCast_eq_zero_iff.1 z
  omega)) k
theorem rvl_d {m : Nat} {P : List Int} (hP : pdb P (m + 2)) (k : Nat) : pgt (pdl (rvl (m + 1) P)) k = pgt (rvl m (gfx m P)) k := by
  rw [pdl_gt]
  by_cases c : k ≤ m
  · rw [rvl_gt (by omega), rvl_gt c]
    unfold gfx
    rw [pmk_gt, if_pos (by omega), show m + 1 - (k + 1) = m - k by omega]
    have e : ((m - k : Nat) : Int) = (m : Int) - (k : Int) := by omega
    rw [e, Int.mul_comm]
    congr 1
    omega
  · rw [rvl_pdb (m + 1) P (k + 1) (by omega), rvl_pdb m (gfx m P) k (by omega), Int.zero_mul]
theorem rvl_g {m : Nat} {P : List Int} (hP : pdb P (m + 2)) (k : Nat) : pgt (gfx m (rvl (m + 1) P)) k = pgt (rvl m (pdl P)) k := by
  by_cases c : k ≤ m
  · rw [rvl_gt c, pdl_gt]
    unfold gfx
    rw [pmk_gt, if_pos (by omega), rvl_gt (by omega), show m + 1 - k = m - k + 1 by omega]
    have e : ((m - k : Nat) : Int) = (m : Int) - (k : Int) := by omega
    rw [e, Int.mul_comm]
    congr 1
    omega
  · rw [rvl_pdb m (pdl P) k (by omega)]
    unfold gfx
    rw [pmk_gt, if_neg (by omega)]
theorem gfx_pdb (m : Nat) (P : List Int) : pdb (gfx m P) (m + 1) := by
  have := pdb_len (gfx m P)
  unfold gfx at this ⊢
  rw [pmk_len] at this
  exact this
theorem pdl_pdb {m : Nat} {P : List Int} (hP : pdb P (m + 2)) : pdb (pdl P) (m + 1) := fun k hk => by rw [pdl_gt, hP (k + 1) (by omega), Int.zero_mul]
theorem injF_r {m : Nat} {P : List Int} (m1 : 1 ≤ m) (hP : pdb P (m + 2)) (h : injF m P) : injF m (rvl (m + 1) P) := by
  intro U V hU hV hz
  obtain ⟨n, hn⟩ : ∃ n, m = n + 1 := ⟨m - 1, by omega⟩
  have hU' : pdb U (n + 1) := by rw [← hn]; exact hU
  have hV' : pdb V (n + 1) := by rw [← hn]; exact hV
  have key : ∀ x : Rat, x ≠ 0 → pev (padd (pmul (rvl n V) (pdl P)) (pmul (rvl n U) (gfx m P))) x = 0 := fun x hx => by
    have ix : (1 / x : Rat) ≠ 0 := fun z => by
      have : (1 / x) * x = 1 := Rat.div_mul_cancel hx
      rw [z, Rat.zero_mul] at this
      exact absurd this (by decide)
    have xx : (1 : Rat) / (1 / x) = x := by grind
    have a := hz (1 / x)
    rw [pev_eq (rvl_d hP), pev_eq (rvl_g hP), rvl_ev (gfx_pdb m P) ix, rvl_ev (pdl_pdb hP) ix, xx] at a
    rw [padd_ev, pmul_ev, pmul_ev, rvl_ev hU' hx, rvl_ev hV' hx]
    have ip : (1 / x : Rat) ^ m * x ^ m = 1 := by
      have : ∀ k : Nat, (1 / x : Rat) ^ k * x ^ k = 1 := fun k => by
        induction k with
        | zero => grind
        | succ k ih =>
          rw [Rat.pow_succ, Rat.pow_succ]
          have q : (1 / x) * x = 1 := Rat.div_mul_cancel hx
          generalize (1 / x : Rat) = y at q ih ⊢
          have : y ^ k * y * (x ^ k * x) = (y ^ k * x ^ k) * (y * x) := by grind
          rw [this, ih, q, Rat.mul_one]
      exact this m
    generalize pev U (1 / x) = U' at a ⊢
    generalize pev V (1 / x) = V' at a ⊢
    generalize pev (pdl P) x = F' at a ⊢
    generalize pev (gfx m P) x = G' at a ⊢
    generalize (1 / x : Rat) ^ m = y at a ip
    generalize x ^ m = z at ip
    have b : U' * G' + V' * F' = 0 := by
      have : (U' * (y * G') + V' * (y * F')) * z = (U' * G' + V' * F') * (y * z) := by grind
      rw [a, ip, Rat.zero_mul, Rat.mul_one] at this
      exact this.symm
    have c : x ^ n * V' * F' + x ^ n * U' * G' = x ^ n * (U' * G' + V' * F') := by
      generalize x ^ n = w
      grind
    rw [c, b, Rat.mul_zero]
  have z0 := zero_nz key
  have r := h (rvl n V) (rvl n U) (by rw [hn]; exact rvl_pdb n V) (by rw [hn]; exact rvl_pdb n U) (fun x => by
    have a := pev_eq (R := []) z0 x
    rw [padd_ev, pmul_ev, pmul_ev] at a
    exact a)
  have back : ∀ A : List Int, pdb A (n + 1) → (∀ k, pgt (rvl n A) k = 0) → ∀ k, pgt A k = 0 := fun A hA hr k => by
    by_cases c : k ≤ n
    · have a := hr (n - k)
      rw [rvl_gt (by omega), show n - (n - k) = k by omega] at a
      exact a
    · exact hA k (by omega)
  exact ⟨back U hU' r.2, back V hV' r.1⟩
/-! the tables -/
theorem tab_7 : tabP 7 1000000000 (2 ^ 256 * 2 ^ 256) := by unfold tabP; decide +kernel
theorem tab_6 : tabP 6 8000000000 (2 ^ 256 * 2 ^ 256) := by unfold tabP; decide +kernel
theorem tab_n : ∀ m, 1 ≤ m → m ≤ 5 → tabP m 310000000000 (2 ^ 256 * 2 ^ 256) := by
  intro m h1 h5
  have : m = 1 ∨ m = 2 ∨ m = 3 ∨ m = 4 ∨ m = 5 := by omega
  unfold tabP
  rcases this with q | q | q | q | q <;> subst q <;> decide +kernel
