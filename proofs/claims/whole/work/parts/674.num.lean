/-! IN NUMBERS -/
theorem rpow_ge1 {X : Rat} (h : 1 ≤ X) : ∀ n : Nat, 1 ≤ X ^ n
  | 0 => by grind
  | n + 1 => by
    have a := rpow_ge1 h n
    rw [Rat.pow_succ]
    have : 0 ≤ (X ^ n - 1) * (X - 1) := Rat.mul_nonneg (by grind) (by grind)
    grind
theorem nat_rle {a b : Nat} (h : a ≤ b) : (a : Rat) ≤ (b : Rat) := Rat.natCast_le_natCast.2 h
theorem b0_num {H : Nat} {X : Rat} (hX : 1 ≤ X) : ∀ (n : Nat) (P : List Int), P.length ≤ n + 1 → pab P H → b0 P X ≤ ((n + 1 : Nat) : Rat) * (H : Rat) * X ^ n
  | n, [], _, _ => by
    show (0 : Rat) ≤ _
    have := rpow_ge1 hX n
    exact Rat.mul_nonneg (Rat.mul_nonneg (rat_nn _) (rat_nn _)) (by grind)
  | 0, a :: p, h, hp => by
    have e : p = [] := List.eq_nil_of_length_eq_zero (by simp only [List.length_cons] at h; omega)
    subst e
    show (a.natAbs : Rat) + X * 0 ≤ _
    have := nat_rle (hp 0)
    have e1 : ((0 + 1 : Nat) : Rat) = 1 := rfl
    rw [e1]
    have e2 : (pgt [a] 0).natAbs = a.natAbs := rfl
    rw [e2] at this
    grind
  | n + 1, a :: p, h, hp => by
    have ih := b0_num hX n p (by simp at h; omega) (fun k => hp (k + 1))
    have ha := nat_rle (hp 0)
    have e2 : (pgt (a :: p) 0).natAbs = a.natAbs := rfl
    rw [e2] at ha
    have H0 := rat_nn H
    have p1 := rpow_ge1 hX (n + 1)
    have m1 : 0 ≤ X * (((n + 1 : Nat) : Rat) * (H : Rat) * X ^ n - b0 p X) := Rat.mul_nonneg (by grind) (by grind)
    have m2 : 0 ≤ (H : Rat) * (X ^ (n + 1) - 1) := Rat.mul_nonneg H0 (by grind)
    show (a.natAbs : Rat) + X * b0 p X ≤ _
    rw [rat_s (n + 1)]
    rw [Rat.pow_succ] at m2 ⊢
    grind
theorem b1_num {H : Nat} {X : Rat} (hX : 1 ≤ X) : ∀ (n : Nat) (P : List Int), P.length ≤ n + 2 → pab P H → b1 P X ≤ ((n + 2 : Nat) : Rat) * ((n + 2 : Nat) : Rat) * (H : Rat) * X ^ n
  | n, [], _, _ => by
    show (0 : Rat) ≤ _
    have := rpow_ge1 hX n
    exact Rat.mul_nonneg (Rat.mul_nonneg (Rat.mul_nonneg (rat_nn _) (rat_nn _)) (rat_nn _)) (by grind)
  | n, a :: p, h, hp => by
    have i0 := b0_num hX n p (by simp at h; omega) (fun k => hp (k + 1))
    have H0 := rat_nn H
    have pn := rpow_ge1 hX n
    have HX : 0 ≤ (H : Rat) * X ^ n := Rat.mul_nonneg H0 (by grind)
    have nX := Rat.mul_nonneg (rat_nn n) HX
    have nnX := Rat.mul_nonneg (rat_nn n) nX
    show b0 p X + X * b1 p X ≤ _
    have e1 : ((n + 1 : Nat) : Rat) = (n : Rat) + 1 := rat_s n
    have e2 : ((n + 2 : Nat) : Rat) = (n : Rat) + 2 := by rw [show n + 2 = (n + 1) + 1 from rfl, rat_s, rat_s]; grind
    rw [e1] at i0
    cases n with
    | zero =>
      have z : b1 p X = 0 := by
        cases p with
        | nil => rfl
        | cons b q =>
          have e : q = [] := List.eq_nil_of_length_eq_zero (by simp only [List.length_cons] at h; omega)
          subst e
          show (0 : Rat) + X * 0 = 0
          grind
      rw [z, e2]
      have e0 : ((0 : Nat) : Rat) = 0 := rfl
      rw [e0] at *
      grind
    | succ n =>
      have i1 := b1_num hX n p (by simp at h; omega) (fun k => hp (k + 1))
      have m1 : 0 ≤ X * (((n + 2 : Nat) : Rat) * ((n + 2 : Nat) : Rat) * (H : Rat) * X ^ n - b1 p X) := Rat.mul_nonneg (by grind) (by grind)
      have e3 : ((n + 2 : Nat) : Rat) = ((n + 1 : Nat) : Rat) + 1 := rat_s (n + 1)
      rw [e3] at m1
      rw [e2]
      rw [Rat.pow_succ] at *
      grind
theorem b2_z {X : Rat} : ∀ P : List Int, P.length ≤ 2 → b2 P X = 0
  | [], _ => rfl
  | [a], _ => by show (0 : Rat) + X * 0 = 0; grind
  | [a, b], _ => by show ((0 : Rat) + X * 0) + X * (0 + X * 0) = 0; grind
  | _ :: _ :: _ :: _, h => by simp at h
theorem b2_num {H : Nat} {X : Rat} (hX : 1 ≤ X) : ∀ (n : Nat) (P : List Int), P.length ≤ n + 3 → pab P H → b2 P X ≤ ((n + 3 : Nat) : Rat) * ((n + 3 : Nat) : Rat) * ((n + 3 : Nat) : Rat) * (H : Rat) * X ^ n
  | n, [], _, _ => by
    show (0 : Rat) ≤ _
    have := rpow_ge1 hX n
    exact Rat.mul_nonneg (Rat.mul_nonneg (Rat.mul_nonneg (Rat.mul_nonneg (rat_nn _) (rat_nn _)) (rat_nn _)) (rat_nn _)) (by grind)
  | n, a :: p, h, hp => by
    have i0 := b1_num hX n p (by simp at h; omega) (fun k => hp (k + 1))
    have H0 := rat_nn H
    have pn := rpow_ge1 hX n
    have HX : 0 ≤ (H : Rat) * X ^ n := Rat.mul_nonneg H0 (by grind)
    have nX := Rat.mul_nonneg (rat_nn n) HX
    have nnX := Rat.mul_nonneg (rat_nn n) nX
    have nnnX := Rat.mul_nonneg (rat_nn n) nnX
    show b1 p X + X * b2 p X ≤ _
    have e2 : ((n + 2 : Nat) : Rat) = (n : Rat) + 2 := by rw [show n + 2 = (n + 1) + 1 from rfl, rat_s, rat_s]; grind
    have e3 : ((n + 3 : Nat) : Rat) = (n : Rat) + 3 := by rw [show n + 3 = (n + 2) + 1 from rfl, rat_s, e2]; grind
    rw [e2] at i0
    cases n with
    | zero =>
      have z : b2 p X = 0 := b2_z p (by simp at h; omega)
      rw [z, e3]
      have e0 : ((0 : Nat) : Rat) = 0 := rfl
      rw [e0] at *
      grind
    | succ n =>
      have i1 := b2_num hX n p (by simp at h; omega) (fun k => hp (k + 1))
      have m1 : 0 ≤ X * (((n + 3 : Nat) : Rat) * ((n + 3 : Nat) : Rat) * ((n + 3 : Nat) : Rat) * (H : Rat) * X ^ n - b2 p X) := Rat.mul_nonneg (by grind) (by grind)
      have e4 : ((n + 3 : Nat) : Rat) = ((n + 1 : Nat) : Rat) + 2 := by rw [show n + 3 = (n + 1) + 1 + 1 from rfl, rat_s, rat_s]; grind
      rw [e4] at m1
      rw [e3]
      rw [Rat.pow_succ] at *
      grind
/-- far from 0 a polynomial read from a text is not small -/
theorem root_far {x : Rat} (hx : 2147483648 ≤ x ∨ x ≤ -2147483648) : ∀ P : List Int, 1 ≤ P.length → lnz P → pab P 1000000000 → 1 ≤ pev P x ∨ pev P x ≤ -1
  | [], h, _, _ => by simp at h
  | [a], _, h, _ => by
    have a0 : a ≠ 0 := h 0 rfl
    have e : pev [a] x = (a : Rat) := by
      show (a : Rat) + x * 0 = _
      grind
    rw [e]
    rcases (by omega : 1 ≤ a ∨ a ≤ -1) with q | q
    · left
      have := Rat.intCast_le_intCast.2 q
      rw [rat_i1] at this
      exact this
    · right
      have := Rat.intCast_le_intCast.2 q
      have e2 : ((-1 : Int) : Rat) = -1 := rfl
      rw [e2] at this
      exact this
  | a :: b :: p, _, h, hp => by
    have ih := root_far hx (b :: p) (by simp) (fun n hn => h (n + 1) (by simp at hn ⊢; omega)) (fun k => hp (k + 1))
    have ha : -1000000000 ≤ a ∧ a ≤ 1000000000 := by
      have := hp 0
      have e : (pgt (a :: b :: p) 0) = a := rfl
      rw [e] at this
      omega
    have a1 := Rat.intCast_le_intCast.2 ha.1
    have a2 := Rat.intCast_le_intCast.2 ha.2
    have c1 : ((1000000000 : Int) : Rat) = 1000000000 := rfl
    have c2 : ((-1000000000 : Int) : Rat) = -1000000000 := rfl
    rw [c2] at a1
    rw [c1] at a2
    show 1 ≤ (a : Rat) + x * pev (b :: p) x ∨ (a : Rat) + x * pev (b :: p) x ≤ -1
    generalize pev (b :: p) x = y at ih ⊢
    rcases hx with hx | hx
    · rcases ih with q | q
      · left
        have : 0 ≤ (x - 2147483648) * (y - 1) := Rat.mul_nonneg (by grind) (by grind)
        grind
      · right
        have : 0 ≤ (x - 2147483648) * (-1 - y) := Rat.mul_nonneg (by grind) (by grind)
        grind
    · rcases ih with q | q
      · right
        have : 0 ≤ (-2147483648 - x) * (y - 1) := Rat.mul_nonneg (by grind) (by grind)
        grind
      · left
        have : 0 ≤ (-2147483648 - x) * (-1 - y) := Rat.mul_nonneg (by grind) (by grind)
        grind
/-- small multiples of O and O' that make a number -/
theorem sqf_small {O : List Int} {d H : Nat} (hd : O.length = d + 1) (d1 : 1 ≤ d) (d8 : d ≤ 8) (lO : lnz O) (hs : sqf O) (HO : pab O H) (H1 : 1 ≤ H) : ∃ (U V : List Int) (s : Int), s ≠ 0 ∧ U.length = d - 1 ∧ V.length = d ∧ pab U (((2 * d - 1) * (8 * H)) ^ (2 * d - 2)) ∧ pab V (((2 * d - 1) * (8 * H)) ^ (2 * d - 2)) ∧ ∀ x : Rat, (s : Rat) = pev U x * pev O x + pev V x * pev (pdl O) x := by
  have Od : pdb O (d + 1) := pdb_mono (pdb_len O) (by omega)
  have pdL : (pdl O).length = d := by
    have : (pdl O).length = O.length - 1 := pmk_len _ _
    omega
  have Dd : pdb (pdl O) d := pdb_mono (pdb_len _) (by omega)
  have rbd : ∀ k i, (rcf O (pdl O) (d - 1) k i).natAbs ≤ 8 * H := by
    intro k i
    unfold rcf
    split
    · split
      · show (0 : Int).natAbs ≤ _; omega
      · have := HO (k - i); omega
    · split
      · show (0 : Int).natAbs ≤ _; omega
      · rw [pdl_gt]
        by_cases c : k - (i - (d - 1)) < 8
        · rw [Int.natAbs_mul]
          have a := HO (k - (i - (d - 1)) + 1)
          have : (pgt O (k - (i - (d - 1)) + 1)).natAbs * (((k - (i - (d - 1)) : Nat) : Int) + 1).natAbs ≤ H * 8 := Nat.mul_le_mul a (by omega)
          omega
        · rw [pgt_hi O _ (by omega), Int.zero_mul]
          show (0 : Int).natAbs ≤ _
          omega
  obtain ⟨z, ⟨i0, hi0, hz0⟩, hzb, hze⟩ := siegel (E := 2 * d - 2) (A := 8 * H) (fun e i => rcf O (pdl O) (d - 1) (1 + e) i) (by omega) (fun e i _ _ => rbd (1 + e) i)
  rw [show 2 * d - 2 + 1 = 2 * d - 1 by omega] at hi0 hzb hze
  have Sz : ∀ k, 1 ≤ k → sm (2 * d - 1) (fun i => rcf O (pdl O) (d - 1) k i * z i) = 0 := by
    intro k hk
    by_cases c : k - 1 < 2 * d - 2
    · have w := hze (k - 1) c
      rw [show 1 + (k - 1) = k by omega] at w
      exact w
    · have w : ∀ i, i < 2 * d - 1 → rcf O (pdl O) (d - 1) k i * z i = 0 := by
        intro i hi
        have w2 : rcf O (pdl O) (d - 1) k i = 0 := by
          unfold rcf
          split
          · split
            · rfl
            · exact Od _ (by omega)
          · split
            · rfl
            · exact Dd _ (by omega)
        rw [w2, Int.zero_mul]
      have w3 : ∀ n, n ≤ 2 * d - 1 → sm n (fun i => rcf O (pdl O) (d - 1) k i * z i) = 0 := by
        intro n
        induction n with
        | zero => intro _; rfl
        | succ n ih =>
          intro hn
          show sm n (fun i => rcf O (pdl O) (d - 1) k i * z i) + rcf O (pdl O) (d - 1) k n * z n = 0
          rw [ih (by omega), w n (by omega)]
          rfl
      exact w3 _ (Nat.le_refl _)
  obtain ⟨U, hU⟩ : ∃ U, U = pmk (d - 1) z := ⟨_, rfl⟩
  obtain ⟨V, hV⟩ : ∃ V, V = pmk d (fun j => z (d - 1 + j)) := ⟨_, rfl⟩
  obtain ⟨s, hs'⟩ : ∃ s, s = sm (2 * d - 1) (fun i => rcf O (pdl O) (d - 1) 0 i * z i) := ⟨_, rfl⟩
  have id : ∀ x : Rat, (s : Rat) = pev U x * pev O x + pev V x * pev (pdl O) x := by
    intro x
    have w := rcf_ev (A := O) (B := pdl O) (m := d - 1) (n := 2 * d - 1 + O.length + (pdl O).length) z x (2 * d - 1) (by omega)
    rw [show min (2 * d - 1) (d - 1) = d - 1 by omega, show 2 * d - 1 - (d - 1) = d by omega, ← hU, ← hV] at w
    rw [← w]
    have e : pev (pmk (2 * d - 1 + O.length + (pdl O).length) (fun k => sm (2 * d - 1) (fun i => rcf O (pdl O) (d - 1) k i * z i))) x = pev [s] x := pev_eq (fun k => by
      rw [pmk_gt]
      cases k with
      | zero => rw [if_pos (by omega), hs']; rfl
      | succ k =>
        show _ = (0 : Int)
        split
        · exact Sz (k + 1) (by omega)
        · rfl) x
    rw [e]
    show _ = (s : Rat) + x * 0
    grind
  have Vdb : pdb V d := by rw [hV]; exact fun k hk => by rw [pmk_gt, if_neg (by omega)]
  refine ⟨U, V, s, fun s0 => ?_, by rw [hU, pmk_len], by rw [hV, pmk_len], fun k => ?_, fun k => ?_, id⟩
  · obtain ⟨c, u, v, c0, e⟩ := hs
    have im : ((-1 : Int) : Rat) = -1 := rfl
    have zV : pdb V 0 := by
      have w : pdb (psm c V) 0 := by
        have q : ∀ x : Rat, pev (padd (pmul u V) (psm (-1) (pmul v U))) x * pev O x = pev (psm c V) x := fun x => by
          rw [padd_ev, pmul_ev, psm_ev, pmul_ev, psm_ev, im]
          have a := id x
          have b := e x
          rw [s0, rat_i0] at a
          grind
        have z2 : pdb (padd (pmul u V) (psm (-1) (pmul v U))) 0 := dcan q Od (lO d hd) (pdb_sm (pdb_mono Vdb (by omega)))
        intro k _
        have z3 := pev_zero (P := psm c V) (fun x => by
          rw [← q x, pev_eq (R := []) (fun k => z2 k (by omega)) x]
          show (0 : Rat) * _ = 0
          grind) k
        exact z3
      intro k hk
      have := w k hk
      rw [psm_gt] at this
      rcases Int.mul_eq_zero.1 this with q | q
      · exact absurd q c0
      · exact q
    have zU : ∀ k, pgt U k = 0 := pev_zero (fun x => pev_can (G := O) (Z := U) lO (by omega) (fun x => by
      have a := id x
      rw [s0, rat_i0, pev_eq (P := V) (R := []) (fun k => zV k (by omega)) x] at a
      have : pev [] x = 0 := rfl
      rw [this] at a
      grind) x)
    refine hz0 ?_
    by_cases q : i0 < d - 1
    · have w := zU i0
      rw [hU, pmk_gt, if_pos q] at w
      exact w
    · have w := zV (i0 - (d - 1)) (by omega)
      rw [hV, pmk_gt, if_pos (by omega), show d - 1 + (i0 - (d - 1)) = i0 by omega] at w
      exact w
  · rw [hU, pmk_gt]
    split
    · exact hzb _ (by omega)
    · show (0 : Int).natAbs ≤ _; omega
  · rw [hV, pmk_gt]
    split
    · exact hzb _ (by omega)
    · show (0 : Int).natAbs ≤ _; omega
