/-! findRoots: reckoning for its whole walk -/
theorem chv_b2 (f : Nat → Int) : ∀ k : Nat, ((chv f k).2 ≠ 0 → (chv f k).1 + 1 ≤ k) ∧ ((chv f k).2 = 0 → (chv f k).1 = 0)
  | 0 => ⟨fun h => absurd rfl h, fun _ => rfl⟩
  | k + 1 => by
    have z := chv_b2 f k
    have e : chv f (k + 1) = ((chv f k).1 + (if f k = 0 then 0 else if (chv f k).2 = 0 then 0 else if f k = (chv f k).2 then 0 else 1), if f k = 0 then (chv f k).2 else f k) := rfl
    rw [e]
    dsimp only
    by_cases q : f k = 0
    · rw [if_pos q, if_pos q]
      exact ⟨fun h => by have := z.1 h; omega, fun h => by have := z.2 h; omega⟩
    · rw [if_neg q, if_neg q]
      refine ⟨fun _ => ?_, fun h => absurd h q⟩
      by_cases w : (chv f k).2 = 0
      · rw [if_pos w]
        have := z.2 w
        omega
      · rw [if_neg w]
        have := z.1 w
        split <;> omega
theorem vst_b {c : Nat → List Int} {N : Nat} (hN : 1 ≤ N) (x : Rat) : 0 ≤ vst c (N - 1) x ∧ vst c (N - 1) x ≤ (N : Int) - 1 := by
  unfold vst
  have a := chv_b (fun k => rsg (pev (c k) x)) (N - 1 + 1)
  have b := chv_b2 (fun k => rsg (pev (c k) x)) (N - 1 + 1)
  refine ⟨a.1, ?_⟩
  by_cases q : (chv (fun k => rsg (pev (c k) x)) (N - 1 + 1)).2 = 0
  · have := b.2 q
    omega
  · have := b.1 q
    omega
theorem two_c (w : Rat) : (((-1 : Int) : Rat) + 1) * w = ((0 : Int) : Rat) * w := by
  have : ((-1 : Int) : Rat) + 1 = ((0 : Int) : Rat) := by first | exact (Rat.intCast_add (-1) 1).symm | grind
  rw [this]
theorem two_v {c : Nat → List Int} {N : Nat} (hN : 1 ≤ N) (e : Int) : vfall c N 0 e + vfall c N (-1) e ≤ (N : Int) - 1 := by
  unfold vfall
  have b1 := vst_b (c := c) hN (((-1 : Int) : Rat) * wd e)
  have b2 := vst_b (c := c) hN ((((0 : Int) : Rat) + 1) * wd e)
  rw [two_c]
  omega
theorem two_m {e v w : Int} (he : -90 ≤ e) (he2 : e ≤ 0) (hv : 0 ≤ v) (hw : 0 ≤ w) (h : v + w ≤ 8) : 0 ≤ mbu e v + mbu e w ∧ mbu e v + mbu e w ≤ 401000 := by
  have a1 := mbu_nn (e := e) (by omega) hv
  have a2 := mbu_nn (e := e) (by omega) hw
  unfold mbu at a1 a2 ⊢
  have m1 : (v / 2 + w / 2) * ((621 - e) * 124) ≤ 4 * ((621 - e) * 124) := Int.mul_le_mul_of_nonneg_right (by omega) (by omega)
  rw [Int.add_mul] at m1
  omega
theorem wd_ng : ∀ m : Nat, wd (-(m : Int)) = (((2 : Int) ^ m : Int) : Rat)
  | 0 => by
    have h := wd_nat 0
    rw [Rat.pow_zero, Rat.mul_one] at h
    exact h
  | m + 1 => by
    rw [wd_half, show -((m + 1 : Nat) : Int) + 1 = -(m : Int) by omega, wd_ng m, Int.pow_succ, Int.mul_comm, Rat.intCast_mul]
    rfl
theorem no_out {P : List Int} {n m : Nat} {G : Int} (hn : P.length = n + 1) (hL : 0 < pgt P n) (hk : ∀ i : Nat, i < n → (pgt P i).natAbs ≤ G.natAbs) (ge : (G.natAbs : Int) + pgt P n ≤ 2 ^ m * pgt P n) {x : Rat} (hx : wd (-(m : Int)) ≤ x ∨ x ≤ -wd (-(m : Int))) : pev P x ≠ 0 := by
  have e1 : P.length - 1 = n := by omega
  have L0 : (0 : Rat) < (pgt P n : Rat) := by
    have := Rat.intCast_lt_intCast.2 hL
    exact this
  have A0 : (0 : Rat) ≤ ((G.natAbs : Int) : Rat) := by
    have := Rat.intCast_le_intCast.2 (show (0 : Int) ≤ (G.natAbs : Int) by omega)
    exact this
  have hX : ((G.natAbs : Int) : Rat) + (pgt P n : Rat) ≤ wd (-(m : Int)) * (pgt P n : Rat) := by
    rw [wd_ng]
    have := Rat.intCast_le_intCast.2 ge
    rw [Rat.intCast_add, Rat.intCast_mul] at this
    exact this
  have z := cauchy L0 A0 hX hx P (by omega) (by rw [e1]) (fun k hk' => by
    have w := hk k (by omega)
    have u1 := Rat.intCast_le_intCast.2 (show -(G.natAbs : Int) ≤ pgt P k by omega)
    have u2 := Rat.intCast_le_intCast.2 (show pgt P k ≤ (G.natAbs : Int) by omega)
    rw [Rat.intCast_neg] at u1
    exact ⟨u1, u2⟩)
  intro h
  rw [h] at z
  rcases z with q | q
  · exact absurd L0 (Rat.not_lt.2 q)
  · grind
theorem rsp_mv {c : Nat → List Int} {N : Nat} {s s' : im_S} {R0 : Nat} {P F : List Int} {lf rf : Nat → Rat} {j : Nat} (h : rsp c N s R0 P lf rf j F) (h1 : ∀ i : Int, wga s' 608 i = wga s 608 i) (h2 : ∀ i : Int, wga s' 609 i = wga s 609 i) : rsp c N s' R0 P lf rf j F := by
  obtain ⟨fF, Pi, z, a1, a2, a3, a4, a5, a6⟩ := h
  exact ⟨fF, Pi, z, a1, a2, a3, a4, a5, fun r y q1 q2 q3 q4 => a6 r y q1 (by rw [← h2]; exact q2) (by rw [← h1]; exact q3) q4⟩
