/-! small multiples of two polynomials without a common root that make a number -/
theorem cop_small {A B : List Int} {a b H : Nat} (ha : A.length = a + 1) (hb : B.length = b + 1) (a1 : 1 ≤ a) (b1 : 1 ≤ b) (lA : lnz A) (hc : cop A B) (HA : pab A H) (HB : pab B H) (H1 : 1 ≤ H) : ∃ (U V : List Int) (s : Int), s ≠ 0 ∧ U.length = b ∧ V.length = a ∧ pab U (((a + b) * H) ^ (a + b - 1)) ∧ pab V (((a + b) * H) ^ (a + b - 1)) ∧ ∀ x : Rat, (s : Rat) = pev U x * pev A x + pev V x * pev B x := by
  have Ad : pdb A (a + 1) := pdb_mono (pdb_len A) (by omega)
  have Bd : pdb B (b + 1) := pdb_mono (pdb_len B) (by omega)
  have rbd : ∀ k i, (rcf A B b k i).natAbs ≤ H := by
    intro k i
    unfold rcf
    split
    · split
      · show (0 : Int).natAbs ≤ _; omega
      · exact HA (k - i)
    · split
      · show (0 : Int).natAbs ≤ _; omega
      · exact HB _
  obtain ⟨z, ⟨i0, hi0, hz0⟩, hzb, hze⟩ := siegel (E := a + b - 1) (A := H) (fun e i => rcf A B b (1 + e) i) (by omega) (fun e i _ _ => rbd (1 + e) i)
  rw [show a + b - 1 + 1 = a + b by omega] at hi0 hzb hze
  have Sz : ∀ k, 1 ≤ k → sm (a + b) (fun i => rcf A B b k i * z i) = 0 := by
    intro k hk
    by_cases c : k - 1 < a + b - 1
    · have w := hze (k - 1) c
      rw [show 1 + (k - 1) = k by omega] at w
      exact w
    · have w : ∀ i, i < a + b → rcf A B b k i * z i = 0 := by
        intro i hi
        have w2 : rcf A B b k i = 0 := by
          unfold rcf
          split
          · split
            · rfl
            · exact Ad _ (by omega)
          · split
            · rfl
            · exact Bd _ (by omega)
        rw [w2, Int.zero_mul]
      have w3 : ∀ n, n ≤ a + b → sm n (fun i => rcf A B b k i * z i) = 0 := by
        intro n
        induction n with
        | zero => intro _; rfl
        | succ n ih =>
          intro hn
          show sm n (fun i => rcf A B b k i * z i) + rcf A B b k n * z n = 0
          rw [ih (by omega), w n (by omega)]
          rfl
      exact w3 _ (Nat.le_refl _)
  obtain ⟨U, hU⟩ : ∃ U, U = pmk b z := ⟨_, rfl⟩
  obtain ⟨V, hV⟩ : ∃ V, V = pmk a (fun j => z (b + j)) := ⟨_, rfl⟩
  obtain ⟨s, hs'⟩ : ∃ s, s = sm (a + b) (fun i => rcf A B b 0 i * z i) := ⟨_, rfl⟩
  have id : ∀ x : Rat, (s : Rat) = pev U x * pev A x + pev V x * pev B x := by
    intro x
    have w := rcf_ev (A := A) (B := B) (m := b) (n := a + b + A.length + B.length) z x (a + b) (by omega)
    rw [show min (a + b) b = b by omega, show a + b - b = a by omega, ← hU, ← hV] at w
    rw [← w]
    have e : pev (pmk (a + b + A.length + B.length) (fun k => sm (a + b) (fun i => rcf A B b k i * z i))) x = pev [s] x := pev_eq (fun k => by
      rw [pmk_gt]
      cases k with
      | zero => rw [if_pos (by omega), hs']; rfl
      | succ k =>
        show _ = (0 : Int)
        split
        · exact Sz (k + 1) (by omega)
        · rfl) x
    rw [e]
    show _ = (s : Rat) + x * 0
    grind
  have Vdb : pdb V a := by rw [hV]; exact fun k hk => by rw [pmk_gt, if_neg (by omega)]
  refine ⟨U, V, s, fun s0 => ?_, by rw [hU, pmk_len], by rw [hV, pmk_len], fun k => ?_, fun k => ?_, id⟩
  · obtain ⟨c, u, v, c0, e⟩ := hc
    have im : ((-1 : Int) : Rat) = -1 := rfl
    have zV : pdb V 0 := by
      have w : pdb (psm c V) 0 := by
        have q : ∀ x : Rat, pev (padd (pmul u V) (psm (-1) (pmul v U))) x * pev A x = pev (psm c V) x := fun x => by
          rw [padd_ev, pmul_ev, psm_ev, pmul_ev, psm_ev, im]
          have a := id x
          have b := e x
          rw [s0, rat_i0] at a
          grind
        have z2 : pdb (padd (pmul u V) (psm (-1) (pmul v U))) 0 := dcan q Ad (lA a ha) (pdb_sm (pdb_mono Vdb (by omega)))
        intro k _
        have z3 := pev_zero (P := psm c V) (fun x => by
          rw [← q x, pev_eq (R := []) (fun k => z2 k (by omega)) x]
          show (0 : Rat) * _ = 0
          grind) k
        exact z3
      intro k hk
      have := w k hk
      rw [psm_gt] at this
      rcases Int.mul_eq_zero.1 this with q | q
      · exact absurd q c0
      · exact q
    have zU : ∀ k, pgt U k = 0 := pev_zero (fun x => pev_can (G := A) (Z := U) lA (by omega) (fun x => by
      have a := id x
      rw [s0, rat_i0, pev_eq (P := V) (R := []) (fun k => zV k (by omega)) x] at a
      have : pev [] x = 0 := rfl
      rw [this] at a
      grind) x)
    refine hz0 ?_
    by_cases q : i0 < b
    · have w := zU i0
      rw [hU, pmk_gt, if_pos q] at w
      exact w
    · have w := zV (i0 - b) (by omega)
      rw [hV, pmk_gt, if_pos (by omega), show b + (i0 - b) = i0 by omega] at w
      exact w
  · rw [hU, pmk_gt]
    split
    · exact hzb _ (by omega)
    · show (0 : Int).natAbs ≤ _; omega
  · rw [hV, pmk_gt]
    split
    · exact hzb _ (by omega)
    · show (0 : Int).natAbs ≤ _; omega
