/-! WHAT A PRIME TELLS OF THE GREATEST COMMON DIVISOR -/
/-- the highest factor that p doesn't divide -/
theorem top_p (p : Int) (X : List Int) : (∀ k, p ∣ pgt X k) ∨ ∃ m, ¬ p ∣ pgt X m ∧ ∀ k, m < k → p ∣ pgt X k := by
  have key : ∀ n : Nat, (∀ k, n ≤ k → p ∣ pgt X k) → (∀ k, p ∣ pgt X k) ∨ ∃ m, ¬ p ∣ pgt X m ∧ ∀ k, m < k → p ∣ pgt X k := fun n => by
    induction n with
    | zero => intro h; exact Or.inl (fun k => h k (by omega))
    | succ n ih =>
      intro h
      by_cases q : p ∣ pgt X n
      · refine ih (fun k hk => ?_)
        by_cases e : k = n
        · rw [e]; exact q
        · exact h k (by omega)
      · exact Or.inr ⟨n, q, fun k hk => h k (by omega)⟩
  exact key X.length (fun k hk => by rw [pgt_hi X k hk]; exact Int.dvd_zero _)
/-- what p divides beyond m may be left out -/
theorem cut_p {p : Int} {X : List Int} {m : Nat} (hX : ∀ k, m < k → p ∣ pgt X k) : ∃ Y : List Int, ∀ x : Rat, pev X x = pev (pmk (m + 1) (pgt X)) x + (p : Rat) * pev Y x := by
  refine ⟨pmk X.length (fun k => if k ≤ m then 0 else pgt X k / p), fun x => ?_⟩
  have key : pev X x = pev (padd (pmk (m + 1) (pgt X)) (psm p (pmk X.length (fun k => if k ≤ m then 0 else pgt X k / p)))) x := by
    refine pev_eq (fun k => ?_) x
    simp only [padd_gt, psm_gt, pmk_gt]
    by_cases q : k < m + 1
    · rw [if_pos q, if_pos (show k ≤ m by omega)]
      split <;> omega
    · rw [if_neg q, if_neg (show ¬ k ≤ m by omega)]
      by_cases w : k < X.length
      · rw [if_pos w, Int.mul_ediv_cancel' (hX k (by omega))]; omega
      · rw [if_neg w, pgt_hi X k (by omega)]; omega
  rw [key, padd_ev, psm_ev]
/-- if A = G X modulo p, and p doesn't divide the lead of G: where A's top lies -/
theorem top_mul {p : Int} (pp : ∀ a b : Int, p ∣ a * b → p ∣ a ∨ p ∣ b) {A G X Z : List Int} {g m : Nat} (hG : pdb G (g + 1)) (lG : ¬ p ∣ pgt G g) (hm : ¬ p ∣ pgt X m) (hX : ∀ k, m < k → p ∣ pgt X k) (e : ∀ x : Rat, pev A x = pev G x * pev X x + (p : Rat) * pev Z x) : ¬ p ∣ pgt A (g + m) ∧ ∀ k, g + m < k → p ∣ pgt A k := by
  obtain ⟨Y, hY⟩ := cut_p hX
  have dX : pdb (pmk (m + 1) (pgt X)) (m + 1) := fun k hk => by rw [pmk_gt, if_neg (by omega)]
  have co : ∀ k, pgt A k = pgt (pmul G (pmk (m + 1) (pgt X))) k + p * pgt (padd (pmul G Y) Z) k := fun k => by
    have := pev_inj (P := A) (Q := padd (pmul G (pmk (m + 1) (pgt X))) (psm p (padd (pmul G Y) Z))) (fun x => by
      rw [e x, hY x, padd_ev, psm_ev, padd_ev, pmul_ev, pmul_ev]; grind) k
    rw [this, padd_gt, psm_gt]
  constructor
  · intro d
    rw [co, pdb_top hG dX, pmk_gt, if_pos (by omega)] at d
    have d2 : p ∣ pgt G g * pgt X m := by
      obtain ⟨y, hy⟩ := d
      exact ⟨y - pgt (padd (pmul G Y) Z) (g + m), by grind⟩
    rcases pp _ _ d2 with w | w
    · exact lG w
    · exact hm w
  · intro k hk
    rw [co, pdb_mul hG dX k (by omega), Int.zero_add]
    exact ⟨_, rfl⟩
/-- G divides F and H; A is in their ideal modulo p and not 0 there: A's degree is at least G's -/
theorem inc_deg {p : Int} (pp : ∀ a b : Int, p ∣ a * b → p ∣ a ∨ p ∣ b) {F H A G F1 H1 : List Int} {g d : Nat} (hI : Inc p F H A) (hG : pdb G (g + 1)) (lG : ¬ p ∣ pgt G g) (eF : ∀ x : Rat, pev F x = pev G x * pev F1 x) (eH : ∀ x : Rat, pev H x = pev G x * pev H1 x) (hA : ¬ p ∣ pgt A d) (hA0 : ∀ k, d < k → p ∣ pgt A k) : g ≤ d := by
  obtain ⟨U, V, Z, e⟩ := hI
  have e2 : ∀ x : Rat, pev A x = pev G x * pev (padd (pmul U F1) (pmul V H1)) x + (p : Rat) * pev Z x := fun x => by
    rw [e x, eF x, eH x, padd_ev, pmul_ev, pmul_ev]; grind
  rcases top_p p (padd (pmul U F1) (pmul V H1)) with h | ⟨m, h1, h2⟩
  · exfalso
    refine hA ?_
    obtain ⟨Y, hY⟩ : ∃ Y : List Int, ∀ x : Rat, pev (padd (pmul U F1) (pmul V H1)) x = (p : Rat) * pev Y x := by
      refine ⟨pmk (padd (pmul U F1) (pmul V H1)).length (fun k => pgt (padd (pmul U F1) (pmul V H1)) k / p), fun x => ?_⟩
      rw [← psm_ev]
      refine pev_eq (fun k => ?_) x
      rw [psm_gt, pmk_gt]
      by_cases w : k < (padd (pmul U F1) (pmul V H1)).length
      · rw [if_pos w, Int.mul_ediv_cancel' (h k)]
      · rw [if_neg w, pgt_hi _ k (by omega)]; omega
    have := pev_inj (P := A) (Q := psm p (padd (pmul G Y) Z)) (fun x => by rw [e2 x, hY x, psm_ev, padd_ev, pmul_ev]; grind) d
    rw [this, psm_gt]
    exact ⟨_, rfl⟩
  · have t := top_mul pp hG lG h1 h2 e2
    refine Nat.not_lt.1 fun q => ?_
    exact t.1 (hA0 (g + m) (by omega))
/-- a lucky prime: the image is the divisor -/
theorem lucky {p : Int} (pp : ∀ a b : Int, p ∣ a * b → p ∣ a ∨ p ∣ b) {F H G F1 H1 u v A : List Int} {g d : Nat} {c : Int} (hc : ¬ p ∣ c) (eF : ∀ x : Rat, pev F x = pev G x * pev F1 x) (eH : ∀ x : Rat, pev H x = pev G x * pev H1 x) (cc : ∀ x : Rat, (c : Rat) = pev u x * pev F1 x + pev v x * pev H1 x) (hG : pdb G (g + 1)) (lG : ¬ p ∣ pgt G g) (hI : Inc p F H A) (gF : Gen p A [] F) (gH : Gen p A [] H) (hA : ¬ p ∣ pgt A d) (hA0 : pdb A (d + 1)) : g = d ∧ ∀ k, p ∣ pgt G g * pgt A k - pgt A d * pgt G k := by
  have gd := inc_deg pp hI hG lG eF eH hA (fun k hk => by rw [hA0 k (by omega)]; exact Int.dvd_zero _)
  obtain ⟨l, U, _, Z, hl, e1⟩ := gF
  obtain ⟨l2, U2, _, Z2, hl2, e2⟩ := gH
  -- l l2 c G = A (..) modulo p
  have key : ∀ x : Rat, ((l * l2 * c : Int) : Rat) * pev G x = pev A x * pev (padd (pmul (psm l2 u) U) (pmul (psm l v) U2)) x + (p : Rat) * pev (padd (pmul (psm l2 u) Z) (pmul (psm l v) Z2)) x := fun x => by
    simp only [padd_ev, pmul_ev, psm_ev]
    have a1 := e1 x
    have a2 := e2 x
    rw [ev_n] at a1 a2
    have a3 := cc x
    rw [eF x] at a1
    rw [eH x] at a2
    rw [Rat.intCast_mul, Rat.intCast_mul]
    have q : (l : Rat) * (l2 : Rat) * (c : Rat) * pev G x = (l2 : Rat) * pev u x * ((l : Rat) * (pev G x * pev F1 x)) + (l : Rat) * pev v x * ((l2 : Rat) * (pev G x * pev H1 x)) := by
      rw [a3]; grind
    rw [q, a1, a2]
    grind
  have ll : ¬ p ∣ l * l2 * c := fun z => by
    rcases pp _ _ z with w | w
    · rcases pp _ _ w with w | w
      · exact hl w
      · exact hl2 w
    · exact hc w
  obtain ⟨y, hy⟩ : ∃ y, y = l * l2 * c := ⟨_, rfl⟩
  rw [← hy] at key ll
  obtain ⟨W, hW⟩ : ∃ W, W = padd (pmul (psm l2 u) U) (pmul (psm l v) U2) := ⟨_, rfl⟩
  obtain ⟨Z3, hZ3⟩ : ∃ Z3, Z3 = padd (pmul (psm l2 u) Z) (pmul (psm l v) Z2) := ⟨_, rfl⟩
  rw [← hW, ← hZ3] at key
  rcases top_p p W with h | ⟨m, h1, h2⟩
  · exfalso
    obtain ⟨Y, hY⟩ : ∃ Y : List Int, ∀ x : Rat, pev W x = (p : Rat) * pev Y x := by
      refine ⟨pmk W.length (fun k => pgt W k / p), fun x => ?_⟩
      rw [← psm_ev]
      refine pev_eq (fun k => ?_) x
      rw [psm_gt, pmk_gt]
      by_cases w : k < W.length
      · rw [if_pos w, Int.mul_ediv_cancel' (h k)]
      · rw [if_neg w, pgt_hi _ k (by omega)]; omega
    have := pev_inj (P := psm y G) (Q := psm p (padd (pmul A Y) Z3)) (fun x => by rw [psm_ev, key x, hY x, psm_ev, padd_ev, pmul_ev]; grind) g
    rw [psm_gt, psm_gt] at this
    rcases pp y (pgt G g) ⟨_, this⟩ with w | w
    · exact ll w
    · exact lG w
  · have t := top_mul pp hA0 hA h1 h2 (A := psm y G) (Z := Z3) (fun x => by rw [psm_ev]; exact key x)
    have dm : d + m ≤ g := by
      refine Nat.not_lt.1 fun q => ?_
      refine t.1 ?_
      rw [psm_gt, hG (d + m) (by omega), Int.mul_zero]
      exact Int.dvd_zero _
    have m0 : m = 0 := by omega
    have eg : g = d := by omega
    subst m0
    refine ⟨eg, fun k => ?_⟩
    obtain ⟨Y, hY⟩ := cut_p h2
    -- y G = w A modulo p
    have co : ∀ k, ∃ z, y * pgt G k = pgt W 0 * pgt A k + p * z := fun k => by
      have := pev_inj (P := psm y G) (Q := padd (psm (pgt W 0) A) (psm p (padd (pmul A Y) Z3))) (fun x => by
        have c0 : pev (pmk (0 + 1) (pgt W)) x = (pgt W 0 : Rat) := by
          rw [show pmk (0 + 1) (pgt W) = [pgt W 0] from rfl, ev_c]
        rw [psm_ev, key x, hY x, c0, padd_ev, psm_ev, psm_ev, padd_ev, pmul_ev]; grind) k
      rw [psm_gt, padd_gt, psm_gt, psm_gt] at this
      exact ⟨_, this⟩
    obtain ⟨z1, c1⟩ := co k
    obtain ⟨z2, c2⟩ := co d
    have fin : p ∣ y * (pgt G g * pgt A k - pgt A d * pgt G k) := by
      rw [eg]
      exact ⟨pgt A k * z2 - pgt A d * z1, by grind⟩
    rcases pp _ _ fin with w | w
    · exact absurd w ll
    · exact w
