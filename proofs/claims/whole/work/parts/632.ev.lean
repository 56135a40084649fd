/-! POLYNOMIALS AS LISTS: values at fractions -/
def pev : List Int → Rat → Rat
  | [], _ => 0
  | a :: p, x => (a : Rat) + x * pev p x
theorem pev_mks (n : Nat) (f : Nat → Int) (x : Rat) : pev (pmk (n + 1) f) x = (f 0 : Rat) + x * pev (pmk n (fun k => f (k + 1))) x := rfl
theorem pev_add : ∀ (n : Nat) (f g : Nat → Int) (x : Rat), pev (pmk n (fun k => f k + g k)) x = pev (pmk n f) x + pev (pmk n g) x
  | 0, _, _, _ => by show (0 : Rat) = 0 + 0; grind
  | n + 1, f, g, x => by
    rw [pev_mks, pev_mks, pev_mks, pev_add n (fun k => f (k + 1)) (fun k => g (k + 1)), Rat.intCast_add]
    grind
theorem pev_sub : ∀ (n : Nat) (f g : Nat → Int) (x : Rat), pev (pmk n (fun k => f k - g k)) x = pev (pmk n f) x - pev (pmk n g) x
  | 0, _, _, _ => by show (0 : Rat) = 0 - 0; grind
  | n + 1, f, g, x => by
    rw [pev_mks, pev_mks, pev_mks, pev_sub n (fun k => f (k + 1)) (fun k => g (k + 1)), Rat.intCast_sub]
    grind
theorem pev_sc : ∀ (n : Nat) (c : Int) (f : Nat → Int) (x : Rat), pev (pmk n (fun k => c * f k)) x = c * pev (pmk n f) x
  | 0, _, _, _ => by show (0 : Rat) = _ * 0; grind
  | n + 1, c, f, x => by
    rw [pev_mks, pev_mks, pev_sc n c (fun k => f (k + 1)), Rat.intCast_mul]
    grind
theorem pev_z : ∀ (n : Nat) (f : Nat → Int) (x : Rat), (∀ k, k < n → f k = 0) → pev (pmk n f) x = 0
  | 0, _, _, _ => rfl
  | n + 1, f, x, h => by
    rw [pev_mks, h 0 (by omega), pev_z n (fun k => f (k + 1)) x (fun k hk => h (k + 1) (by omega))]
    have e : ((0 : Int) : Rat) = 0 := rfl
    rw [e]
    grind
theorem pev_pad : ∀ (P : List Int) (n : Nat) (x : Rat), P.length ≤ n → pev (pmk n (pgt P)) x = pev P x
  | [], n, x, _ => pev_z n _ x (fun _ _ => rfl)
  | a :: p, 0, _, h => by simp at h
  | a :: p, n + 1, x, h => by
    rw [pev_mks]
    show (a : Rat) + x * pev (pmk n (pgt p)) x = (a : Rat) + x * pev p x
    rw [pev_pad p n x (by simp at h; omega)]
theorem pev_eq {P R : List Int} (h : ∀ k, pgt P k = pgt R k) (x : Rat) : pev P x = pev R x := by
  rw [← pev_pad P (P.length + R.length) x (by omega), ← pev_pad R (P.length + R.length) x (by omega), pmk_co (fun k _ => h k)]
theorem pev_csc {P R : List Int} {c : Int} (h : ∀ k, pgt P k = c * pgt R k) (x : Rat) : pev P x = c * pev R x := by
  rw [← pev_pad P (P.length + R.length) x (by omega), ← pev_pad R (P.length + R.length) x (by omega), pmk_co (fun k _ => h k), pev_sc]
theorem pev_top : ∀ (n : Nat) (f : Nat → Int) (x : Rat), pev (pmk (n + 1) f) x = pev (pmk n f) x + f n * x ^ n
  | 0, f, x => by
    show (f 0 : Rat) + x * 0 = 0 + (f 0 : Rat) * x ^ 0
    grind
  | n + 1, f, x => by
    rw [pev_mks, pev_top n (fun k => f (k + 1)), pev_mks]
    grind
theorem pev_shift : ∀ (d n : Nat) (f : Nat → Int) (x : Rat), pev (pmk (d + n) (fun k => if k < d then 0 else f (k - d))) x = x ^ d * pev (pmk n f) x
  | 0, n, f, x => by
    rw [Nat.zero_add, pmk_co (g := f) (fun k _ => by rw [if_neg (by omega)]; rfl)]
    grind
  | d + 1, n, f, x => by
    rw [show d + 1 + n = (d + n) + 1 by omega, pev_mks, if_pos (by omega), pmk_co (g := fun k => if k < d then 0 else f (k - d)) (fun k _ => ?_), pev_shift d n f x]
    · have e : ((0 : Int) : Rat) = 0 := rfl
      rw [e]
      grind
    · by_cases c : k < d
      · rw [if_pos c, if_pos (by omega)]
      · rw [if_neg c, if_neg (by omega), show k + 1 - (d + 1) = k - d by omega]
/-- one turn of restOf -/
def ptn (r G : List Int) (d : Nat) (A so : Int) (k : Nat) : Int := pgt r k * A - (if k < d then 0 else so * pgt G (k - d))
theorem pev_ptn {r G : List Int} {d e : Nat} {A so : Int} (hr : r.length = e + 1) (hd : e + 1 = d + G.length) (hG : 1 ≤ G.length) (ht : pgt r e * A = so * pgt G (G.length - 1)) (x : Rat) : pev (pmk e (ptn r G d A so)) x = A * pev r x - so * x ^ d * pev G x := by
  have h1 := pev_top e (ptn r G d A so) x
  have h2 : ptn r G d A so e = 0 := by
    unfold ptn
    rw [if_neg (by omega), show e - d = G.length - 1 by omega, ht]
    omega
  rw [h2] at h1
  have e0 : ((0 : Int) : Rat) = 0 := rfl
  rw [e0] at h1
  have h3 : pev (pmk (e + 1) (ptn r G d A so)) x = pev (pmk (e + 1) (fun k => A * pgt r k)) x - pev (pmk (d + G.length) (fun k => if k < d then 0 else (fun j => so * pgt G j) (k - d))) x := by
    rw [← hd, ← pev_sub, pmk_co (fun k _ => ?_)]
    unfold ptn
    rw [Int.mul_comm]
  have h4 := pev_shift d G.length (fun j => so * pgt G j) x
  rw [h4, pev_sc, pev_sc, pmk_self, ← hr, pmk_self] at h3
  grind
/-- a list that clean has made -/
def pcl (R : List Int) : Prop := (∀ n, R.length = n + 1 → pgt R n ≠ 0) ∧ (R ≠ [] → ∀ d : Int, (∀ k, d ∣ pgt R k) → d ∣ 1)
theorem cr_pcl {l2 : Int} {P R : List Int} (h : cr l2 P R) : pcl R := ⟨fun n hn => (h.2.1 n hn).1, h.2.2.1⟩
theorem cr_lb {l2 : Int} {P R : List Int} {M : Nat} (h : cr l2 P R) (hM : plb P M) : plb R M := by
  obtain ⟨g, g0, _, e⟩ := h.2.2.2
  intro k
  refine Nat.le_trans (lim_mono ?_) (hM k)
  rw [e k, Int.natAbs_mul]
  exact Nat.le_mul_of_pos_left _ (by omega)
theorem lim_sub (X Y : Int) : lim (X - Y) ≤ max (lim X) (lim Y) + 1 := by
  have z := lim_add X (-Y)
  rw [lim_neg, ← Int.sub_eq_add_neg] at z
  exact z
theorem ptn_lb {r G : List Int} {d e M N : Nat} {A so : Int} (hM : plb r M) (hN : plb G N) (hA : lim A ≤ N) (hs : lim so ≤ M) (k : Nat) : lim (ptn r G d A so k) ≤ M + N + 1 := by
  unfold ptn
  have a := lim_mul (pgt r k) A
  have b := hM k
  by_cases c : k < d
  · rw [if_pos c, Int.sub_zero]
    omega
  · rw [if_neg c]
    have z := lim_sub (pgt r k * A) (so * pgt G (k - d))
    have c1 := lim_mul so (pgt G (k - d))
    have c2 := hN (k - d)
    omega
theorem pmk_lb {n M : Nat} {f : Nat → Int} (h : ∀ k, k < n → lim (f k) ≤ M) : plb (pmk n f) M := by
  intro k
  rw [pmk_gt]
  by_cases c : k < n
  · rw [if_pos c]; exact h k c
  · rw [if_neg c, lim_zero]; omega
/-- what restOf costs, and how long its numbers grow -/
def rco : Nat → Nat → Nat → Nat → Nat
  | 0, _, _, _ => 0
  | l + 1, m, M, N => if l + 1 < m then 0 else 5 * ((l + 1) * (M + N + 2)) + rco l m (M + N + 1) N
def rlm : Nat → Nat → Nat → Nat → Nat
  | 0, _, M, _ => M
  | l + 1, m, M, N => if l + 1 < m then M else rlm l m (M + N + 1) N
theorem rlm_ge : ∀ (l m M N : Nat), M ≤ rlm l m M N
  | 0, _, M, _ => Nat.le_refl M
  | l + 1, m, M, N => by
    unfold rlm
    by_cases c : l + 1 < m
    · rw [if_pos c]; exact Nat.le_refl _
    · rw [if_neg c]
      have := rlm_ge l m (M + N + 1) N
      omega
theorem rlm_mono : ∀ (l' l m M M' N : Nat), l ≤ l' → M ≤ M' → rlm l m M N ≤ rlm l' m M' N
  | 0, l, m, M, M', N, h1, h2 => by
    have e : l = 0 := by omega
    subst e
    exact h2
  | l' + 1, l, m, M, M', N, h1, h2 => by
    by_cases c : l = l' + 1
    · subst c
      unfold rlm
      by_cases c : l' + 1 < m
      · rw [if_pos c, if_pos c]; exact h2
      · rw [if_neg c, if_neg c]
        exact rlm_mono l' l' m _ _ N (Nat.le_refl _) (by omega)
    · have z := rlm_mono l' l m M M' N (by omega) h2
      refine Nat.le_trans z ?_
      show rlm l' m M' N ≤ if l' + 1 < m then M' else rlm l' m (M' + N + 1) N
      by_cases c : l' + 1 < m
      · rw [if_pos c]
        cases l' with
        | zero => exact Nat.le_refl _
        | succ j =>
          unfold rlm
          rw [if_pos (by omega)]
          exact Nat.le_refl _
      · rw [if_neg c]
        exact rlm_mono l' l' m _ _ N (Nat.le_refl _) (by omega)
theorem rco_mono : ∀ (l' l m M M' N : Nat), l ≤ l' → M ≤ M' → rco l m M N ≤ rco l' m M' N
  | 0, l, m, M, M', N, h1, h2 => by
    have e : l = 0 := by omega
    subst e
    exact Nat.le_refl _
  | l' + 1, l, m, M, M', N, h1, h2 => by
    by_cases c : l = l' + 1
    · subst c
      unfold rco
      by_cases c : l' + 1 < m
      · rw [if_pos c, if_pos c]; exact Nat.le_refl _
      · rw [if_neg c, if_neg c]
        have z := rco_mono l' l' m (M + N + 1) (M' + N + 1) N (Nat.le_refl _) (by omega)
        have y : (l' + 1) * (M + N + 2) ≤ (l' + 1) * (M' + N + 2) := Nat.mul_le_mul_left _ (by omega)
        omega
    · have z := rco_mono l' l m M M' N (by omega) h2
      refine Nat.le_trans z ?_
      show rco l' m M' N ≤ if l' + 1 < m then 0 else 5 * ((l' + 1) * (M' + N + 2)) + rco l' m (M' + N + 1) N
      by_cases c : l' + 1 < m
      · rw [if_pos c]
        cases l' with
        | zero => exact Nat.le_refl _
        | succ j =>
          unfold rco
          rw [if_pos (by omega)]
          exact Nat.le_refl _
      · rw [if_neg c]
        have := rco_mono l' l' m M' (M' + N + 1) N (Nat.le_refl _) (by omega)
        omega
