/-! THE REFERENCE'S LONG NUMBERS: the row of its memory, what a place holds, how stores change it -/
theorem wg_same {s : im_S} {c : Nat} {i x : Int} : wga (wpa s c i x) c i = x := im_up_same _ _ _ _
theorem wg_ne {s : im_S} {c : Nat} {i j x : Int} (hi : 0 ≤ i) (hj : 0 ≤ j) (h : j ≠ i) : wga (wpa s c i x) c j = wga s c j := im_up_ne (fun e => h (by have := e.2; omega))
theorem wg_row {s : im_S} {c b : Nat} {i j x : Int} (h : b ≠ c) : wga (wpa s c i x) b j = wga s b j := im_up_ne (fun e => h e.1)
theorem wg_pf {s : im_S} {c f : Nat} {j x : Int} : wga (wpf s f x) c j = wga s c j := rfl
theorem wf_pa {s : im_S} {c f : Nat} {j x : Int} : wgf (wpa s c j x) f = wgf s f := rfl
theorem wf_same {s : im_S} {f : Nat} {x : Int} : wgf (wpf s f x) f = x := im_up_same _ _ _ _
theorem wf_ne {s : im_S} {f g : Nat} {x : Int} (h : g ≠ f) : wgf (wpf s f x) g = wgf s g := im_up_ne (fun e => h e.2)
/-- but for the memory's places lo .. hi - 1, the top and the quotient, nothing is changed -/
def ag (lo hi : Int) (s s' : im_S) : Prop := (∀ c f : Nat, ¬ (c = 582 ∧ (f = 24 ∨ f = 25)) → s'.1 c f = s.1 c f) ∧ (∀ c i : Nat, ¬ (c = 597 ∧ lo ≤ (i : Int) ∧ (i : Int) < hi) → s'.2 c i = s.2 c i)
theorem ag_rfl {lo hi : Int} {s : im_S} : ag lo hi s s := ⟨fun _ _ _ => rfl, fun _ _ _ => rfl⟩
theorem ag_tr {lo hi : Int} {s s1 s2 : im_S} (h1 : ag lo hi s s1) (h2 : ag lo hi s1 s2) : ag lo hi s s2 := ⟨fun c f h => (h2.1 c f h).trans (h1.1 c f h), fun c i h => (h2.2 c i h).trans (h1.2 c i h)⟩
theorem ag_mono {lo hi lo' hi' : Int} {s s' : im_S} (h : ag lo hi s s') (h1 : lo' ≤ lo) (h2 : hi ≤ hi') : ag lo' hi' s s' := ⟨h.1, fun c i q => h.2 c i (fun z => q ⟨z.1, by omega, by omega⟩)⟩
theorem ag_pa {lo hi i x : Int} {s s' : im_S} (h : ag lo hi s s') (h0 : 0 ≤ i) (h1 : lo ≤ i) (h2 : i < hi) : ag lo hi s (wpa s' 597 i x) := ⟨h.1, fun c j q => by
  have e : (wpa s' 597 i x).2 c j = s'.2 c j := im_up_ne (fun z => q ⟨z.1, by have := z.2; omega, by have := z.2; omega⟩)
  rw [e]
  exact h.2 c j q⟩
theorem ag_pf {lo hi x : Int} {f : Nat} {s s' : im_S} (h : ag lo hi s s') (h0 : f = 24 ∨ f = 25) : ag lo hi s (wpf s' f x) := ⟨fun c g q => by
  have e : (wpf s' f x).1 c g = s'.1 c g := im_up_ne (fun z => q ⟨z.1, by rw [z.2]; exact h0⟩)
  rw [e]
  exact h.1 c g q, h.2⟩
theorem ag_m {lo hi i : Int} {s s' : im_S} (h : ag lo hi s s') (h0 : 0 ≤ i) (h1 : i < lo ∨ hi ≤ i) : wga s' 597 i = wga s 597 i := h.2 597 i.toNat (by omega)
theorem ag_r {lo hi i : Int} {c : Nat} {s s' : im_S} (h : ag lo hi s s') (h1 : c ≠ 597) : wga s' c i = wga s c i := h.2 c i.toNat (fun e => h1 e.1)
theorem ag_f {lo hi : Int} {f : Nat} {s s' : im_S} (h : ag lo hi s s') (h1 : f ≠ 24) (h2 : f ≠ 25) : wgf s' f = wgf s f := h.1 582 f (fun e => by rcases e.2 with q | q <;> contradiction)
/-! how many limbs -/
def limf : Nat → Nat → Nat
  | 0, _ => 0
  | f + 1, m => if m = 0 then 0 else limf f (m / 1000000000) + 1
def lim (X : Int) : Nat := limf X.natAbs X.natAbs
theorem limf_ok : ∀ f m : Nat, m ≤ f → m < 1000000000 ^ limf f m ∧ ∀ k, limf f m = k + 1 → 1000000000 ^ k ≤ m
  | 0, m, h => by
    have e : m = 0 := by omega
    subst e
    exact ⟨by decide, fun k q => by simp [limf] at q⟩
  | f + 1, m, h => by
    unfold limf
    by_cases e : m = 0
    · rw [if_pos e, e]
      exact ⟨by decide, fun k q => by simp at q⟩
    · rw [if_neg e]
      have ih := limf_ok f (m / 1000000000) (by omega)
      obtain ⟨j, hj⟩ : ∃ j, j = limf f (m / 1000000000) := ⟨_, rfl⟩
      rw [← hj] at ih ⊢
      refine ⟨?_, fun k q => ?_⟩
      · rw [Nat.pow_succ]
        have := ih.1
        generalize 1000000000 ^ j = P at this ⊢
        omega
      · have e2 : k = j := by omega
        subst e2
        cases k with
        | zero => simp; omega
        | succ i =>
          have z := ih.2 i rfl
          rw [Nat.pow_succ]
          generalize 1000000000 ^ i = P at z ⊢
          omega
theorem lim_lt (X : Int) : X.natAbs < 1000000000 ^ lim X := (limf_ok _ _ (Nat.le_refl _)).1
theorem lim_ge {X : Int} {k : Nat} (h : lim X = k + 1) : 1000000000 ^ k ≤ X.natAbs := (limf_ok _ _ (Nat.le_refl _)).2 k h
theorem lim_le {X : Int} {n : Nat} (h : X.natAbs < 1000000000 ^ n) : lim X ≤ n := by
  cases e : lim X with
  | zero => omega
  | succ k =>
    have z := lim_ge e
    have z2 : 1000000000 ^ k < 1000000000 ^ n := by omega
    have z3 : k < n := (Nat.pow_lt_pow_iff_right (by decide)).1 z2
    omega
theorem lim_eq {X : Int} {n : Nat} (h : X.natAbs < 1000000000 ^ n) (h2 : ∀ k, n = k + 1 → 1000000000 ^ k ≤ X.natAbs) : lim X = n := by
  have a := lim_le h
  cases n with
  | zero => omega
  | succ k =>
    have b := h2 k rfl
    have c := lim_lt X
    have d : 1000000000 ^ k < 1000000000 ^ lim X := by omega
    have e : k < lim X := (Nat.pow_lt_pow_iff_right (by decide)).1 d
    omega
theorem lim_abs {X Y : Int} (h : X.natAbs = Y.natAbs) : lim X = lim Y := by unfold lim; rw [h]
theorem lim_zero : lim 0 = 0 := rfl
theorem lim_neg (X : Int) : lim (-X) = lim X := lim_abs (Int.natAbs_neg X)
theorem lim_pos {X : Int} (h : X ≠ 0) : 1 ≤ lim X := by
  have a := lim_lt X
  cases e : lim X with
  | zero => rw [e] at a; simp at a; omega
  | succ k => omega
theorem lim_one : lim 1 = 1 := by decide
theorem lim_mono {X Y : Int} (h : X.natAbs ≤ Y.natAbs) : lim X ≤ lim Y := lim_le (Nat.lt_of_le_of_lt h (lim_lt Y))
theorem lim_mul (X Y : Int) : lim (X * Y) ≤ lim X + lim Y := by
  refine lim_le ?_
  rw [Int.natAbs_mul, Nat.pow_add]
  have a := lim_lt X
  have b := lim_lt Y
  exact Nat.mul_lt_mul'' a b
theorem lim_add (X Y : Int) : lim (X + Y) ≤ max (lim X) (lim Y) + 1 := by
  refine lim_le ?_
  have a := lim_lt X
  have b := lim_lt Y
  have c : (1000000000 : Nat) ^ lim X ≤ 1000000000 ^ max (lim X) (lim Y) := Nat.pow_le_pow_right (by decide) (by omega)
  have d : (1000000000 : Nat) ^ lim Y ≤ 1000000000 ^ max (lim X) (lim Y) := Nat.pow_le_pow_right (by decide) (by omega)
  rw [Nat.pow_succ]
  omega
/-! digits and their value -/
def dg (s : im_S) (x : Int) (n : Nat) : Prop := ∀ k : Int, 1 ≤ k → k ≤ n → 0 ≤ wga s 597 (x + k) ∧ wga s 597 (x + k) < 1000000000
def dv (s : im_S) (x : Int) : Nat → Int
  | 0 => 0
  | n + 1 => dv s x n + wga s 597 (x + ((n : Int) + 1)) * 1000000000 ^ n
theorem dv_co {s s' : im_S} {x y : Int} : ∀ {n : Nat}, (∀ k : Int, 1 ≤ k → k ≤ n → wga s' 597 (y + k) = wga s 597 (x + k)) → dv s' y n = dv s x n
  | 0, _ => rfl
  | n + 1, h => by
    show dv s' y n + _ = dv s x n + _
    rw [dv_co (n := n) (fun k h1 h2 => h k h1 (by omega)), h ((n : Int) + 1) (by omega) (by omega)]
theorem dv_b {s : im_S} {x : Int} : ∀ {n : Nat}, dg s x n → 0 ≤ dv s x n ∧ dv s x n < 1000000000 ^ n
  | 0, _ => ⟨Int.le_refl 0, by show (0 : Int) < 1; decide⟩
  | n + 1, h => by
    have ih := dv_b (n := n) (fun k h1 h2 => h k h1 (by omega))
    have z := h ((n : Int) + 1) (by omega) (by omega)
    show 0 ≤ dv s x n + wga s 597 (x + ((n : Int) + 1)) * 1000000000 ^ n ∧ dv s x n + wga s 597 (x + ((n : Int) + 1)) * 1000000000 ^ n < 1000000000 ^ (n + 1)
    rw [Int.pow_succ]
    generalize wga s 597 (x + ((n : Int) + 1)) = w at z ⊢
    generalize dv s x n = D at ih ⊢
    generalize (1000000000 : Int) ^ n = P at ih ⊢
    have h1 : 0 ≤ w * P := Int.mul_nonneg z.1 (by omega)
    have h2 : w * P ≤ 999999999 * P := Int.mul_le_mul_of_nonneg_right (by omega) (by omega)
    omega
theorem dv_z {s : im_S} {x : Int} {n : Nat} : ∀ {j : Nat}, (∀ k : Int, (n : Int) < k → k ≤ ((n + j : Nat) : Int) → wga s 597 (x + k) = 0) → dv s x (n + j) = dv s x n
  | 0, _ => rfl
  | j + 1, h => by
    show dv s x (n + j) + wga s 597 (x + (((n + j : Nat) : Int) + 1)) * 1000000000 ^ (n + j) = dv s x n
    rw [dv_z (j := j) (fun k h1 h2 => h k h1 (by omega)), h (((n + j : Nat) : Int) + 1) (by omega) (by omega)]
    omega
/-- a store within the span: the value moves by the digit's difference -/
theorem dv_st {s : im_S} {x w : Int} (hx : 0 ≤ x) : ∀ {n k : Nat}, k < n → dv (wpa s 597 (x + ((k : Int) + 1)) w) x n = dv s x n + (w - wga s 597 (x + ((k : Int) + 1))) * 1000000000 ^ k
  | 0, k, h => absurd h (Nat.not_lt_zero k)
  | n + 1, k, h => by
    show dv (wpa s 597 (x + ((k : Int) + 1)) w) x n + wga (wpa s 597 (x + ((k : Int) + 1)) w) 597 (x + ((n : Int) + 1)) * 1000000000 ^ n = dv s x n + wga s 597 (x + ((n : Int) + 1)) * 1000000000 ^ n + (w - wga s 597 (x + ((k : Int) + 1))) * 1000000000 ^ k
    by_cases e : k = n
    · subst e
      rw [wg_same, dv_co (s := s) (x := x) (n := k) (fun j h1 h2 => wg_ne (by omega) (by omega) (by omega))]
      rw [Int.sub_mul]
      omega
    · rw [dv_st hx (n := n) (k := k) (by omega), wg_ne (by omega) (by omega) (by omega)]
      omega
theorem dv_sp {s : im_S} {x : Int} {n : Nat} : ∀ {m : Nat}, dv s x (n + m) = dv s x n + dv s (x + n) m * 1000000000 ^ n
  | 0 => by show dv s x n = dv s x n + 0 * _; omega
  | m + 1 => by
    show dv s x (n + m) + wga s 597 (x + (((n + m : Nat) : Int) + 1)) * 1000000000 ^ (n + m) = dv s x n + (dv s (x + n) m + wga s 597 (x + n + ((m : Int) + 1)) * 1000000000 ^ m) * 1000000000 ^ n
    rw [dv_sp (m := m), Int.add_mul, Int.pow_add]
    have e : x + (((n + m : Nat) : Int) + 1) = x + n + ((m : Int) + 1) := by omega
    rw [e, Int.mul_assoc, Int.mul_comm (1000000000 ^ m) (1000000000 ^ n)]
    omega
/-! a number in memory -/
def num (s : im_S) (x X : Int) : Prop := 0 ≤ x ∧ x + lim X < 700000 ∧ wga s 597 x = (if X < 0 then -(lim X : Int) else lim X) ∧ dg s x (lim X) ∧ dv s x (lim X) = (X.natAbs : Int)
theorem num_mk {s : im_S} {x : Int} {n : Nat} (h0 : 0 ≤ x) (h1 : x + n < 700000) (hd : dg s x n) (ht : n = 0 ∨ wga s 597 (x + n) ≠ 0) (b : Prop) (hb : (b ∧ wga s 597 x = -(n : Int)) ∨ (¬ b ∧ wga s 597 x = n)) {X : Int} (hX : (b → X = -dv s x n) ∧ (¬ b → X = dv s x n)) : num s x X := by
  have z := dv_b hd
  have ea : (X.natAbs : Int) = dv s x n := by
    by_cases c : b
    · rw [hX.1 c]; omega
    · rw [hX.2 c]; omega
  have e : lim X = n := by
    refine lim_eq ?_ (fun k hk => ?_)
    · have q : ((X.natAbs : Nat) : Int) < ((1000000000 ^ n : Nat) : Int) := by rw [ea, Int.natCast_pow]; exact z.2
      exact Int.ofNat_lt.1 q
    · subst hk
      have q : ((1000000000 ^ k : Nat) : Int) ≤ ((X.natAbs : Nat) : Int) := by
        rw [ea, Int.natCast_pow]
        show (1000000000 : Int) ^ k ≤ dv s x k + wga s 597 (x + ((k : Int) + 1)) * 1000000000 ^ k
        have z1 := (dv_b (s := s) (x := x) (n := k) (fun j h1 h2 => hd j h1 (by omega))).1
        have z2 := hd ((k : Int) + 1) (by omega) (by omega)
        have z3 : wga s 597 (x + ((k : Int) + 1)) ≠ 0 := by
          rcases ht with q | q
          · omega
          · exact q
        have z4 : (0 : Int) ≤ 1000000000 ^ k := Int.pow_nonneg (by decide)
        have z5 : 1 * (1000000000 : Int) ^ k ≤ wga s 597 (x + ((k : Int) + 1)) * 1000000000 ^ k := Int.mul_le_mul_of_nonneg_right (by omega) z4
        omega
      exact Int.ofNat_le.1 q
  unfold num
  rw [e]
  refine ⟨h0, h1, ?_, hd, ea.symm⟩
  rcases hb with ⟨c, q⟩ | ⟨c, q⟩
  · have e3 := hX.1 c
    rw [q]
    by_cases c2 : X < 0
    · rw [if_pos c2]
    · have c3 : X = 0 := by omega
      rw [c3] at e
      have e4 : n = 0 := by rw [← e]; rfl
      rw [if_neg c2, e4]; rfl
  · have e3 := hX.2 c
    rw [q, if_neg (by omega)]
theorem num_lim {s : im_S} {x X : Int} (h : num s x X) : (if 0 ≤ wga s 597 x then wga s 597 x else -wga s 597 x) = lim X := by
  rw [h.2.2.1]
  by_cases c : X < 0
  · rw [if_pos c]
    have := lim_pos (X := X) (by omega)
    rw [if_neg (by omega)]
    omega
  · rw [if_neg c, if_pos (by omega)]
def sg (X : Int) : Int := if X < 0 then -1 else if X = 0 then 0 else 1
theorem num_sg {s : im_S} {x X : Int} (h : num s x X) : (if wga s 597 x ≤ 0 then (if 0 ≤ wga s 597 x then (0 : Int) else -1) else 1) = sg X := by
  rw [h.2.2.1]
  unfold sg
  by_cases c : X < 0
  · have := lim_pos (X := X) (by omega)
    rw [if_pos c, if_pos c, if_pos (by omega), if_neg (by omega)]
  · rw [if_neg c, if_neg c]
    by_cases c2 : X = 0
    · subst c2
      rfl
    · have := lim_pos (X := X) c2
      rw [if_neg c2, if_neg (by omega)]
theorem num_co {s s' : im_S} {x y X : Int} (h : num s x X) (h0 : 0 ≤ y) (h1 : y + lim X < 700000) (hc : ∀ k : Int, 0 ≤ k → k ≤ lim X → wga s' 597 (y + k) = wga s 597 (x + k)) : num s' y X := by
  refine ⟨h0, h1, ?_, fun k a b => ?_, ?_⟩
  · have z := hc 0 (by omega) (by omega)
    rw [Int.add_zero, Int.add_zero] at z
    rw [z]; exact h.2.2.1
  · rw [hc k (by omega) b]; exact h.2.2.2.1 k a b
  · rw [dv_co (s := s) (x := x) (fun k a b => hc k (by omega) b)]; exact h.2.2.2.2
theorem num_ag {s s' : im_S} {x X lo hi : Int} (h : num s x X) (ha : ag lo hi s s') (hb : x + lim X < lo ∨ hi ≤ x) : num s' x X := by
  have := h.1
  exact num_co h h.1 h.2.1 (fun k a b => ag_m ha (by omega) (by omega))
theorem num_top {s : im_S} {x X : Int} (h : num s x X) {k : Nat} (hk : lim X = k + 1) : 1 ≤ wga s 597 (x + ((k : Int) + 1)) := by
  have z := lim_ge hk
  have z2 := h.2.2.2.2
  have hd := h.2.2.2.1
  rw [hk] at z2 hd
  have z3 : dv s x k + wga s 597 (x + ((k : Int) + 1)) * 1000000000 ^ k = (X.natAbs : Int) := z2
  have z4 := (dv_b (s := s) (x := x) (n := k) (fun j h1 h2 => hd j h1 (by omega))).2
  have z5 := hd ((k : Int) + 1) (by omega) (by omega)
  have z6 : ((1000000000 ^ k : Nat) : Int) ≤ ((X.natAbs : Nat) : Int) := Int.ofNat_le.2 z
  rw [Int.natCast_pow] at z6
  have z7 : wga s 597 (x + ((k : Int) + 1)) ≠ 0 := by
    intro e
    rw [e] at z3
    have z8 : ((1000000000 : Nat) : Int) ^ k = (1000000000 : Int) ^ k := rfl
    omega
  omega
/-- a number below the top (or in the reserve) -/
def na (s : im_S) (x X : Int) : Prop := num s x X ∧ (x + lim X < wgf s 24 ∨ 684000 ≤ x)
/-- a step: memory from the top on, the top not lower -/
def st (s s' : im_S) : Prop := ag (wgf s 24) 684000 s s' ∧ wgf s 24 ≤ wgf s' 24
theorem st_rfl {s : im_S} : st s s := ⟨ag_rfl, Int.le_refl _⟩
theorem st_tr {s s1 s2 : im_S} (h1 : st s s1) (h2 : st s1 s2) : st s s2 := ⟨ag_tr h1.1 (ag_mono h2.1 h1.2 (Int.le_refl _)), Int.le_trans h1.2 h2.2⟩
theorem st_na {s s' : im_S} {x X : Int} (h : st s s') (hn : na s x X) : na s' x X := ⟨num_ag hn.1 h.1 hn.2, by have := h.2; have := hn.2; omega⟩
