/-! TWO COPRIME PIECES DON'T TURN WITHIN ONE INTERVAL OF 640 BITS -/
def tab2 (N H : Nat) : Prop := N * (81 * H) * (N * H) ^ (N - 1) < 2 ^ 640
theorem tab2_16 : tab2 16 1000000000 := by unfold tab2; decide +kernel
theorem tab2_15 : tab2 15 8000000000 := by unfold tab2; decide +kernel
theorem tab2_n : ∀ N, N < 15 → tab2 N 310000000000 := by unfold tab2; decide +kernel
theorem pat_d {P : List Int} {d : Nat} (hp : pat P) (hP : pdb P (d + 1)) (top : pgt P d ≠ 0) : d ≤ 8 ∧ pab P 310000000000 ∧ (d = 8 → pab P 1000000000) ∧ (d = 7 → pab P 8000000000) := by
  obtain ⟨g, a, ga, f1, _, _, _, _, bF, _, b8, _, f2, _⟩ := pat_sz (F := P) (G := P) (F1 := [1]) hp (fun x => by
    show pev P x = pev P x * (((1 : Int) : Rat) + x * 0)
    rw [rat_i1]
    grind)
  have ed : g + a = d := by
    rcases Nat.lt_trichotomy (g + a) d with q | q | q
    · exact absurd (f1 d (by omega)) top
    · exact q
    · exact absurd (hP (g + a) (by omega)) f2
  refine ⟨by omega, bF, fun h => b8 (by omega), fun h => ?_⟩
  subst h
  obtain ⟨A, Q, e, a9, a0, ab⟩ := hp
  exact p7_bd hP top e a9 a0 ab
theorem pab_mono {P : List Int} {H H' : Nat} (h : pab P H) (hh : H ≤ H') : pab P H' := fun k => Nat.le_trans (h k) hh
theorem size2 {A B : List Int} {a b : Nat} (pA : pat A) (hA : pdb A (a + 1)) (tA : pgt A a ≠ 0) (pB : pat B) (hB : pdb B (b + 1)) (tB : pgt B b ≠ 0) : ∃ H : Nat, pab A H ∧ pab B H ∧ tab2 (b + a) H := by
  obtain ⟨a8, a1, a2, a3⟩ := pat_d pA hA tA
  obtain ⟨b8, b1, b2, b3⟩ := pat_d pB hB tB
  by_cases c : b + a < 15
  · exact ⟨_, a1, b1, tab2_n _ c⟩
  · by_cases c2 : a = 8
    · by_cases c3 : b = 8
      · subst c2; subst c3
        exact ⟨_, a2 rfl, b2 rfl, tab2_16⟩
      · have : b = 7 := by omega
        subst c2; subst this
        exact ⟨_, pab_mono (a2 rfl) (by decide), b3 rfl, tab2_15⟩
    · have h1 : a = 7 := by omega
      have h2 : b = 8 := by omega
      subst h1; subst h2
      exact ⟨_, a3 rfl, pab_mono (b2 rfl) (by decide), tab2_15⟩
theorem sep_unit {a b H : Nat} {A B : List Int} {l r : Rat} (a1 : 1 ≤ a) (a8 : a ≤ 8) (b8 : b ≤ 8) (hA : pdb A (a + 1)) (hB : pdb B (b + 1)) (bA : pab A H) (bB : pab B H) (inj : inj2 a b A B) (tab : tab2 (b + a) H) (hl : rb l 1) (hr : rb r 1) (hlr : l < r) (hw : (r - l) * ((2 ^ 640 : Nat) : Rat) ≤ 1) (sA : pev A l * pev A r < 0) (sB : pev B l * pev B r < 0) : False := by
  refine sep2_core a1 hA hB bA bB inj hl (lip1 hA a8 bA hl hr hlr sA) (lip1 hB b8 bB hl hr hlr sB) ?_
  have T := Rat.natCast_lt_natCast.2 tab
  rw [Rat.natCast_mul, Rat.natCast_mul, Rat.natCast_mul, Rat.natCast_pow, Rat.natCast_mul, show ((81 : Nat) : Rat) = 81 from rfl] at T
  have w0 : 0 < r - l := by grind
  generalize ((2 ^ 640 : Nat) : Rat) = Z at T hw
  generalize ((b + a : Nat) : Rat) = N at T ⊢
  generalize (N * (H : Rat)) ^ (b + a - 1) = X at T ⊢
  have m := Rat.mul_lt_mul_of_pos_left T w0
  have e : N * ((r - l) * (81 * (H : Rat))) * X = (r - l) * (N * (81 * (H : Rat)) * X) := by grind
  rw [e]
  grind
theorem inv_p {x y : Rat} (h : y * x = 1) (hx : 1 ≤ x) : 0 < y ∧ y ≤ 1 := by
  have y0 : 0 < y := Rat.not_le.1 fun k => by
    have := Rat.mul_nonneg (show (0 : Rat) ≤ -y by grind) (show (0 : Rat) ≤ x by grind)
    grind
  have := Rat.mul_le_mul_of_nonneg_left hx (Rat.le_of_lt y0)
  exact ⟨y0, by grind⟩
theorem inv_n {x y : Rat} (h : y * x = 1) (hx : x ≤ -1) : -1 ≤ y ∧ y < 0 := by
  have := inv_p (x := -x) (y := -y) (by grind) (by grind)
  exact ⟨by grind, by grind⟩
theorem pow_ps {u : Rat} (h : 0 < u) : ∀ n : Nat, 0 < u ^ n
  | 0 => by rw [Rat.pow_zero]; decide
  | n + 1 => by rw [Rat.pow_succ]; exact Rat.mul_pos (pow_ps h n) h
theorem rv_sg {A : List Int} {a : Nat} {l r s t : Rat} (hA : pdb A (a + 1)) (hs : s ≠ 0) (ht : t ≠ 0) (es : 1 / s = r) (et : 1 / t = l) (st : 0 < s * t) (h : pev A l * pev A r < 0) : pev (rvl a A) s * pev (rvl a A) t < 0 := by
  rw [rvl_ev hA hs, rvl_ev hA ht, es, et]
  have p : 0 < s ^ a * t ^ a := by rw [← rmul_pow]; exact pow_ps st a
  have e : s ^ a * pev A r * (t ^ a * pev A l) = (s ^ a * t ^ a) * (pev A l * pev A r) := by grind
  rw [e]
  have := Rat.mul_pos p (show 0 < -(pev A l * pev A r) by grind)
  grind
theorem sep_out {a b H : Nat} {A B : List Int} {l r : Rat} (a1 : 1 ≤ a) (b1 : 1 ≤ b) (a8 : a ≤ 8) (b8 : b ≤ 8) (hA : pdb A (a + 1)) (hB : pdb B (b + 1)) (bA : pab A H) (bB : pab B H) (inj : inj2 a b A B) (tab : tab2 (b + a) H) (hlr : l < r) (ho : 1 ≤ l ∨ r ≤ -1) (hw : (r - l) * ((2 ^ 640 : Nat) : Rat) ≤ 1) (sA : pev A l * pev A r < 0) (sB : pev B l * pev B r < 0) : False := by
  have l0 : l ≠ 0 := by grind
  have r0 : r ≠ 0 := by grind
  have sr : (1 / r) * r = 1 := Rat.div_mul_cancel r0
  have tl : (1 / l) * l = 1 := Rat.div_mul_cancel l0
  have es : (1 : Rat) / (1 / r) = r := by grind
  have et : (1 : Rat) / (1 / l) = l := by grind
  generalize (1 / r : Rat) = s at sr es
  generalize (1 / l : Rat) = t at tl et
  obtain ⟨rs, rt, st, st1⟩ : rb s 1 ∧ rb t 1 ∧ 0 < s * t ∧ s * t ≤ 1 := by
    rcases ho with h | h
    · obtain ⟨s0, s1⟩ := inv_p sr (show 1 ≤ r by grind)
      obtain ⟨t0, t1⟩ := inv_p tl h
      have m := Rat.mul_le_mul_of_nonneg_left t1 (Rat.le_of_lt s0)
      exact ⟨⟨by grind, s1⟩, ⟨by grind, t1⟩, Rat.mul_pos s0 t0, by grind⟩
    · obtain ⟨s0, s1⟩ := inv_n sr h
      obtain ⟨t0, t1⟩ := inv_n tl (show l ≤ -1 by grind)
      have m := Rat.mul_le_mul_of_nonneg_left (show -t ≤ 1 by grind) (show 0 ≤ -s by grind)
      have p := Rat.mul_pos (show 0 < -s by grind) (show 0 < -t by grind)
      exact ⟨⟨s0, by grind⟩, ⟨t0, by grind⟩, by grind, by grind⟩
  have s0 : s ≠ 0 := fun z => by rw [z, Rat.zero_mul] at st; grind
  have t0 : t ≠ 0 := fun z => by rw [z, Rat.mul_zero] at st; grind
  have ts : t - s = (s * t) * (r - l) := by
    have : (s * t) * (r - l) = t * (s * r) - s * (t * l) := by grind
    rw [this, sr, tl]; grind
  have d0 : 0 < r - l := by grind
  have p := Rat.mul_pos st d0
  have le : t - s ≤ r - l := by
    rw [ts]
    have := Rat.mul_le_mul_of_nonneg_right st1 (Rat.le_of_lt d0)
    grind
  refine sep_unit (l := s) (r := t) a1 a8 b8 (rvl_pdb a A) (rvl_pdb b B) (rvl_ab bA) (rvl_ab bB) (inj2_r a1 b1 hA hB inj) tab rs rt (by grind) ?_ (rv_sg hA s0 t0 es et st sA) (rv_sg hB s0 t0 es et st sB)
  have Z0 : (0 : Rat) ≤ ((2 ^ 640 : Nat) : Rat) := rat_nn _
  generalize ((2 ^ 640 : Nat) : Rat) = Z at hw Z0 ⊢
  have := Rat.mul_le_mul_of_nonneg_right le Z0
  grind
theorem xv_640 (c : Int) : xv c 640 * ((2 ^ 640 : Nat) : Rat) = c := by
  unfold xv
  rw [if_pos (by decide), show ((640 : Int)).toNat = 640 from rfl, Rat.natCast_pow, show ((2 : Nat) : Rat) = 2 from rfl]
  exact Rat.div_mul_cancel (by have := q2p 640; grind)
theorem apart {A B : List Int} {a b : Nat} {c : Int} (pA : pat A) (hA : pdb A (a + 1)) (tA : pgt A a ≠ 0) (a1 : 1 ≤ a) (pB : pat B) (hB : pdb B (b + 1)) (tB : pgt B b ≠ 0) (b1 : 1 ≤ b) (hc : cop A B) (sA : pev A (xv c 640) * pev A (xv (c + 1) 640) < 0) (sB : pev B (xv c 640) * pev B (xv (c + 1) 640) < 0) : False := by
  obtain ⟨H, hH1, hH2, tab⟩ := size2 pA hA tA pB hB tB
  have a8 := (pat_d pA hA tA).1
  have b8 := (pat_d pB hB tB).1
  have inj := inj2_cop hA tA hB tB hc
  have e1 := xv_640 c
  have e2 := xv_640 (c + 1)
  have lt := xv_lt c 640
  rw [Rat.intCast_add, rat_i1] at e2
  have Z0 : (0 : Rat) < ((2 ^ 640 : Nat) : Rat) := Rat.natCast_pos.2 (Nat.pow_pos (by decide))
  obtain ⟨N, hN⟩ : ∃ N : Nat, N = 2 ^ 640 := ⟨_, rfl⟩
  have hw : (xv (c + 1) 640 - xv c 640) * ((2 ^ 640 : Nat) : Rat) ≤ 1 := by
    generalize ((2 ^ 640 : Nat) : Rat) = Z at e1 e2 ⊢
    grind
  have in1 : (N : Int) ≤ c → 1 ≤ xv c 640 := fun h => by
    have q : ((N : Int) : Rat) ≤ (c : Rat) := Rat.intCast_le_intCast.2 h
    rw [Rat.intCast_natCast] at q
    rw [← e1] at q
    rw [← hN] at q Z0
    exact Rat.le_of_mul_le_mul_right (by rw [Rat.one_mul]; exact q) Z0
  have in2 : c + 1 ≤ -(N : Int) → xv (c + 1) 640 ≤ -1 := fun h => by
    have q : ((c + 1 : Int) : Rat) ≤ ((-(N : Int) : Int) : Rat) := Rat.intCast_le_intCast.2 h
    rw [Rat.intCast_neg, Rat.intCast_natCast, Rat.intCast_add, rat_i1, ← e2] at q
    rw [← hN] at q Z0
    exact Rat.le_of_mul_le_mul_right (by rw [Rat.neg_mul, Rat.one_mul]; exact q) Z0
  by_cases c1 : (N : Int) ≤ c
  · exact sep_out a1 b1 a8 b8 hA hB hH1 hH2 inj tab lt (Or.inl (in1 c1)) hw sA sB
  · by_cases c2 : c + 1 ≤ -(N : Int)
    · exact sep_out a1 b1 a8 b8 hA hB hH1 hH2 inj tab lt (Or.inr (in2 c2)) hw sA sB
    · have lo : -1 ≤ xv c 640 := by
        have q : ((-(N : Int) : Int) : Rat) ≤ (c : Rat) := Rat.intCast_le_intCast.2 (by omega)
        rw [Rat.intCast_neg, Rat.intCast_natCast, ← e1] at q
        rw [← hN] at q Z0
        exact Rat.le_of_mul_le_mul_right (by rw [Rat.neg_mul, Rat.one_mul]; exact q) Z0
      have hi : xv (c + 1) 640 ≤ 1 := by
        have q : ((c + 1 : Int) : Rat) ≤ ((N : Int) : Rat) := Rat.intCast_le_intCast.2 (by omega)
        rw [Rat.intCast_natCast, Rat.intCast_add, rat_i1, ← e2] at q
        rw [← hN] at q Z0
        exact Rat.le_of_mul_le_mul_right (by rw [Rat.one_mul]; exact q) Z0
      exact sep_unit a1 a8 b8 hA hB hH1 hH2 inj tab ⟨lo, by grind⟩ ⟨by grind, hi⟩ lt hw sA sB
