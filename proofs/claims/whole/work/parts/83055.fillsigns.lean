/-! fillSigns BY VALUE -/
/-- the mark left of the j-th root from the right's end: from above all roots downwards -/
def mkd (L : Int) (m : Nat → Nat) (N : Nat) : Nat → Int
  | 0 => L
  | j + 1 => if m (N - (j + 1)) % 2 = 1 then -(mkd L m N j) else mkd L m N j
theorem mkd_b {L : Int} {m : Nat → Nat} {N : Nat} (h : L = -1 ∨ L = 0 ∨ L = 1) : ∀ j, mkd L m N j = -1 ∨ mkd L m N j = 0 ∨ mkd L m N j = 1
  | 0 => h
  | j + 1 => by
    show (if m (N - (j + 1)) % 2 = 1 then -(mkd L m N j) else mkd L m N j) = -1 ∨ (if m (N - (j + 1)) % 2 = 1 then -(mkd L m N j) else mkd L m N j) = 0 ∨ (if m (N - (j + 1)) % 2 = 1 then -(mkd L m N j) else mkd L m N j) = 1
    have := mkd_b (m := m) (N := N) h j
    split <;> omega
theorem c8_s {x : Int} (h : x = -1 ∨ x = 0 ∨ x = 1) : c8 x = x := by
  rcases h with q | q | q <;> subst q <;> decide
theorem cmp_sg {x v : Int} (h : v = if (0 : Int) ≤ x then (if ¬ (x = 0) then 1 else 0) else -1) : v = x.sign := by
  rcases Int.lt_trichotomy x 0 with c | c | c
  · rw [h, cmp_lt c, Int.sign_eq_neg_one_of_neg c]
  · rw [h, cmp_eq c, c]; rfl
  · rw [h, cmp_gt c, Int.sign_eq_one_of_pos c]
theorem sg_3 (x : Int) : x.sign = -1 ∨ x.sign = 0 ∨ x.sign = 1 := by
  rcases Int.lt_trichotomy x 0 with c | c | c
  · exact Or.inl (Int.sign_eq_neg_one_of_neg c)
  · subst c; exact Or.inr (Or.inl rfl)
  · exact Or.inr (Or.inr (Int.sign_eq_one_of_pos c))
theorem fillSigns_v {s : im_S} {a N : Nat} {P : List Int} {L : Int} {m : Nat → Nat} {Q : im_S → Prop} (ha : a < 10) (hN : N ≤ 80) (hz : s.1 1 4 = (N : Int)) (hP : ply s (61 + 2 * a) P) (hL : L = (ldc (s.1 (61 + 2 * a) 0) P).sign) (hm : ∀ k, k < N → ∃ j o : Nat, j < 80 ∧ o < 80 ∧ s.2 577 k = (j : Int) ∧ s.1 (311 + 3 * j) 0 = (o : Int) ∧ s.2 246 (10 * o + a) = (m k : Int) ∧ m k ≤ 999999) (hQ : ∀ s', (∀ i, i ≤ N → s'.2 578 (20 * (N - i) + a) = mkd L m N i) → (∀ i, i < N → s'.2 578 (20 * (N - (i + 1)) + 10 + a) = if m (N - (i + 1)) = 0 then mkd L m N i else 0) → (∀ q, q % 10 ≠ a → s'.2 578 q = s.2 578 q) → gfr (fun _ _ => False) (fun c => c = 578) s s' → Q s') : C_fillSigns4 (a : Int) s Q := by
  have L3 : L = -1 ∨ L = 0 ∨ L = 1 := by rw [hL]; exact sg_3 _
  unfold C_fillSigns4
  rw [Int.toNat_natCast]
  refine lead6_b hP (fun z ez s1 e1 => ?_)
  have zL : z = L := by rw [hL]; exact cmp_sg ez
  subst zL
  rw [show cgf s 1 4 = (N : Int) from hz, w32_id (x := 2 * (N : Int)) (by omega) (by omega), w32_id (x := 2 * (N : Int) * 10) (by omega) (by omega), w32_id (x := 2 * (N : Int) * 10 + a) (by omega) (by omega), c8_s L3] at e1
  have r1 : ∀ k, s1.2 578 k = if k = 20 * N + a then z else s.2 578 k := fun k => by
    rw [e1, cpa_row, show (2 * (N : Int) * 10 + a).toNat = 20 * N + a by omega]
  have g1 : gfr (fun _ _ => False) (fun c => c = 578) s s1 := by subst e1; exact gfr_pa (gfr_refl _ _ _) rfl
  rw [show cgf s1 1 4 = (N : Int) by show s1.1 1 4 = _; rw [g1.1 _ _ (fun z => z)]; exact hz, w32_id (x := (N : Int) - 1) (by omega) (by omega)]
  refine ⟨fun b => ∃ j : Nat, j ≤ N ∧ b.2.1 = (N : Int) - 1 - j ∧ b.1 = mkd z m N j ∧ (∀ i, i ≤ j → b.2.2.2 578 (20 * (N - i) + a) = mkd z m N i) ∧ (∀ i, i < j → b.2.2.2 578 (20 * (N - (i + 1)) + 10 + a) = if m (N - (i + 1)) = 0 then mkd z m N i else 0) ∧ (∀ q, q % 10 ≠ a → b.2.2.2 578 q = s.2 578 q) ∧ gfr (fun _ _ => False) (fun c => c = 578) s b.2.2, ⟨0, by omega, by dsimp only; omega, rfl, fun i hi => by
    dsimp only
    rw [r1, if_pos (by omega), show i = 0 by omega]; rfl, fun i hi => by omega, fun q hq => by dsimp only; rw [r1, if_neg (by omega)], g1⟩, ?_⟩
  rintro ⟨y, x, s2⟩ ⟨j, jN, ex, ey, b1, b2, b3, g2⟩
  dsimp only at ex ey b1 b2 b3 g2 ⊢
  refine ⟨fun c => ?_, fun c => ?_⟩
  · have : j = N := by omega
    subst this
    exact hQ s2 b1 b2 b3 g2
  · obtain ⟨k, hk⟩ : ∃ k : Nat, k = N - (j + 1) := ⟨_, rfl⟩
    have xk : x = (k : Int) := by omega
    subst xk
    obtain ⟨jr, o, jr80, o80, w1, w2, w3, w4⟩ := hm k (by omega)
    refine min_J (max_J (fun _ => ?_))
    rw [show max 0 (min (k : Int) 79) = (k : Int) by omega, show cga s2 577 (k : Int) = (jr : Int) by show s2.2 577 ((k : Nat) : Int).toNat = _; rw [Int.toNat_natCast, g2.2 577 (by decide)]; exact w1, Int.toNat_natCast]
    show C_multiplicity0 (cgf s2 (311 + 3 * jr) 0) (a : Int) s2 _
    unfold C_multiplicity0
    rw [show cgf s2 (311 + 3 * jr) 0 = (o : Int) by show s2.1 _ _ = _; rw [g2.1 _ _ (fun z => z)]; exact w2]
    intro _
    have em : cga s2 246 (w32 (w32 ((o : Int) * 10) + (a : Int))) = (m k : Int) := by
      rw [w32_id (x := (o : Int) * 10) (by omega) (by omega), w32_id (x := (o : Int) * 10 + a) (by omega) (by omega)]
      show s2.2 246 ((o : Int) * 10 + a).toNat = _
      rw [show ((o : Int) * 10 + a).toNat = 10 * o + a by omega, g2.2 246 (by decide)]
      exact w3
    rw [em]
    intro v ev s3 e3 v2 ev2 s4 e4
    rw [remI_2 w4] at ev2
    have y3 := mkd_b (m := m) (N := N) L3 j
    rw [← ey] at y3
    have v3 : v = if m k = 0 then y else 0 := by
      rw [ev]
      by_cases q : m k = 0
      · rw [if_pos (by omega), if_pos q]
      · rw [if_neg (by omega), if_neg q]
    have v8 : v = -1 ∨ v = 0 ∨ v = 1 := by rw [v3]; split <;> omega
    have u3 : v2 = mkd z m N (j + 1) := by
      show v2 = if m (N - (j + 1)) % 2 = 1 then -(mkd z m N j) else mkd z m N j
      rw [ev2, ← hk, ← ey]
      by_cases q : m k % 2 = 1
      · rw [if_pos q, if_neg (by omega), w32_id (by omega) (by omega)]
      · rw [if_neg q, if_pos (by omega)]
    have u8 : v2 = -1 ∨ v2 = 0 ∨ v2 = 1 := by rw [u3]; exact mkd_b L3 _
    rw [w32_id (x := 2 * (k : Int)) (by omega) (by omega), w32_id (x := 2 * (k : Int) + 1) (by omega) (by omega), w32_id (x := (2 * (k : Int) + 1) * 10) (by omega) (by omega), w32_id (x := (2 * (k : Int) + 1) * 10 + a) (by omega) (by omega), c8_s v8] at e3
    rw [w32_id (x := 2 * (k : Int)) (by omega) (by omega), w32_id (x := 2 * (k : Int) * 10) (by omega) (by omega), w32_id (x := 2 * (k : Int) * 10 + a) (by omega) (by omega), c8_s u8] at e4
    have row : ∀ q, s4.2 578 q = if q = 20 * k + a then v2 else if q = 20 * k + 10 + a then v else s2.2 578 q := fun q => by
      rw [e4, cpa_row, show (2 * (k : Int) * 10 + a).toNat = 20 * k + a by omega, e3, cpa_row, show ((2 * (k : Int) + 1) * 10 + a).toNat = 20 * k + 10 + a by omega]
    have g4 : gfr (fun _ _ => False) (fun c => c = 578) s s4 := by subst e4; subst e3; exact gfr_pa (gfr_pa g2 rfl) rfl
    refine ⟨j + 1, by omega, by dsimp only; rw [w32_id (by omega) (by omega)]; omega, u3, fun i hi => ?_, fun i hi => ?_, fun q hq => ?_, g4⟩
    · dsimp only
      rw [row]
      by_cases q : i = j + 1
      · subst q
        rw [if_pos (by omega)]; exact u3
      · rw [if_neg (by omega), if_neg (by omega)]
        exact b1 i (by omega)
    · dsimp only
      rw [row]
      by_cases q : i = j
      · subst q
        rw [if_neg (by omega), if_pos (by omega), ← hk, ← ey]; exact v3
      · rw [if_neg (by omega), if_neg (by omega)]
        exact b2 i (by omega)
    · dsimp only
      rw [row, if_neg (by omega), if_neg (by omega)]
      exact b3 q hq
