/-! THE SIGN ON THE LEFT OF A ROOT, told by how many roots are on its right -/
/-- marks from the last root down: fl k = 0 where root k is no fraction -/
def mkv (fl : Nat → Int) (m : Nat) : Nat → Int
  | 0 => 1
  | j + 1 => if fl (m - 1 - j) = 0 then - mkv fl m j else mkv fl m j
theorem mkv_1 (fl : Nat → Int) (m : Nat) : ∀ j, mkv fl m j = 1 ∨ mkv fl m j = -1
  | 0 => Or.inl rfl
  | j + 1 => by
    have ih := mkv_1 fl m j
    show (if fl (m - 1 - j) = 0 then - mkv fl m j else mkv fl m j) = 1 ∨ (if fl (m - 1 - j) = 0 then - mkv fl m j else mkv fl m j) = -1
    split <;> omega
theorem mkv_k (fl : Nat → Int) {m k : Nat} (h : k < m) : mkv fl m (m - k) = if fl k = 0 then - mkv fl m (m - (k + 1)) else mkv fl m (m - (k + 1)) := by
  rw [show m - k = (m - (k + 1)) + 1 by omega]
  show (if fl (m - 1 - (m - (k + 1))) = 0 then _ else _) = _
  rw [show m - 1 - (m - (k + 1)) = k by omega]
/-- c lies left of c' -/
def lft9 (c c' : Rat → Int) : Prop := ∃ x : Rat, (c x = -1 ∧ c' x = 1) ∨ (c x = 0 ∧ c' x = 1) ∨ (c x = -1 ∧ c' x = 0)
theorem lft9_r {c c' : Rat → Int} (h : cut c) (h' : cut c') (l : lft9 c c') {y : Rat} (hy : c' y ≠ 1) : c y = -1 := by
  obtain ⟨x, w⟩ := l
  have xy : c' x ≠ -1 ∧ c x ≠ 1 := by
    rcases w with w | w | w <;> omega
  -- y is not left of x
  rcases w with ⟨a, b⟩ | ⟨a, b⟩ | ⟨a, b⟩
  · exact cut_ge1 h a (Rat.le_of_lt (cnt_le h' b hy))
  · have := cnt_le h' b hy
    refine Classical.byContradiction fun n => ?_
    have := h.2.1 x y this n
    omega
  · refine cut_ge1 h a (Rat.not_lt.1 fun z => hy (h'.2.1 y x z (by rw [b]; decide)))
theorem lft9_l {c c' : Rat → Int} (h : cut c) (h' : cut c') (l : lft9 c c') {y : Rat} (hy : c y ≠ -1) : c' y = 1 := by
  refine Classical.byContradiction fun n => hy (lft9_r h h' l n)
theorem lft9_ne {c c' : Rat → Int} (h : cut c) (l : lft9 c c') : c ≠ c' := fun e => by
  obtain ⟨x, w⟩ := l
  rw [e] at w
  rcases w with w | w | w <;> omega
theorem lps_far {F : List Int} (h : lps F) (x : Rat) : ∃ y : Rat, x < y ∧ 0 < pev F y := by
  obtain ⟨⟨d, hd, d0⟩, _⟩ := h
  have go : ∀ (d : Nat) (F : List Int), pdb F (d + 1) → 0 < pgt F d → ∃ B : Rat, 0 ≤ B ∧ ∀ y : Rat, B < y → 1 ≤ pev F y := by
    intro d
    induction d with
    | zero =>
      intro F hF h0
      refine ⟨0, Rat.le_refl, fun y _ => ?_⟩
      rw [cst9_ev (fun k => hF (k + 1) (by omega)) y]
      have : ((1 : Int) : Rat) ≤ (pgt F 0 : Rat) := Rat.intCast_le_intCast.2 (by omega)
      exact this
    | succ d ih =>
      intro F hF h0
      match F with
      | [] => exact absurd h0 (by show ¬ (0 : Int) < 0; decide)
      | a :: p =>
        obtain ⟨B, B0, hB⟩ := ih p (fun k hk => hF (k + 1) (by omega)) h0
        obtain ⟨r1, r2⟩ := rb_int a
        have n0 := rat_nn a.natAbs
        refine ⟨B + (a.natAbs : Rat) + 1, by grind, fun y hy => ?_⟩
        have v := hB y (by grind)
        rw [pev_c]
        have m := Rat.mul_le_mul_of_nonneg_left v (show 0 ≤ y by grind)
        grind
  obtain ⟨B, B0, hB⟩ := go d F hd d0
  obtain ⟨z, hz⟩ : ∃ z : Rat, x < z ∧ B < z := by
    by_cases c : x ≤ B
    · exact ⟨B + 1, by grind, by grind⟩
    · exact ⟨x + 1, by grind, by grind⟩
  exact ⟨z, hz.1, by have := hB z hz.2; grind⟩
/-- the sign of P where its turns from k on are on the right -/
theorem sg_marks {P : List Int} {m : Nat} {fl : Nat → Int} {cs : Nat → Rat → Int} {L R : Nat → Rat} {T : Nat → Int} (sq : sqf P) (hl : lps P) (hc : ∀ k, k < m → cut (cs k)) (hr : ∀ i j, i < j → j < m → lft9 (cs i) (cs j)) (hn : ∀ k, k < m → fl k = 0 → rtc P (cs k) ∧ iso P (L k) (R k) (T k) ∧ cs k (L k) = 1 ∧ cs k (R k) = -1) (ha : ∀ c : Rat → Int, cut c → rtc P c → ∃ k, k < m ∧ fl k = 0 ∧ c = cs k) : ∀ (j k : Nat), k + j = m → (∀ x : Rat, pev P x ≠ 0 → (∀ i, i < m → fl i = 0 → (k ≤ i → cs i x = 1) ∧ (i < k → cs i x = -1)) → rsg (pev P x) = mkv fl m (m - k)) ∧ (k < m → fl k = 0 → T k = mkv fl m (m - k))
  | 0, k, e => by
    have km : k = m := by omega
    subst km
    refine ⟨fun x nx hx => ?_, fun z => by omega⟩
    obtain ⟨y, xy, py⟩ := lps_far hl x
    rw [same_sg sq xy nx (by grind) (fun c cc ct c1 c2 => by
      obtain ⟨i, i1, i2, i3⟩ := ha c cc ct
      have := (hx i i1 i2).2 i1
      rw [i3] at c1
      omega), rsg_pos py, Nat.sub_self]
    rfl
  | j + 1, k, e => by
    have km : k < m := by omega
    obtain ⟨ih, _⟩ := sg_marks sq hl hc hr hn ha j (k + 1) (by omega)
    have mk := mkv_k fl km
    by_cases fz : fl k = 0
    · rw [if_pos fz] at mk
      obtain ⟨ct, is, cl, cr⟩ := hn k km fz
      have nin : ∀ i, i < m → fl i = 0 → i ≠ k → ¬ (cs i (L k) ≠ -1 ∧ cs i (R k) ≠ 1) := fun i i1 i2 ne w => by
        have e1 : cs i = cs k := funext fun x => by
          rw [ict_u is (hc i i1) w.1 w.2 (hn i i1 i2).1 x, ict_u is (hc k km) (by rw [cl]; decide) (by rw [cr]; decide) ct x]
        rcases Nat.lt_or_gt_of_ne ne with q | q
        · exact lft9_ne (hc i i1) (hr i k q km) e1
        · exact lft9_ne (hc k km) (hr k i q i1) e1.symm
      have sideR : ∀ i, i < m → fl i = 0 → (k < i → cs i (L k) = 1 ∧ cs i (R k) = 1) ∧ (i < k → cs i (L k) = -1 ∧ cs i (R k) = -1) := fun i i1 i2 => by
        constructor
        · intro ki
          have a := lft9_l (hc k km) (hc i i1) (hr k i ki i1) (y := L k) (by rw [cl]; decide)
          refine ⟨a, Classical.byContradiction fun w => nin i i1 i2 (by omega) ⟨by rw [a]; decide, w⟩⟩
        · intro ik
          have a := lft9_r (hc i i1) (hc k km) (hr i k ik km) (y := R k) (by rw [cr]; decide)
          refine ⟨Classical.byContradiction fun w => nin i i1 i2 (by omega) ⟨w, by rw [a]; decide⟩, a⟩
      have nR : pev P (R k) ≠ 0 := fun z => by
        have := is.2.2.2.1
        rw [z, show rsg 0 = 0 by decide] at this
        have := is.2.1
        omega
      have nL : pev P (L k) ≠ 0 := fun z => by
        have := is.2.2.1
        rw [z, show rsg 0 = 0 by decide] at this
        have := is.2.1
        omega
      have sR := ih (R k) nR (fun i i1 i2 => ⟨fun ki => ((sideR i i1 i2).1 (by omega)).2, fun ik => by
        by_cases c : i = k
        · rw [c]; exact cr
        · exact ((sideR i i1 i2).2 (by omega)).2⟩)
      have Tk : T k = mkv fl m (m - k) := by
        rw [mk, ← sR, is.2.2.2.1]
        omega
      refine ⟨fun x nx hx => ?_, fun _ _ => Tk⟩
      rw [← Tk, ← is.2.2.1]
      have no : ∀ c : Rat → Int, cut c → rtc P c → ¬ (c x = 1 ∧ c (L k) = -1) ∧ ¬ (c (L k) = 1 ∧ c x = -1) := fun c cc ct' => by
        obtain ⟨i, i1, i2, i3⟩ := ha c cc ct'
        subst i3
        have hxi := hx i i1 i2
        by_cases ki : k ≤ i
        · have a := hxi.1 ki
          have b : cs i (L k) = 1 := by
            by_cases c : i = k
            · rw [c]; exact cl
            · exact ((sideR i i1 i2).1 (by omega)).1
          omega
        · have a := hxi.2 (by omega)
          have b := ((sideR i i1 i2).2 (by omega)).1
          omega
      rcases rlt_tri x (L k) with w | w | w
      · exact same_sg sq w nx nL (fun c cc ct' c1 c2 => (no c cc ct').1 ⟨c1, c2⟩)
      · rw [w]
      · exact (same_sg sq w nL nx (fun c cc ct' c1 c2 => (no c cc ct').2 ⟨c1, c2⟩)).symm
    · rw [if_neg fz] at mk
      refine ⟨fun x nx hx => ?_, fun _ z => absurd z fz⟩
      rw [mk]
      refine ih x nx (fun i i1 i2 => ⟨fun ki => (hx i i1 i2).1 (by omega), fun ik => (hx i i1 i2).2 ?_⟩)
      have : i ≠ k := fun z => fz (by rw [← z]; exact i2)
      omega
theorem setSigns_v {from9 m : Nat} {s : im_S} {Q : im_S → Prop} (hm : s.1 83 3 = ((from9 + m : Nat) : Int)) (h80 : from9 + m ≤ 80) (hQ : ∀ s', gfr (fun c f => (311 + 3 * from9 ≤ c ∧ c < 311 + 3 * (from9 + m)) ∧ c % 3 = 2 ∧ f = 9) (fun _ => False) s s' → (∀ k, k < m → s.1 (311 + 3 * (from9 + k)) 1 = 0 → s'.1 (311 + 3 * (from9 + k)) 9 = mkv (fun k => s.1 (311 + 3 * (from9 + k)) 1) m (m - k)) → Q s') : C_setSigns3 (from9 : Int) s Q := by
  obtain ⟨fl, hfl⟩ : ∃ fl : Nat → Int, fl = fun k => s.1 (311 + 3 * (from9 + k)) 1 := ⟨_, rfl⟩
  rw [← hfl] at hQ
  refine ⟨fun a => ∃ j : Nat, j ≤ m ∧ a.1 = mkv fl m j ∧ a.2.1 = ((from9 + m : Nat) : Int) - 1 - j ∧ gfr (fun c f => (311 + 3 * from9 ≤ c ∧ c < 311 + 3 * (from9 + m)) ∧ c % 3 = 2 ∧ f = 9) (fun _ => False) s a.2.2 ∧ ∀ k, k < m → m ≤ k + j → s.1 (311 + 3 * (from9 + k)) 1 = 0 → a.2.2.1 (311 + 3 * (from9 + k)) 9 = mkv fl m (m - k), ⟨0, by omega, rfl, ?_, gfr_refl _ _ _, fun k k1 k2 => by omega⟩, ?_⟩
  · dsimp only; rw [show cgf s 83 3 = _ from hm, w32_id (by omega) (by omega)]; omega
  rintro ⟨x, y, s1⟩ ⟨j, jm, ex, ey, f1, h1⟩
  dsimp only at ex ey f1 h1 ⊢
  subst ex
  subst ey
  refine ⟨fun c => hQ s1 f1 (fun k k1 k2 => h1 k k1 (by omega) k2), fun c => ?_⟩
  obtain ⟨k0, hk0⟩ : ∃ k0, k0 = m - 1 - j := ⟨_, rfl⟩
  have jm' : j < m := by omega
  have ei : (((from9 + m : Nat) : Int) - 1 - (j : Int)).toNat = from9 + k0 := by omega
  rw [ei]
  have nx : w32 (((from9 + m : Nat) : Int) - 1 - (j : Int) + -1) = ((from9 + m : Nat) : Int) - 1 - ((j + 1 : Nat) : Int) := by rw [w32_id (by omega) (by omega)]; omega
  have fs : s1.1 (311 + 3 * (from9 + k0)) 1 = s.1 (311 + 3 * (from9 + k0)) 1 := f1.1 _ _ (by omega)
  have flk : fl (m - 1 - j) = s.1 (311 + 3 * (from9 + k0)) 1 := by rw [hfl, ← hk0]
  have m1 := mkv_1 fl m j
  have mj : m - k0 = j + 1 := by omega
  refine ⟨fun nz => ⟨j + 1, by omega, ?_, nx, f1, fun k k1 k2 k3 => ?_⟩, fun z s2 e2 => ⟨j + 1, by omega, ?_, nx, ?_, fun k k1 k2 k3 => ?_⟩⟩
  · have nz' : s1.1 (311 + 3 * (from9 + k0)) 1 ≠ 0 := nz
    show mkv fl m j = if fl (m - 1 - j) = 0 then - mkv fl m j else mkv fl m j
    rw [if_neg (by rw [flk, ← fs]; exact nz')]
  · by_cases ck : k = k0
    · exfalso
      have nz' : s1.1 (311 + 3 * (from9 + k0)) 1 ≠ 0 := nz
      rw [fs, ← ck] at nz'
      exact nz' k3
    · exact h1 k k1 (by omega) k3
  · have z' : s1.1 (311 + 3 * (from9 + k0)) 1 = 0 := z
    show w32 (- mkv fl m j) = if fl (m - 1 - j) = 0 then - mkv fl m j else mkv fl m j
    rw [if_pos (by rw [flk, ← fs]; exact z'), w32_id (by omega) (by omega)]
  · subst e2
    exact gfr_pf f1 (by omega)
  · subst e2
    dsimp only
    by_cases ck : k = k0
    · subst ck
      have z' : s1.1 (311 + 3 * (from9 + k)) 1 = 0 := z
      rw [cpf_same, mj]
      show w32 (- mkv fl m j) = if fl (m - 1 - j) = 0 then - mkv fl m j else mkv fl m j
      rw [if_pos (by rw [flk, ← fs]; exact z'), w32_id (by omega) (by omega)]
    · rw [cpf_ne (by omega)]
      exact h1 k k1 (by omega) k3
