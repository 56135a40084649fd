/-! fillCells BY VALUE -/
/-- the sign in a cell: from the lead downwards, turned where a root counts an odd number of times -/
def sgc (L : Int) (mu : Nat → Nat) (N c : Nat) : Int := if c % 2 = 0 then mkd L mu N (N - c / 2) else if mu (c / 2) = 0 then mkd L mu N (N - (c / 2 + 1)) else 0
theorem sg_tab {r : Nat → Int} {L : Int} {mu : Nat → Nat} {N a : Nat} (h1 : ∀ i, i ≤ N → r (20 * (N - i) + a) = mkd L mu N i) (h2 : ∀ i, i < N → r (20 * (N - (i + 1)) + 10 + a) = if mu (N - (i + 1)) = 0 then mkd L mu N i else 0) {c : Nat} (hc : c ≤ 2 * N) : r (10 * c + a) = sgc L mu N c := by
  unfold sgc
  by_cases q : c % 2 = 0
  · rw [if_pos q, ← h1 (N - c / 2) (by omega)]
    congr 1; omega
  · rw [if_neg q]
    have z := h2 (N - (c / 2 + 1)) (by omega)
    rw [show N - (N - (c / 2 + 1) + 1) = c / 2 by omega] at z
    rw [← z]
    congr 1; omega
def due (w : Int) : Int := if ¬ (w = 0) then (if ¬ (w = 1) then 1 else (-1)) else 0
/-- the set of the atoms that hold, as bits -/
def tst (t : Nat → Bool) : Nat → Int
  | 0 => 0
  | k + 1 => orI (tst t k) (if t k = true then shlI 1 (k : Int) else 0)
theorem trueAtoms_v {s : im_S} {c m : Nat} {sg : Nat → Int} {Q : Int → im_S → Prop} (hc : c ≤ 160) (hm : m ≤ 10) (h11 : s.1 2 11 = (m : Int)) (hs : ∀ a, a < m → s.2 578 (10 * c + a) = sg a) (hQ : Q (tst (fun a => decide (sg a = due (s.2 81 a))) m) s) : C_trueAtoms4 (c : Int) s Q := by
  refine ⟨fun a => a.2.2 = s ∧ ∃ k : Nat, k ≤ m ∧ a.2.1 = (k : Int) ∧ a.1 = tst (fun a => decide (sg a = due (s.2 81 a))) k, ⟨rfl, 0, by omega, rfl, rfl⟩, ?_⟩
  rintro ⟨u, v, s1⟩ ⟨e, k, k1, k2, k3⟩
  dsimp only at e k2 k3 ⊢
  subst e
  subst k2
  refine ⟨fun q => ?_, fun q => ?_⟩
  · have : k = m := by unfold cgf at q; omega
    subst this
    rw [k3]; exact hQ
  · have km : k < m := by unfold cgf at q; omega
    intro _ v1 e1 v2 e2
    refine ⟨rfl, k + 1, by omega, by (try dsimp only); rw [w32_id (by omega) (by omega)]; omega, ?_⟩
    have r1 : cga s1 81 (k : Int) = s1.2 81 k := by show s1.2 81 ((k : Nat) : Int).toNat = _; rw [Int.toNat_natCast]
    have r2 : cga s1 578 (w32 (w32 ((c : Int) * 10) + (k : Int))) = sg k := by
      rw [w32_id (x := (c : Int) * 10) (by omega) (by omega), w32_id (by omega) (by omega)]
      show s1.2 578 ((c : Int) * 10 + k).toNat = _
      rw [show ((c : Int) * 10 + k).toNat = 10 * c + k by omega]
      exact hs k km
    rw [r1] at e1
    rw [r2, show v1 = due (s1.2 81 k) from e1] at e2
    show orI u v2 = orI (tst (fun a => decide (sg a = due (s1.2 81 a))) k) (if decide (sg k = due (s1.2 81 k)) = true then shlI 1 (k : Int) else 0)
    rw [k3, e2]
    by_cases z : sg k = due (s1.2 81 k)
    · rw [if_neg (fun w => w z), if_pos (by simp [z])]
    · rw [if_pos z, if_neg (by simp [z])]
/-- the stack of truths, as bits -/
def pst (pr : Nat → Int) (set : Int) : Nat → Int
  | 0 => 0
  | k + 1 => if 10 ≤ pr k then (if ¬ (pr k = 10) then (if ¬ (pr k = 11) then (orJ (ushJ (pst pr set k) 1) (andJ (pst pr set k) 1)) else (andJ (ushJ (pst pr set k) 1) (orJ (andJ (pst pr set k) 1) (-2)))) else (xorJ (pst pr set k) 1)) else (orJ (shlJ (pst pr set k) 1) (andI (shrI set (pr k)) 1))
def fulf (pr : Nat → Int) (st : Nat) (set : Int) : Int := if ¬ ((andJ (pst pr set st) 1) = 1) then 0 else 1
theorem fulf_b (pr : Nat → Int) (st : Nat) (set : Int) : fulf pr st set = 0 ∨ fulf pr st set = 1 := by
  unfold fulf
  split
  · exact Or.inl rfl
  · exact Or.inr rfl
theorem fulfilledBy_v {s : im_S} {set : Int} {st : Nat} {Q : Int → im_S → Prop} (hs : s.1 2 13 ≤ 2147483647) (h13 : st = (s.1 2 13).toNat) (hQ : Q (fulf (s.2 82) st set) s) : C_fulfilledBy7 set s Q := by
  refine ⟨fun a => a.2.2 = s ∧ ∃ k : Nat, k ≤ st ∧ a.2.1 = (k : Int) ∧ a.1 = pst (s.2 82) set k, ⟨rfl, 0, by omega, rfl, rfl⟩, ?_⟩
  rintro ⟨u, v, s1⟩ ⟨e, k, k1, k2, k3⟩
  dsimp only at e k2 k3 ⊢
  subst e
  subst k2
  refine ⟨fun q v ev => ?_, fun q => ?_⟩
  · have : k = st := by unfold cgf at q; omega
    subst this
    have : v = fulf (s1.2 82) k set := by rw [ev, k3]; rfl
    rw [this]; exact hQ
  · have km : k < st := by unfold cgf at q; omega
    intro _ v1 e1
    have r1 : cga s1 82 (k : Int) = s1.2 82 k := by show s1.2 82 ((k : Nat) : Int).toNat = _; rw [Int.toNat_natCast]
    refine ⟨rfl, k + 1, by omega, by (try dsimp only); rw [w32_id (by omega) (by omega)]; omega, ?_⟩
    try dsimp only
    rw [r1, k3] at e1
    exact e1
/-- how many cells hold, the first, the last, in how many pieces -/
def hvv (hd : Nat → Int) : Nat → Int × Int × Int × Int
  | 0 => (0, -2, -2, 0)
  | n + 1 => if hd n = 0 then hvv hd n else ((hvv hd n).1 + 1, if ¬ ((hvv hd n).1 = 0) then (hvv hd n).2.1 else (n : Int), (n : Int), (hvv hd n).2.2.2 + (if ¬ ((hvv hd n).2.2.1 = (n : Int) - 1) then 1 else (if ¬ ((hvv hd n).1 = 0) then 0 else 1)))
theorem hvv_b (hd : Nat → Int) : ∀ n : Nat, 0 ≤ (hvv hd n).1 ∧ (hvv hd n).1 ≤ n ∧ 0 ≤ (hvv hd n).2.2.2 ∧ (hvv hd n).2.2.2 ≤ n
  | 0 => by show (0 : Int) ≤ 0 ∧ (0 : Int) ≤ ((0 : Nat) : Int) ∧ (0 : Int) ≤ 0 ∧ (0 : Int) ≤ ((0 : Nat) : Int); omega
  | n + 1 => by
    have z := hvv_b hd n
    have e : hvv hd (n + 1) = if hd n = 0 then hvv hd n else ((hvv hd n).1 + 1, if ¬ ((hvv hd n).1 = 0) then (hvv hd n).2.1 else (n : Int), (n : Int), (hvv hd n).2.2.2 + (if ¬ ((hvv hd n).2.2.1 = (n : Int) - 1) then 1 else (if ¬ ((hvv hd n).1 = 0) then 0 else 1))) := rfl
    rw [e]
    by_cases q : hd n = 0
    · rw [if_pos q]; omega
    · rw [if_neg q]
      try dsimp only
      split
      · omega
      · split <;> omega
/-- what fillCells leaves: the signs, what holds, and the sums -/
def FCV (s : im_S) (m N : Nat) (L : Nat → Int) (mu : Nat → Nat → Nat) (hd : Nat → Int) : Prop := (∀ c a, c ≤ 2 * N → a < m → s.2 578 (10 * c + a) = sgc (L a) (fun k => mu k a) N c) ∧ (∀ c, c ≤ 2 * N → s.2 579 c = hd c ∧ s.2 581 c = 0) ∧ s.1 1 7 = (hvv hd (2 * N + 1)).1 ∧ s.1 1 8 = (hvv hd (2 * N + 1)).2.1 ∧ s.1 1 9 = (hvv hd (2 * N + 1)).2.2.1 ∧ s.1 1 10 = (hvv hd (2 * N + 1)).2.2.2
theorem fillCells_v {s : im_S} {m N st : Nat} {P : Nat → List Int} {L : Nat → Int} {mu : Nat → Nat → Nat} {Q : im_S → Prop} (hm : m ≤ 10) (hN : N ≤ 80) (h4 : s.1 1 4 = (N : Int)) (h11 : s.1 2 11 = (m : Int)) (hs : s.1 2 13 ≤ 2147483647) (h13 : st = (s.1 2 13).toNat) (hP : ∀ a, a < m → ply s (61 + 2 * a) (P a)) (hL : ∀ a, a < m → L a = (ldc (s.1 (61 + 2 * a) 0) (P a)).sign) (hmu : ∀ a, a < m → ∀ k, k < N → ∃ j o : Nat, j < 80 ∧ o < 80 ∧ s.2 577 k = (j : Int) ∧ s.1 (311 + 3 * j) 0 = (o : Int) ∧ s.2 246 (10 * o + a) = (mu k a : Int) ∧ mu k a ≤ 999999) (hQ : ∀ s', FCV s' m N L mu (fun c => fulf (s.2 82) st (tst (fun a => decide (sgc (L a) (fun k => mu k a) N c = due (s.2 81 a))) m)) → fc9 s s' → Q s') : C_fillCells4 s Q := by
  unfold C_fillCells4
  rw [show cgf s 1 4 = (N : Int) from h4, w32_id (x := 2 * (N : Int)) (by omega) (by omega), w32_id (x := 2 * (N : Int) + 1) (by omega) (by omega)]
  refine ⟨fun a => ∃ i : Nat, a.1 = (i : Int) ∧ i ≤ m ∧ fc9 s a.2 ∧ ∀ c b, c ≤ 2 * N → b < i → a.2.2 578 (10 * c + b) = sgc (L b) (fun k => mu k b) N c, ⟨0, rfl, by omega, gfr_refl _ _ _, fun c b _ hb => by omega⟩, ?_⟩
  rintro ⟨x, s1⟩ ⟨i, e, im, g1, t1⟩
  dsimp only at e g1 t1 ⊢
  subst e
  refine ⟨fun q s2 e2 s3 e3 s4 e4 s5 e5 => ?_, fun q => ?_⟩
  · have ei : i = m := by unfold cgf at q; rw [g1.1 _ _ (by omega)] at q; omega
    subst ei
    have g5 : fc9 s s5 := by subst e5; subst e4; subst e3; subst e2; exact gfr_pf (gfr_pf (gfr_pf (gfr_pf g1 (by omega)) (by omega)) (by omega)) (by omega)
    have r5 : s5.2 = s1.2 := by subst e5; subst e4; subst e3; subst e2; rfl
    have f7 : s5.1 1 7 = 0 := by subst e5; subst e4; subst e3; subst e2; rw [cpf_ne (by omega), cpf_ne (by omega), cpf_ne (by omega), cpf_same]
    have f10 : s5.1 1 10 = 0 := by subst e5; subst e4; subst e3; rw [cpf_ne (by omega), cpf_ne (by omega), cpf_same]
    have f8 : s5.1 1 8 = -2 := by subst e5; subst e4; rw [cpf_ne (by omega), cpf_same]
    have f9 : s5.1 1 9 = -2 := by subst e5; rw [cpf_same]
    obtain ⟨hd, hhd⟩ : ∃ hd : Nat → Int, hd = fun c => fulf (s.2 82) st (tst (fun a => decide (sgc (L a) (fun k => mu k a) N c = due (s.2 81 a))) i) := ⟨_, rfl⟩
    rw [← hhd] at hQ
    refine ⟨fun a => ∃ c : Nat, a.1 = (c : Int) ∧ c ≤ 2 * N + 1 ∧ fc9 s a.2 ∧ (∀ c b, c ≤ 2 * N → b < i → a.2.2 578 (10 * c + b) = sgc (L b) (fun k => mu k b) N c) ∧ (∀ d, d < c → a.2.2 579 d = hd d ∧ a.2.2 581 d = 0) ∧ a.2.1 1 7 = (hvv hd c).1 ∧ a.2.1 1 8 = (hvv hd c).2.1 ∧ a.2.1 1 9 = (hvv hd c).2.2.1 ∧ a.2.1 1 10 = (hvv hd c).2.2.2, ⟨0, rfl, by omega, g5, fun c b hc hb => by (try dsimp only); rw [r5]; exact t1 c b hc hb, fun d hd => by omega, f7, f8, f9, f10⟩, ?_⟩
    rintro ⟨y, s6⟩ ⟨c, ey, cN, g6, t6, d6, k7, k8, k9, k10⟩
    dsimp only at ey g6 t6 d6 k7 k8 k9 k10 ⊢
    subst ey
    refine ⟨fun q => ?_, fun q => ?_⟩
    · have ec : c = 2 * N + 1 := by omega
      subst ec
      exact hQ s6 ⟨t6, fun c hc => d6 c (by omega), k7, k8, k9, k10⟩ g6
    · intro _ s7 e7
      have g7 : fc9 s s7 := by subst e7; exact gfr_pa g6 (by omega)
      have w78 : s7.2 578 = s6.2 578 := by subst e7; exact cpa_ne (by decide)
      have w79 : s7.2 579 = s6.2 579 := by subst e7; exact cpa_ne (by decide)
      refine trueAtoms_v (sg := fun a => sgc (L a) (fun k => mu k a) N c) (by omega) hm (by rw [g7.1 _ _ (by omega)]; exact h11) (fun a ha => by rw [w78]; exact t6 c a (by omega) ha) ?_
      refine fulfilledBy_v (st := st) (by rw [g7.1 _ _ (by omega)]; exact hs) (by rw [g7.1 _ _ (by omega)]; exact h13) ?_
      rw [g7.2 82 (by omega), g7.2 81 (by omega)]
      intro s8 e8
      have hv : fulf (s.2 82) st (tst (fun a => decide (sgc (L a) (fun k => mu k a) N c = due (s.2 81 a))) i) = hd c := by rw [hhd]
      rw [hv] at e8
      have g8 : fc9 s s8 := by subst e8; exact gfr_pa g7 (by omega)
      have row9 : ∀ d, s8.2 579 d = if d = c then hd c else s6.2 579 d := fun d => by
        rw [e8, cpa_row, Int.toNat_natCast, w79]
      have row1 : ∀ d, s8.2 581 d = if d = c then 0 else s6.2 581 d := fun d => by
        rw [e8, cpa_ne (by decide), e7, cpa_row, Int.toNat_natCast]
      have row8 : s8.2 578 = s6.2 578 := by rw [e8, cpa_ne (by decide), w78]
      have fld : s8.1 = s6.1 := by subst e8; subst e7; rfl
      have d8 : ∀ d, d < c + 1 → s8.2 579 d = hd d ∧ s8.2 581 d = 0 := fun d hd' => by
        rw [row9, row1]
        by_cases z : d = c
        · subst z; rw [if_pos rfl, if_pos rfl]; exact ⟨rfl, rfl⟩
        · rw [if_neg z, if_neg z]; exact d6 d (by omega)
      have c8' : cga s8 579 (c : Int) = hd c := by show s8.2 579 ((c : Nat) : Int).toNat = _; rw [Int.toNat_natCast, row9, if_pos rfl]
      have st' : hvv hd (c + 1) = if hd c = 0 then hvv hd c else ((hvv hd c).1 + 1, if ¬ ((hvv hd c).1 = 0) then (hvv hd c).2.1 else (c : Int), (c : Int), (hvv hd c).2.2.2 + (if ¬ ((hvv hd c).2.2.1 = (c : Int) - 1) then 1 else (if ¬ ((hvv hd c).1 = 0) then 0 else 1))) := rfl
      have bb := hvv_b hd c
      rw [c8']
      refine ⟨fun z => ?_, fun z v ev s9 e9 v2 ev2 s10 e10 s11 e11 s12 e12 => ?_⟩
      · rw [if_pos z] at st'
        exact ⟨c + 1, w32s (by omega), by omega, g8, fun c b hc hb => by (try dsimp only); rw [row8]; exact t6 c b hc hb, d8, by (try dsimp only); rw [fld, st']; exact k7, by (try dsimp only); rw [fld, st']; exact k8, by (try dsimp only); rw [fld, st']; exact k9, by (try dsimp only); rw [fld, st']; exact k10⟩
      · rw [if_neg z] at st'
        have g12 : fc9 s s12 := by subst e12; subst e11; subst e10; subst e9; exact gfr_pf (gfr_pf (gfr_pf (gfr_pf g8 (by omega)) (by omega)) (by omega)) (by omega)
        have r12 : s12.2 = s8.2 := by subst e12; subst e11; subst e10; subst e9; rfl
        have a7 : cgf s8 1 7 = (hvv hd c).1 := by show s8.1 1 7 = _; rw [fld]; exact k7
        have a8 : cgf s8 1 8 = (hvv hd c).2.1 := by show s8.1 1 8 = _; rw [fld]; exact k8
        have a9 : cgf s8 1 9 = (hvv hd c).2.2.1 := by show s8.1 1 9 = _; rw [fld]; exact k9
        have a10 : cgf s8 1 10 = (hvv hd c).2.2.2 := by show s8.1 1 10 = _; rw [fld]; exact k10
        rw [a9, a7, w32_id (x := (c : Int) - 1) (by omega) (by omega)] at ev
        have b7 : cgf s9 1 7 = (hvv hd c).1 := by rw [e9]; exact (cpf_ne (by omega)).trans a7
        have b8 : cgf s9 1 8 = (hvv hd c).2.1 := by rw [e9]; exact (cpf_ne (by omega)).trans a8
        have b10 : s9.1 1 10 = (hvv hd c).2.2.2 + v := by
          rw [e9, cpf_same, a10, w32_id]
          · rw [ev]; split
            · omega
            · split <;> omega
          · rw [ev]; split
            · omega
            · split <;> omega
        rw [b7, b8] at ev2
        have c7 : cgf s11 1 7 = (hvv hd c).1 := by rw [e11]; refine (cpf_ne (by omega)).trans ?_; rw [e10]; exact (cpf_ne (by omega)).trans b7
        refine ⟨c + 1, w32s (by omega), by omega, g12, fun c b hc hb => by (try dsimp only); rw [r12, row8]; exact t6 c b hc hb, fun d hd' => by (try dsimp only); rw [r12]; exact d8 d hd', ?_, ?_, ?_, ?_⟩
        · (try dsimp only); rw [st', e12, cpf_same, c7, w32_id (by omega) (by omega)]
        · (try dsimp only); rw [st', e12, cpf_ne (by omega), e11, cpf_ne (by omega), e10, cpf_same]; exact ev2
        · (try dsimp only); rw [st', e12, cpf_ne (by omega), e11, cpf_same]
        · try dsimp only
          rw [st', e12, cpf_ne (by omega), e11, cpf_ne (by omega), e10, cpf_ne (by omega), b10, ev]
  · have im' : i < m := by unfold cgf at q; rw [g1.1 _ _ (by omega)] at q; omega
    refine fillSigns_v (N := N) (P := P i) (L := L i) (m := fun k => mu k i) (by omega) hN (by rw [g1.1 _ _ (by omega)]; exact h4) (ply_fr (hP i im') g1 (by omega) (by omega)) (by rw [g1.1 _ _ (by omega)]; exact hL i im') (fun k hk => ?_) (fun s2 a1 a2 a3 a4 => ?_)
    · obtain ⟨j, o, b1, b2, b3, b4, b5, b6⟩ := hmu i im' k hk
      exact ⟨j, o, b1, b2, by rw [g1.2 577 (by omega)]; exact b3, by rw [g1.1 _ _ (by omega)]; exact b4, by rw [g1.2 246 (by omega)]; exact b5, b6⟩
    · refine ⟨i + 1, w32s (by omega), by omega, gfr_trans g1 (gfr_mono a4 (fun c f e => e.elim) (fun c e => Or.inl e)), fun c b hc hb => ?_⟩
      try dsimp only
      by_cases z : b = i
      · subst z
        exact sg_tab (r := s2.2 578) a1 a2 hc
      · rw [a3 _ (by omega)]
        exact t1 c b hc (by omega)
