/-! part1, and polynomials without common divisor -/
theorem org_of {v : Nat → Int} {F : List Int} (hb : ∀ k : Nat, k < 9 → -1000000000 ≤ v k ∧ v k ≤ 1000000000) (h : cr 1 (pmk 9 v) F) (h2 : 1 ≤ F.length) : org F := by
  obtain ⟨h1, h3, h4, g, g0, _, e⟩ := h
  rw [pmk_len] at h1
  have Fn : F ≠ [] := fun q => by rw [q] at h2; exact absurd h2 (by decide)
  obtain ⟨n, hn⟩ : ∃ n, F.length = n + 1 := ⟨F.length - 1, by omega⟩
  refine ⟨⟨h2, h1, fun n hn => (h3 n hn).1, ?_, h4 Fn⟩, fun k => ?_⟩
  · rw [hn]; exact (h3 n hn).2 (by decide)
  · have w := e k
    rw [pmk_gt] at w
    have le : (pgt F k).natAbs ≤ (g * pgt F k).natAbs := by
      rw [Int.natAbs_mul]; exact Nat.le_mul_of_pos_left _ (by omega)
    by_cases c : k < 9
    · rw [if_pos c] at w
      have := hb k c
      omega
    · rw [pgt_hi F k (by omega)]; show (0 : Int).natAbs ≤ _; omega
theorem der_of {F D : List Int} (oF : org F) (h2 : 2 ≤ F.length) (h : cr 0 (pdl F) D) : D.length = F.length - 1 ∧ lnz D ∧ prm1 D ∧ pab D p27 ∧ ∃ ga : Int, ga ≠ 0 ∧ ∀ x : Rat, pev (pdl F) x = ga * pev D x := by
  obtain ⟨h1, h3, h4, g, g0, _, e⟩ := h
  have pl : (pdl F).length = F.length - 1 := pmk_len _ _
  obtain ⟨n, hn⟩ : ∃ n, F.length = n + 2 := ⟨F.length - 2, by omega⟩
  have tp : pgt (pdl F) n ≠ 0 := by
    rw [pdl_gt]
    exact Int.mul_ne_zero (oF.1.2.2.1 (n + 1) (by omega)) (by omega)
  have lD : D.length = F.length - 1 := by
    refine Nat.le_antisymm (by omega) (Nat.le_of_not_lt fun c => tp ?_)
    rw [e n, pgt_hi D n (by omega), Int.mul_zero]
  have Dn : D ≠ [] := fun q => by rw [q] at lD; simp at lD; omega
  refine ⟨lD, fun n hn => (h3 n hn).1, h4 Dn, fun k => ?_, g, g0, fun x => pev_csc e x⟩
  have w := e k
  have le : (pgt D k).natAbs ≤ (g * pgt D k).natAbs := by
    rw [Int.natAbs_mul]; exact Nat.le_mul_of_pos_left _ (by omega)
  rw [← w, pdl_gt, Int.natAbs_mul] at le
  have F9 := oF.1.2.1
  by_cases c : k < 9
  · have m : (pgt F (k + 1)).natAbs * ((k : Int) + 1).natAbs ≤ 1000000000 * 9 := Nat.mul_le_mul (oF.2 (k + 1)) (by omega)
    have : (1000000000 * 9 : Nat) ≤ p27 := by decide
    omega
  · rw [pgt_hi D k (by omega)]; show (0 : Int).natAbs ≤ _; omega
theorem part1_ok {s : im_S} {i : Int} {v : Nat → Int} {n : Nat} {c : Nat → List Int} {Q : im_S → Prop} (hi : 0 ≤ i ∧ i < 10) (hv : ∀ k : Nat, k < 9 → wga s 584 (9 * i + k) = v k) (hb : ∀ k : Nat, k < 9 → -1000000000 ≤ v k ∧ v k ≤ 1000000000) (hfi : fi s n c) (hn : dsm c n ≤ 72) (hQ : ∀ s' n' c', pw pF1 pR1 0 0 s s' → fi s' n' c' → n ≤ n' → dsm c' n' ≤ dsm c n + 8 → Q s') : W_part1 i s Q := by
  unfold W_part1
  obtain ⟨f1, f2, f3, f4, f5⟩ := hfi
  have hnn : n ≤ dsm c n := dsm_n (fun k hk => (f5 k hk).2.1.2.2.1)
  refine polynomialOf_ok hi hv hb (by omega) (by omega) f3 (by omega) (fun s1 F a1 a2 a3 a4 a5 => ⟨⟨by omega, by omega⟩, fun c1 => ?_, fun c1 => ?_⟩)
  · have d3 := a3.2.2.2.2.1
    have F2 : 2 ≤ F.length := by omega
    have oF := org_of hb a4 (by omega)
    have F9 := oF.1.2.1
    have fF : fct F := ⟨oF.1, F, oF, dvz_rfl F⟩
    have a13 := a1.2.2.1
    have m9 : (F.length : Int) * ((2 : Nat) + 2 : Int) ≤ 9 * ((2 : Nat) + 2 : Int) := Int.mul_le_mul_of_nonneg_right (by omega) (by decide)
    have lb : plb F 2 := fun k => lim_b9 (by have := oF.2 k; omega) (by have := oF.2 k; omega)
    refine derivative_ok (M := 2) a3 lb (by omega) (by omega) (by omega) (by omega) (fun s2 D b1 b2 b3 b4 b5 => ?_)
    have b13 := b1.2.2.1
    obtain ⟨lD, nD, pD, bD, ga, ga0, eD⟩ := der_of oF F2 b4
    have ctd := ct_d F.length (by omega) D.length (by omega)
    have p2 := ps_pol b1 (by omega) a3
    refine common2_gcd p2 b3 oF.1.1 (by omega) oF.1.2.2.1 nD oF.1.2.2.2.2 pD (fct_pab fF) bD (by omega) (by omega) (by omega) (fun g s3 G d1 d2 d3' d4 d5 d6 => ?_)
    have d13 := d1.2.2.1
    have d14 := d1.2.2.2
    have gG := gcdof_gd d5 oF.1
    have qG : qd G F := d5.2.2.2.2.1
    refine share_fc (ps_pol d1 (by omega) p2) d4 fF gG qG (by omega) (by omega) (by omega) (fun s4 W e1 e2 e3 e4 e5 e6 e7 => ?_)
    have e13 := e1.2.2.1
    have ps4 := ps_tr a1 (ps_tr b1 (ps_tr d1 e1))
    have sW : sqf W := sqf_quot oF.1.1 oF.1.2.2.1 e4.1.2.2.1 e4.1.1 gG.2.2.1 gG.1 e6 ga0 eD d5.2.2.2.2.2.1 d5.2.2.2.2.2.2
    rw [f1]
    refine part1_68 (s := s) (F := F) (D := D) (ga := ga) hi ⟨f1, f2, f3, f4, f5⟩ hn (ps_pw ps4 (Int.le_refl _) (Int.le_refl _)) (by omega) (by omega) (by omega) (by omega) ?_ (fun k => ps_r ps4 (by decide) (by decide) (by decide)) (fun k => ps_r ps4 (by decide) (by decide) (by decide)) (fun k => ps_r ps4 (by decide) (by decide) (by decide)) (ps_pol e1 (by omega) d4) e3 (fct_dv fF gG (qd_dvz gG.2.2.2.2 qG)) e4 sW ⟨oF, e6, e5, eD, d5.2.2.2.2.2.1⟩ hQ
    rw [ps_f ps4 (by decide) (by decide) (by decide)]; exact f1
  · refine giveBack_ok (fun s2 b1 b2 b3 b4 b5 => ?_)
    have w1 : pw pF1 pR1 (wgf s 24) (wgf s 28) s s1 := ps_pw a1 (Int.le_refl _) (Int.le_refl _)
    have w2 : pw pF1 pR1 (wgf s 24) (wgf s 28) s s2 := by
      refine ⟨fun c f h => ?_, fun c i q1 q2 q3 q4 => ?_⟩
      · rw [b1 c f (fun z => h ⟨z.1, by rcases z.2 with e | e | e; exact Or.inl e; exact Or.inr (Or.inr (Or.inl e)); exact Or.inr (Or.inr (Or.inr (by rw [e]; decide)))⟩)]
        exact w1.1 c f h
      · rw [b2]; exact w1.2 c i q1 q2 q3 q4
    have r : ∀ (r : Nat) (i : Int), r ≠ 597 → r ≠ 598 → r ≠ 599 → wga s2 r i = wga s r i := fun r i h1 h2 h3 => by
      show s2.2 r i.toNat = _
      rw [b2]
      exact ps_r a1 h1 h2 h3
    refine hQ s2 n c (pw_mono w2 (fun _ h => h) (fun _ h => h) f3 (by omega)) ⟨?_, by omega, by omega, by omega, fun k hk => ?_⟩ (Nat.le_refl _) (by omega)
    · have : wgf s2 36 = wgf s1 36 := b1 582 36 (by decide)
      rw [this, ps_f a1 (by decide) (by decide) (by decide)]; exact f1
    · have z := f5 k hk
      unfold fie
      rw [r 603 _ (by decide) (by decide) (by decide), r 604 _ (by decide) (by decide) (by decide), r 605 _ (by decide) (by decide) (by decide)]
      exact ⟨pw_pol w2 ⟨by decide, by decide, by decide⟩ (Int.le_refl _) (by omega) (Int.le_refl _) (by omega) (by omega) z.1, z.2⟩
/-! without common divisor -/
def cop (A B : List Int) : Prop := ∃ (c : Int) (u v : List Int), c ≠ 0 ∧ ∀ x : Rat, (c : Rat) = pev u x * pev A x + pev v x * pev B x
theorem cop_sym {A B : List Int} (h : cop A B) : cop B A := by
  obtain ⟨c, u, v, c0, e⟩ := h
  exact ⟨c, v, u, c0, fun x => by rw [e x]; grind⟩
theorem cop_dv {A B C : List Int} (h : cop A B) (hd : dvz C B) : cop A C := by
  obtain ⟨c, u, v, c0, e⟩ := h
  obtain ⟨K, eK⟩ := hd
  refine ⟨c, u, pmul v K, c0, fun x => ?_⟩
  have a := e x
  have b := eK x
  rw [pmul_ev]; grind
theorem cop_sq {P H O : List Int} (h : sqf P) (e : ∀ x : Rat, pev P x = pev H x * pev O x) : cop H O := by
  obtain ⟨c, u, v, c0, f⟩ := h
  have d : ∀ x : Rat, pev (pdl P) x = pev (pdl H) x * pev O x + pev H x * pev (pdl O) x := fun x => by
    rw [← pdl_mul]
    exact pdl_co (pev_inj (fun x => by rw [pmul_ev]; exact e x)) x
  refine ⟨c, padd (pmul u O) (pmul v (pdl O)), pmul v (pdl H), c0, fun x => ?_⟩
  have a := f x
  have b := e x
  have g := d x
  rw [padd_ev, pmul_ev, pmul_ev, pmul_ev]
  grind
theorem cop_q {P f H O f2 : List Int} (h : gcdof P f H) (e1 : ∀ x : Rat, pev P x = pev H x * pev O x) (e2 : ∀ x : Rat, pev f x = pev H x * pev f2 x) : cop O f2 := by
  obtain ⟨h1, h2, h3, h4, h5, h6, c, u, v, c0, e⟩ := h
  have z := pev_can (G := H) (Z := padd [c] (psm (-1) (padd (pmul u O) (pmul v f2)))) h2 h1 (fun x => by
    rw [padd_ev, psm_ev, padd_ev, pmul_ev, pmul_ev]
    show ((c : Rat) + x * 0 + ((-1 : Int) : Rat) * _) * _ = 0
    have im : ((-1 : Int) : Rat) = -1 := rfl
    rw [im]
    have a := e x
    have b := e1 x
    have d := e2 x
    grind)
  refine ⟨c, u, v, c0, fun x => ?_⟩
  have w := z x
  rw [padd_ev, psm_ev, padd_ev, pmul_ev, pmul_ev] at w
  have w2 : pev [c] x = c := by
    show (c : Rat) + x * 0 = _
    grind
  have im : ((-1 : Int) : Rat) = -1 := rfl
  rw [w2, im] at w
  grind
theorem cop_1 {P f H : List Int} (h : gcdof P f H) (hl : H.length = 1) : cop P f := by
  obtain ⟨h1, h2, h3, h4, h5, h6, c, u, v, c0, e⟩ := h
  refine ⟨c * pgt H 0, u, v, Int.mul_ne_zero c0 (h2 0 hl), fun x => ?_⟩
  rw [Rat.intCast_mul, ← e x]
  have q : pev H x = pev [pgt H 0] x := pev_eq (fun k => by
    cases k with
    | zero => rfl
    | succ k => exact pgt_hi H (k + 1) (by omega)) x
  rw [q]
  show _ = (c : Rat) * ((pgt H 0 : Rat) + x * 0)
  grind
/-- what is among the bases -/
def bs (P : List Int) : Prop := fct P ∧ sqf P ∧ 2 ≤ P.length ∧ ∃ O, ow O ∧ dvz P O
theorem bs_dv {P H : List Int} (h : bs P) (hH : gd H) (hd : dvz H P) (h2 : 2 ≤ H.length) : bs H := by
  obtain ⟨a, b, c, O, o1, o2⟩ := h
  exact ⟨fct_dv a hH hd, sqf_dv (dvz_qd hd) b, h2, O, o1, dvz_trans hd o2⟩
