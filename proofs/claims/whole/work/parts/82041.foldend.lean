theorem sqf_l {P H O : List Int} (h : sqf P) (e : ∀ x : Rat, pev P x = pev H x * pev O x) : sqf H := sqf_dv ⟨1, O, by decide, fun x => by rw [e x, rat_i1]; grind⟩ h
theorem sqf_r {P H O : List Int} (h : sqf P) (e : ∀ x : Rat, pev P x = pev H x * pev O x) : sqf O := sqf_l h (O := H) (fun x => by rw [e x]; grind)
theorem const_of {P : List Int} {d : Int} (hd : dgo d P) (h : d ≤ 0) (n : nzp P) : pgt P 0 ≠ 0 ∧ ∀ x : Rat, pev P x = (pgt P 0 : Rat) := by
  have d0 := dgo_0 hd n
  have e : d = 0 := by omega
  subst e
  exact ⟨hd.2.2.2 (by omega), fun x => const_ev (fun k => hd.2.2.1 (k + 1) (by omega)) x⟩
/-- the end of foldRest: what is left becomes a piece -/
theorem fold_151 {s s1 : im_S} {n n1 m a : Nat} {D : Int} {p p1 : Nat → List Int} {M M1 : Nat → Nat → Nat} {R R1 : List Int} {Q : im_S → Prop} (ha : a < 10) (hB : BI s1 n1 D) (hF : BF s1 n1 p1 M1 m) (hR : ply s1 265 R1) (pR : pat R1) (sR : sqf R1 ∧ lps R1) (hs : dsp s1 n1 + s1.1 265 0 ≤ D) (hD : D ≤ 80) (fl : flf s s1) (ne : s1.1 247 3 ≠ s1.1 247 4) (hcp : 1 ≤ s1.1 265 0 → ∀ j, j < n1 → cop (p1 j) R1) (hr : rlM a p M n R p1 M1 n1 R1) (hQ : ∀ s' n' p' M', BI s' n' D → BF s' n' p' M' (m + 1) → flf s s' → s'.1 247 3 ≠ s'.1 247 4 → rlM a p M n R p' M' n' [1] → Q s') : C_foldRest0v_151 (a : Int) s1 Q := by
  have n80 := hB.2.1
  have BFm : ∀ {s9 n9 p9 M9}, BF s9 n9 p9 M9 m → BF s9 n9 p9 M9 (m + 1) := fun h => ⟨h.1, h.2.1, fun e i he hi => ⟨(h.2.2 e i he hi).1, by have := (h.2.2 e i he hi).2; omega⟩⟩
  have e1 : ∀ x : Rat, pev [1] x = 1 := fun x => by rw [ev_c, rat_i1]
  refine ⟨fun c => ?_, fun c => ⟨fun c8 => ?_, fun c8 => ?_⟩⟩
  · obtain ⟨c0, cc⟩ := const_of hR.2 c (pat_0 pR)
    obtain ⟨r1, c1, d1, c10, d10, r2⟩ := hr
    refine hQ s1 n1 p1 M1 hB (BFm hF) fl ne ⟨r1, c1 * pgt R1 0, d1, Int.mul_ne_zero c10 c0, d10, fun x => ?_⟩
    have := r2 x
    rw [cc x] at this
    rw [e1, Rat.intCast_mul, ← this]; grind
  · exfalso
    have := dsp_ge (s := s1) (n := n1) (fun e he => by obtain ⟨_, _, _, h⟩ := hB.2.2.1 e he; exact h)
    have c9 : ¬ s1.1 265 0 ≤ 0 := c
    have c7 : (80 : Int) ≤ s1.1 84 2 := c8
    rw [hB.1] at c7
    omega
  rw [show cgf s1 84 2 = (n1 : Int) from hB.1] at c8 ⊢
  rw [Int.toNat_natCast]
  have rd : 1 ≤ s1.1 265 0 := by have : ¬ s1.1 265 0 ≤ 0 := c; omega
  have cp := hcp rd
  refine copy6_b hR (by omega) (fun s2 h2 f2 => ?_)
  have n2 : s2.1 84 2 = (n1 : Int) := by rw [f2.1 _ _ (by omega)]; exact hB.1
  have d2 : s2.1 (86 + 2 * n1) 0 = s1.1 265 0 := dgo_u h2.2 hR.2
  have r246 : s2.2 246 = s1.2 246 := f2.2 _ (by omega)
  refine ⟨fun q => q.2.1 = s2.1 ∧ (∀ c, c ≠ 246 → q.2.2 c = s2.2 c) ∧ ∃ i : Nat, q.1 = (i : Int) ∧ i ≤ 10 ∧ (∀ j, j < 10 * n1 → q.2.2 246 j = s1.2 246 j) ∧ ∀ k, k < i → q.2.2 246 (10 * n1 + k) = if k = a then 1 else 0, ⟨rfl, fun _ _ => rfl, 0, rfl, by omega, fun j hj => by dsimp only; rw [r246], fun k hk => by omega⟩, ?_⟩
  rintro ⟨i9, s3⟩ ⟨ef, er, i, ei, i10, rj, rk⟩
  dsimp only at ef er ei rj rk ⊢
  subst ei
  have n3 : cgf s3 84 2 = (n1 : Int) := by show s3.1 84 2 = _; rw [ef]; exact n2
  refine ⟨fun ci s4 e4 => ?_, fun ci v ev _ s4 e4 => ?_⟩
  · have i9 : i = 10 := by omega
    subst i9
    rw [n3, w32s (by omega)] at e4
    have fld : ∀ c k, ¬ (c = 84 ∧ k = 2) → s4.1 c k = s2.1 c k := fun c k h => by subst e4; rw [cpf_ne h, ef]
    have row : ∀ c, c ≠ 246 → s4.2 c = s2.2 c := fun c h => by subst e4; exact er c h
    have r4 : s4.2 246 = s3.2 246 := by subst e4; rfl
    have P4 : ∀ e, e < n1 → ∀ P, ply s1 (86 + 2 * e) P → ply s4 (86 + 2 * e) P := fun e he P hP => ply_co (ply_fr hP f2 (by omega) (by omega)) (row _ (by omega)) (fld _ _ (by omega))
    have N4 : ply s4 (86 + 2 * n1) R1 := ply_co h2 (row _ (by omega)) (fld _ _ (by omega))
    have evn : (fun e => if e = n1 then R1 else p1 e) n1 = R1 := if_pos rfl
    have evo : ∀ e, e < n1 → (fun e => if e = n1 then R1 else p1 e) e = p1 e := fun e he => if_neg (by omega)
    refine hQ s4 (n1 + 1) (fun e => if e = n1 then R1 else p1 e) (fun e i => if e = n1 then (if i = a then 1 else 0) else M1 e i) ⟨by subst e4; exact cpf_same _ _ _ _, by omega, fun e he => ?_, ?_, ?_⟩ ⟨fun e he => ?_, fun e e' he he' hne => ?_, fun e i he hi => ?_⟩ (gfr_trans fl ⟨fun c k z => ?_, fun c z => ?_⟩) (by rw [fld _ _ (by omega), fld _ _ (by omega), f2.1 _ _ (by omega), f2.1 _ _ (by omega)]; exact ne) ⟨fun i hi ia x => ?_, ?_⟩
    · by_cases c1 : e = n1
      · subst c1
        exact ⟨R1, N4, pR, by rw [fld _ _ (by omega), d2]; exact rd⟩
      · obtain ⟨P, q1, q2, q3⟩ := hB.2.2.1 e (by omega)
        exact ⟨P, P4 e (by omega) P q1, q2, by rw [fld _ _ (by omega), f2.1 _ _ (by omega)]; exact q3⟩
    · show dsp s4 n1 + _ ≤ D
      rw [dsp_co (s := s1) (fun e he => by rw [fld _ _ (by omega), f2.1 _ _ (by omega)]), fld _ _ (by omega), d2]
      exact hs
    · unfold dI
      rw [fld _ _ (by omega), fld _ _ (by omega), f2.1 _ _ (by omega), f2.1 _ _ (by omega)]
      exact hB.2.2.2.2
    · by_cases c1 : e = n1
      · subst c1
        dsimp only
        rw [if_pos rfl]
        exact ⟨N4, pR, sR.1, sR.2, a, ha, by rw [if_pos rfl, if_pos rfl]; exact Nat.le_refl _⟩
      · have he' : e < n1 := by omega
        dsimp only
        rw [if_neg c1]
        refine ⟨P4 e he' _ (hF.1 e he').1, (hF.1 e he').2.1, (hF.1 e he').2.2.1, (hF.1 e he').2.2.2.1, ?_⟩
        obtain ⟨i, i1, i2⟩ := (hF.1 e he').2.2.2.2
        exact ⟨i, i1, by rw [if_neg c1]; exact i2⟩
    · dsimp only
      by_cases c1 : e = n1
      · by_cases c2 : e' = n1
        · omega
        · rw [if_pos c1, if_neg c2]; exact cop_sym (cp e' (by omega))
      · by_cases c2 : e' = n1
        · rw [if_neg c1, if_pos c2]; exact cp e (by omega)
        · rw [if_neg c1, if_neg c2]; exact hF.2.1 e e' (by omega) (by omega) hne
    · show s4.2 246 (10 * e + i) = ((if e = n1 then (if i = a then 1 else 0) else M1 e i : Nat) : Int) ∧ (if e = n1 then (if i = a then 1 else 0) else M1 e i) ≤ m + 1
      rw [r4]
      by_cases c1 : e = n1
      · subst c1
        rw [rk i (by omega), if_pos rfl]
        by_cases c2 : i = a
        · rw [if_pos c2, if_pos c2]; exact ⟨rfl, by omega⟩
        · rw [if_neg c2, if_neg c2]; exact ⟨rfl, by omega⟩
      · have old := hF.2.2 e i (by omega) hi
        rw [if_neg c1, rj _ (by omega)]
        exact ⟨old.1, by omega⟩
    · rw [fld c k (by omega), f2.1 c k (by omega)]
    · rw [row c (by omega), f2.2 c (by omega)]
    · rw [← hr.1 i hi ia x]
      have := PRd_new (p := p1) (p' := fun e => if e = n1 then R1 else p1 e) (m := fun e => M1 e i) (m' := fun e => if e = n1 then (if i = a then 1 else 0) else M1 e i) (x := x) (n := n1) (k := 0) (by rw [if_pos rfl, if_neg ia]) (fun e he => ⟨by rw [if_neg (by omega)], by rw [if_neg (by omega)]⟩)
      rw [this, Rat.pow_zero]; grind
    · obtain ⟨_, c1, d1, c10, d10, r2⟩ := hr
      refine ⟨c1, d1, c10, d10, fun x => ?_⟩
      have := PRd_new (p := p1) (p' := fun e => if e = n1 then R1 else p1 e) (m := fun e => M1 e a) (m' := fun e => if e = n1 then (if a = a then 1 else 0) else M1 e a) (x := x) (n := n1) (k := 1) (by rw [if_pos rfl, if_pos rfl]) (fun e he => ⟨by rw [if_neg (by omega)], by rw [if_neg (by omega)]⟩)
      rw [this, e1, ← r2 x]
      rw [if_pos rfl, Rat.pow_succ, Rat.pow_zero]; grind
  · have ix : w32 (w32 (cgf s3 84 2 * 10) + (i : Int)) = ((10 * n1 + i : Nat) : Int) := by
      rw [n3, w32_id (x := (n1 : Int) * 10) (by omega) (by omega), w32_id (by omega) (by omega)]; omega
    rw [ix] at e4
    subst e4
    refine ⟨ef, fun c hc => by rw [cpa_ne hc]; exact er c hc, i + 1, w32s (by omega), by omega, fun j hj => ?_, fun k hk => ?_⟩
    · show (cpa s3 246 _ v).2 246 j = _
      rw [cpa_at9, Int.toNat_natCast, if_neg (by omega)]; exact rj j hj
    · show (cpa s3 246 _ v).2 246 (10 * n1 + k) = _
      rw [cpa_at9, Int.toNat_natCast]
      by_cases q : k = i
      · subst q
        rw [if_pos rfl, ev]
        by_cases w : k = a
        · rw [if_neg (fun z => z (by omega)), if_pos w]
        · rw [if_pos (fun z => w (by omega)), if_neg w]
      · rw [if_neg (by omega)]; exact rk k (by omega)
