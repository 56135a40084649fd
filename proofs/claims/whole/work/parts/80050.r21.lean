/-- one turn of the loop while a piece is wanted -/
theorem rt_24a {tx : Nat → Int} {n : Nat} {R : ou ats} {l1 l2 l3 : Int} {s : im_S} {Q : im_S → Prop} {A : ats} {d i k : Nat} {q : ou Unit} (hc : rtx tx n s) (h0 : s.1 582 2 = 0) (hA : rat s A) (h1 : l1 = (d : Int)) (hd : d ≤ 10) (hi : s.1 582 4 = (i : Int)) (ha : adv tx n i q) (h3 : l3 ≠ 0) (h2 : l2 = (k : Int)) (hk : k ≤ 10) (h : (∃ e, q = .inl e ∧ R = .inl e) ∨ ∃ j r1, q = .inr (j, ()) ∧ Tx tx n 1 k d j A r1 ∧ cR1 tx n (txS tx n R d) d r1) : C_readText10_24 (RTv tx n R) l1 l2 l3 0 s Q := by
  subst h1; subst h2
  refine ⟨fun z => absurd rfl z, fun _ => good_r (fun _ => ⟨fun z => absurd z (by omega), fun _ => ?_⟩) (fun z => absurd h0 z)⟩
  rcases h with ⟨e, eq, eR⟩ | ⟨j, r1, eq, g, hr⟩
  · subst eq
    obtain ⟨j, sk, hj⟩ := ha
    rcases hj with ⟨ej, _⟩ | ⟨ej, jn, nt⟩
    · cases ej
    have ej2 : e = (1, (j : Int)) := by cases ej; rfl
    refine peek_r hc ⟨i, hi, sk⟩ (fun s1 a4 a2 a3 f1 => ?_)
    have ex : nxr tx n j = tx j := if_pos jn
    rw [ex]
    have hg : rgs tx n s1 j := ⟨a2.trans h0, j, a4, skp_s sk⟩
    refine ⟨fun z => absurd z h3, fun _ => ⟨fun _ => ⟨fun z => absurd z h3, fun _ => ⟨fun _ => ⟨fun z => absurd z h3, fun _ => ?_⟩, fun z => absurd (show tok (tx j) by rw [z]; unfold tok dgt; omega) nt⟩⟩, fun z => absurd (show tok (tx j) by rw [z]; unfold tok dgt; omega) nt⟩⟩
    refine readAtom_q (A := A) (r := .inl e) (i := j) (q := .inl e) (rtx_pk hc f1) hg.1 a4 ⟨j, skp_s sk, Or.inr ⟨by rw [ej2], jn, nt⟩⟩ (rat_pk hA f1) (Or.inl ⟨e, rfl, rfl⟩) (fun e' s2 b er => ?_) (fun s2 j' A' er _ _ _ _ _ => by cases er)
    cases er
    exact settle_r (fun s3 f3 => RTv_bad (rbd_wt b f3) eR)
  · subst eq
    obtain ⟨sk, tk⟩ := adv_sk ha
    have jn : j ≤ 400 := by have := sk.2.1; have := hc.2.1; omega
    refine peek_r hc ⟨i, hi, sk⟩ (fun s1 a4 a2 a3 f1 => ?_)
    have hg : rgs tx n s1 j := ⟨a2.trans h0, j, a4, skp_s sk⟩
    have hc1 := rtx_pk hc f1
    have hA1 := rat_pk hA f1
    refine ⟨fun z => absurd z h3, fun _ => ?_⟩
    rcases Tx_1 g with ⟨c126, g⟩ | ⟨n126, n91, g⟩ | ⟨c91, g⟩
    · refine ⟨fun z => absurd ((nxr_c (by omega) (by omega)).2 c126) z, fun _ => ?_⟩
      rw [w32_id (by omega) (by omega)]
      rcases g with ⟨k10, er⟩ | ⟨k10, g⟩
      · subst er
        refine ⟨fun z => absurd z (by omega), fun _ => fail_r hg.1 (by omega) (fun s2 b _ => ?_)⟩
        refine rt_badstep (e := (3, (j : Int))) (by rw [← a4]; exact b) (fun s3 b3 => RTv_bad b3 (txS_e hr))
      · refine ⟨fun _ => rt_step a4 jn (fun s2 b4 f2 => ?_), fun z => absurd z (by omega)⟩
        have z2 : s2.1 582 2 = 0 := (f2.1 _ _ (by omega)).trans hg.1
        rcases g with ⟨e, aq, er⟩ | ⟨j1, aq, g⟩
        · subst er
          exact RTv_1 (k := k + 1) (rtx_st hc1 f2) z2 (rat_st hA1 f2) rfl hd b4 aq h3 (by omega) (by omega) (Or.inl ⟨e, rfl, txS_e hr⟩)
        · exact RTv_1 (k := k + 1) (rtx_st hc1 f2) z2 (rat_st hA1 f2) rfl hd b4 aq h3 (by omega) (by omega) (Or.inr ⟨j1, r1, rfl, g, hr⟩)
    · refine ⟨fun _ => ⟨fun z => absurd z h3, fun _ => ⟨fun _ => ⟨fun z => absurd z h3, fun _ => ?_⟩, fun z => absurd ((nxr_c (by omega) (by omega)).1 z) n91⟩⟩, fun z => absurd ((nxr_c (by omega) (by omega)).1 z) n126⟩
      refine readAtom_r hc1 hg tk hA1 g (fun e s2 b er => ?_) (fun s2 j' A' er hg2 tk2 hc2 hA2 _ => ?_)
      · subst er
        exact settle_r (fun s3 f3 => RTv_bad (rbd_wt b f3) (txS_e hr))
      · subst er
        refine settle_r (fun s3 f3 => ?_)
        obtain ⟨z2, i2, hi2, sk2⟩ := rgs_wt hg2 f3
        obtain ⟨r3, g3, hr3⟩ := hr
        exact RTv_3 (rtx_wt hc2 f3) z2 (rat_wt hA2 f3) rfl hd hi2 ⟨j', sk2, Or.inl ⟨rfl, tk2⟩⟩ rfl (Or.inr ⟨j', r3, rfl, g3, hr3⟩)
    · have e91 : nxr tx n j = 91 := (nxr_c (by omega) (by omega)).2 c91
      refine ⟨fun _ => ⟨fun z => absurd z h3, fun _ => ⟨fun z => absurd e91 z, fun _ => ?_⟩⟩, fun z => absurd (e91.symm.trans z) (by omega)⟩
      rw [w32_id (by omega) (by omega)]
      rcases g with ⟨d10, er⟩ | ⟨d10, g⟩
      · subst er
        refine ⟨fun z => absurd z (by omega), fun _ => fail_r hg.1 (by omega) (fun s2 b _ => ?_)⟩
        exact rt_badstep (e := (3, (j : Int))) (by rw [← a4]; exact b) (fun s3 b3 => RTv_bad b3 (txS_e hr))
      · refine ⟨fun _ => rt_step a4 jn (fun s2 b4 f2 => ?_), fun z => absurd z (by omega)⟩
        have z2 : s2.1 582 2 = 0 := (f2.1 _ _ (by omega)).trans hg.1
        rcases g with ⟨e, aq, er⟩ | ⟨j1, aq, g⟩
        · subst er
          exact RTv_1 (k := 0) (d := d + 1) (rtx_st hc1 f2) z2 (rat_st hA1 f2) (by omega) (by omega) b4 aq h3 (by omega) (by omega) (Or.inl ⟨e, rfl, txS_e hr⟩)
        · have key : ∃ r4, Tx tx n 4 0 (d + 1) j1 A r4 ∧ txS tx n R (d + 1) r4 := by
            rcases g with ⟨e, g4, er⟩ | ⟨j2, B, g4, g2⟩
            · subst er; exact ⟨.inl e, g4, show R = .inl e from txS_e hr⟩
            · refine ⟨_, g4, ?_⟩
              rcases g2 with ⟨n93, er⟩ | ⟨c93, q, aq2, er⟩
              · subst er; exact Or.inl ⟨n93, txS_e hr⟩
              · subst er; exact Or.inr ⟨c93, q, aq2, hr⟩
          obtain ⟨r4, g4, hr4⟩ := key
          obtain ⟨r1', g1, hr1⟩ := te_1 (W := txS tx n R (d + 1)) g4 hr4
          exact RTv_1 (k := 0) (d := d + 1) (rtx_st hc1 f2) z2 (rat_st hA1 f2) (by omega) (by omega) b4 aq h3 (by omega) (by omega) (Or.inr ⟨j1, r1', rfl, g1, hr1⟩)
/-- what can't stand here -/
theorem rt_285 {tx : Nat → Int} {n j : Nat} {R : ou ats} {l1 l2 l3 l4 : Int} {s : im_S} {Q : im_S → Prop} (hc : rtx tx n s) (hg : rgs tx n s j) (h2 : (j < n → tok (tx j)) → R = .inl (2, (j : Int))) (h1 : j < n → ¬ tok (tx j) → R = .inl (1, (j : Int))) : C_readText10_285 (RTv tx n R) l1 l2 l3 l4 s Q :=
  cannot_r hc hg (fun t s' b _ => RTv_bad b (h2 t)) (fun t u s' b _ => RTv_bad b (h1 t u))
/-- one turn of the loop behind a piece -/
theorem rt_24b {tx : Nat → Int} {n : Nat} {R : ou ats} {l1 l2 l3 : Int} {s : im_S} {Q : im_S → Prop} {A : ats} {d i : Nat} {q : ou Unit} (hc : rtx tx n s) (h0 : s.1 582 2 = 0) (hA : rat s A) (h1 : l1 = (d : Int)) (hd : d ≤ 10) (hi : s.1 582 4 = (i : Int)) (ha : adv tx n i q) (h3 : l3 = 0) (h2 : l2 = 0) (h : (∃ e, q = .inl e ∧ R = .inl e) ∨ ∃ j r3, q = .inr (j, ()) ∧ Tx tx n 3 0 d j A r3 ∧ cR3 tx n (txS tx n R d) d r3) : C_readText10_24 (RTv tx n R) l1 l2 l3 0 s Q := by
  subst h1; subst h2; subst h3
  refine ⟨fun z => absurd rfl z, fun _ => good_r (fun _ => ⟨fun z => absurd z (by omega), fun _ => ?_⟩) (fun z => absurd h0 z)⟩
  rcases h with ⟨e, eq, eR⟩ | ⟨j, r3, eq, g, hr⟩
  · subst eq
    obtain ⟨j, sk, hj⟩ := ha
    rcases hj with ⟨ej, _⟩ | ⟨ej, jn, nt⟩
    · cases ej
    have ej2 : e = (1, (j : Int)) := by cases ej; rfl
    subst ej2
    refine peek_r hc ⟨i, hi, sk⟩ (fun s1 a4 a2 a3 f1 => ?_)
    have ex : nxr tx n j = tx j := if_pos jn
    rw [ex]
    have hg : rgs tx n s1 j := ⟨a2.trans h0, j, a4, skp_s sk⟩
    have hb : ∀ l4, C_readText10_285 (RTv tx n R) (d : Int) 0 0 l4 s1 Q := fun l4 => rt_285 (rtx_pk hc f1) hg (fun t => absurd (t jn) nt) (fun _ _ => eR)
    have c32 := (hc.2.2.2 j jn).1
    have h272 : C_readText10_272 (RTv tx n R) (d : Int) 0 0 (tx j) s1 Q := ⟨fun _ => hb 1, fun z => absurd z (by omega)⟩
    refine ⟨fun _ => ⟨fun _ => ⟨fun _ => ⟨fun z => absurd (show tok (tx j) by rw [z]; unfold tok dgt; omega) nt, fun _ => ⟨fun _ => ⟨fun _ => h272, fun z => absurd (show tok (tx j) by rw [z]; unfold tok dgt; omega) nt⟩, fun z => absurd (show tok (tx j) by rw [z]; unfold tok dgt; omega) nt⟩⟩, fun z => absurd rfl z⟩, fun z => absurd rfl z⟩, fun z => absurd rfl z⟩
  · subst eq
    obtain ⟨sk, tk⟩ := adv_sk ha
    have jn : j ≤ 400 := by have := sk.2.1; have := hc.2.1; omega
    refine peek_r hc ⟨i, hi, sk⟩ (fun s1 a4 a2 a3 f1 => ?_)
    have hg : rgs tx n s1 j := ⟨a2.trans h0, j, a4, skp_s sk⟩
    have hc1 := rtx_pk hc f1
    have hA1 := rat_pk hA f1
    refine ⟨fun _ => ?_, fun z => absurd rfl z⟩
    obtain ⟨k1, k2⟩ := re_3 (W := txS tx n R d) g hr
    have h173 : (nxc tx n j = 38 ∨ nxc tx n j = 124) → C_readText10_173 (RTv tx n R) (d : Int) 0 0 (nxr tx n j) s1 Q := fun z v208 _ => by
      refine settle_r (fun s2 f2 v412 _ => ?_)
      refine rt_step (i := j) ((f2.1 _ _ (by omega)).trans a4) jn (fun s3 b4 f3 => ?_)
      have z3 : s3.1 582 2 = 0 := (f3.1 _ _ (by omega)).trans ((f2.1 _ _ (by omega)).trans hg.1)
      obtain ⟨q, aq, hq⟩ := k1 z
      refine RTv_1 (k := 0) (rtx_st (rtx_wt hc1 f2) f3) z3 (rat_st (rat_wt hA1 f2) f3) rfl hd b4 aq (by omega) rfl (by omega) ?_
      rcases hq with ⟨e, eq, w⟩ | ⟨j1, r1, eq, g1, w⟩
      · exact Or.inl ⟨e, eq, txS_e w⟩
      · exact Or.inr ⟨j1, r1, eq, g1, w⟩
    have hcan : R = .inl (2, (j : Int)) → ∀ l4, C_readText10_285 (RTv tx n R) (d : Int) 0 0 l4 s1 Q := fun eR l4 => rt_285 hc1 hg (fun _ => eR) (fun x y => absurd (tk x) y)
    have h139 : C_readText10_139 (RTv tx n R) (d : Int) 0 0 0 (nxr tx n j) s1 Q := by
      refine ⟨fun _ => ⟨fun z => h173 (Or.inl ((nxr_c (by omega) (by omega)).1 z)), fun n38 => ⟨fun n124 => ?_, fun z => h173 (Or.inr ((nxr_c (by omega) (by omega)).1 z))⟩⟩, fun z => absurd rfl z⟩
      have w := k2 (fun z => n38 ((nxr_c (by omega) (by omega)).2 z)) (fun z => n124 ((nxr_c (by omega) (by omega)).2 z))
      cases d with
      | zero =>
        have h272 : C_readText10_272 (RTv tx n R) ((0 : Nat) : Int) 0 0 (nxr tx n j) s1 Q := by
          rcases w with ⟨e0, eR⟩ | ⟨e0, eR⟩
          · have nj : ¬ j < n := fun z => by
              have := (hc.2.2.2 j z).1
              unfold nxc at e0; rw [if_pos z] at e0; omega
            have em : nxr tx n j = -1 := if_neg nj
            rw [em]
            exact ⟨fun z => absurd rfl z, fun _ => ⟨fun _ => Or.inr ⟨hc1, hg.1, A, hA1, Or.inl ⟨show (1 : Int) ≠ 0 by omega, j, eR⟩⟩, fun z => absurd (show ((0 : Nat) : Int) ≤ 0 by omega) z⟩⟩
          · have nj : j < n := by
              by_cases z : j < n
              · exact z
              · unfold nxc at e0; rw [if_neg z] at e0; exact absurd rfl e0
            have em : nxr tx n j = tx j := if_pos nj
            have := (hc.2.2.2 j nj).1
            exact ⟨fun _ => hcan eR 1, fun z => absurd z (by omega)⟩
        exact ⟨fun _ => h272, fun _ => ⟨fun _ => h272, fun z => absurd (show ((0 : Nat) : Int) ≤ 0 by omega) z⟩⟩
      | succ d =>
        rcases w with ⟨n93, eR⟩ | ⟨c93, q, aq, hq⟩
        · refine ⟨fun _ => ⟨fun _ => hcan eR 1, fun _ => ⟨fun z => absurd z (by omega), fun _ => hcan eR 1⟩⟩, fun z => absurd ((nxr_c (by omega) (by omega)).1 z) n93⟩
        · have e93 : nxr tx n j = 93 := (nxr_c (by omega) (by omega)).2 c93
          refine ⟨fun z => absurd e93 z, fun _ => ⟨fun z => absurd z (by omega), fun _ => ?_⟩⟩
          refine settle_r (fun s2 f2 s3 e3 s4 e4 => settle_r (fun s5 f5 => ?_))
          have f3 : wtf9 s1 s3 := by subst e3; exact gfr_pf f2 ⟨rfl, Or.inr rfl⟩
          have b3 : cgf s3 582 4 = (j : Int) := (f3.1 _ _ (by omega)).trans a4
          have b4 : s4.1 582 4 = ((j + 1 : Nat) : Int) := by rw [e4, cpf_same, b3, w32_id (by omega) (by omega)]; omega
          have f4 : stf9 s1 s4 := by subst e4; exact gfr_pf (stf_wt f3) ⟨rfl, Or.inl rfl⟩
          have b5 : s5.1 582 4 = ((j + 1 : Nat) : Int) := (f5.1 _ _ (by omega)).trans b4
          have z5 : s5.1 582 2 = 0 := (f5.1 _ _ (by omega)).trans ((f4.1 _ _ (by omega)).trans hg.1)
          rw [w32_id (by omega) (by omega)]
          refine RTv_3 (d := d) (rtx_wt (rtx_st hc1 f4) f5) z5 (rat_wt (rat_st hA1 f4) f5) (by omega) (by omega) b5 aq rfl ?_
          cases q with
          | inl e => exact Or.inl ⟨e, rfl, txS_e hq⟩
          | inr z =>
            obtain ⟨j1, u⟩ := z
            obtain ⟨r3', g3, hr3⟩ := hq
            exact Or.inr ⟨j1, r3', rfl, g3, hr3⟩
    exact ⟨fun _ => h139, fun z => absurd rfl z⟩
/-- readText of the reference -/
theorem readText_r {tx : Nat → Int} {n i : Nat} {q : ou Unit} {R : ou ats} {s : im_S} {Q : im_S → Prop} (hc : rtx tx n s) (h0 : s.1 582 2 = 0) (hi : s.1 582 4 = (i : Int)) (aq : adv tx n i q) (hw : (∃ e, q = .inl e ∧ R = .inl e) ∨ ∃ j r4, q = .inr (j, ()) ∧ Tx tx n 4 0 0 j [] r4 ∧ txS tx n R 0 r4) (hQ1 : ∀ e s', rbd s' e → R = .inl e → Q s') (hQ2 : ∀ s' j A, s'.1 582 2 = 0 → R = .inr (j, A) → rat s' A → Q s') : C_readText10 s Q := by
  intro s1 e1 s2 e2 s3 e3
  have f2 : stf9 s s2 := by subst e2; subst e1; exact gfr_pf (gfr_pf (gfr_refl _ _ _) ⟨rfl, by omega⟩) ⟨rfl, by omega⟩
  have k3 : ∀ f, f ≠ 6 → f ≠ 10 → f ≠ 12 → s3.1 582 f = s.1 582 f := fun f x y z => by
    rw [e3, cpf_ne (by omega), e2, cpf_ne (by omega), e1, cpf_ne (by omega)]
  have r3 : s3.2 = s.2 := by subst e3; subst e2; subst e1; rfl
  refine ⟨RTv tx n R, ?_, fun a I => ?_⟩
  · refine RTv_1 (A := []) (d := 0) (k := 0) (q := q) ?_ ((k3 2 (by omega) (by omega) (by omega)).trans h0) ?_ rfl (by omega) ((k3 4 (by omega) (by omega) (by omega)).trans hi) aq (by omega) rfl (by omega) ?_
    · obtain ⟨x, y, z, w⟩ := hc
      exact ⟨(k3 1 (by omega) (by omega) (by omega)).trans x, y, by rw [r3]; exact z, w⟩
    · exact ⟨by rw [e3, cpf_same]; rfl, by simp, fun i p w e => by cases e⟩
    · rcases hw with h | ⟨j, r4, eq, g, w⟩
      · exact Or.inl h
      · obtain ⟨r1, g1, hr⟩ := te_1 (W := txS tx n R 0) g w
        exact Or.inr ⟨j, r1, eq, g1, hr⟩
  · obtain ⟨l1, l2, l3, l4, s⟩ := a
    have I0 := I
    rcases I with ⟨e, b, eR⟩ | ⟨hc, h0, A, hA, h | ⟨h4, d, i, q, h1, hd, hi, ha, h | h⟩⟩
    · exact ⟨fun z => rt_292 I0 (Or.inl z) hQ1 hQ2, fun _ => good_r (fun z => absurd (b.1.symm.trans z) b.2.1) (fun z => ⟨fun _ => rt_292 I0 (Or.inr z) hQ1 hQ2, fun z => absurd rfl z⟩)⟩
    · exact ⟨fun z => rt_292 I0 (Or.inl z) hQ1 hQ2, fun z => absurd z h.1⟩
    · obtain ⟨h3, k, h2, hk, h⟩ := h
      have h4' : l4 = 0 := h4
      subst h4'
      exact rt_24a hc h0 hA h1 hd hi ha h3 h2 hk h
    · obtain ⟨h3, h2, h⟩ := h
      have h4' : l4 = 0 := h4
      subst h4'
      exact rt_24b hc h0 hA h1 hd hi ha h3 h2 h
