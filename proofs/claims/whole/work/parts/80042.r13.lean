theorem lvf_0 {d : Nat} {s s' : im_S} (h : lvf d s s') : lvf 0 s s' := ⟨h.1, fun c k hk => by omega, fun c k hk => by omega⟩
theorem takeBase_I {tx : Nat → Int} {n j : Nat} {R : ou po} {s0 s : im_S} {ls : List lev} {L : lev} {Q : Int → im_S → Prop} (hl : lvf 0 s0 s) (hc : rtx tx n s) (hd : ls.length ≤ 10) (h0 : s.1 582 2 = 0) (hj : s.1 582 4 = (j : Int)) (hs : skp tx n j j) (dp : s.1 582 21 = (ls.length : Int)) (hA : lvA s ls.length L) (hF : lvF s ls.length L) (hS : stS s ls) (hw : (j < n ∧ ¬ tok (tx j) ∧ R = .inl (1, (j : Int))) ∨ ((j < n → tok (tx j)) ∧ ∃ rp, Gx tx n 1 poX ls.length j rp ∧ ctP tx n (ctS tx n R ls) ls.length L rp)) (hQ : ∀ z s', SIv tx n R s0 (z, 0, s') → Q z s') : C_takeBase10 (nxr tx n j) s Q := by
  have n400 := hc.2.1
  have jn := hs.2.1
  refine ⟨fun q => ∃ k : Nat, q.1 = (k : Int) ∧ k ≤ 9 ∧ b91 ls.length s q.2 ∧ q.2.1 = s.1 ∧ ∀ i, i < k → q.2.2 591 (9 * ls.length + i) = 0, ⟨0, rfl, by omega, b91_pk (pkf_refl _), rfl, fun i hi => by omega⟩, ?_⟩
  rintro ⟨x, s1⟩ ⟨k, e, k9, f1, q1, z1⟩
  dsimp only at e f1 q1 z1 ⊢
  subst e
  have g1 : s1.1 582 2 = 0 := by rw [q1]; exact h0
  have a1 : s1.1 582 4 = (j : Int) := by rw [q1]; exact hj
  have d1 : s1.1 582 21 = (ls.length : Int) := by rw [q1]; exact dp
  have l1 := lvf_tr hl (lvf_0 (b91_lv f1)) (Nat.le_refl _)
  have c1 := rtx_lv hc (b91_lv f1)
  have A1 := b91_A f1 hA
  have F1 := b91_F f1 hF
  have S1 := stS_lv (b91_lv f1) (Nat.le_refl _) hS
  have bad : ∀ (z : Int) (e : Int × Int) (s2 : im_S), rbd s2 e → R = .inl e → Q z s2 := fun z e s2 b er => hQ z s2 (Or.inl ⟨e, b, er⟩)
  have bad146 : ∀ (e : Int × Int) (s2 : im_S), rbd s2 e → R = .inl e → C_takeBase10_146 s2 Q := fun e s2 b er => good_r (fun z => absurd (b.1.symm.trans z) b.2.1) (fun _ => ⟨fun _ => bad 0 e s2 b er, fun z => absurd rfl z⟩)
  unfold C_takeBase10_2
  rw [show cgf s1 582 21 = (ls.length : Int) from d1]
  refine ⟨fun c => ?_, fun c => ?_⟩
  · have k99 : k = 9 := by omega
    subst k99
    have z9 : ∀ i, i < 9 → s1.2 591 (9 * ls.length + i) = 0 := z1
    rcases hw with ⟨l, nt, eR⟩ | ⟨tk, rp, g, hP⟩
    · have e : nxr tx n j = tx j := by unfold nxr; rw [if_pos l]
      rw [e]
      have nt' : ¬ dgt (tx j) ∧ tx j ≠ 120 ∧ tx j ≠ 40 := ⟨fun z => nt (Or.inl z), fun z => nt (by unfold tok; omega), fun z => nt (by unfold tok; omega)⟩
      refine isDigit_r (fun z => absurd z nt'.1) (fun _ => ⟨fun _ => ⟨fun _ => ⟨fun _ => ?_, fun z => absurd z nt'.2.2⟩, fun z => absurd z nt'.2.1⟩, fun z => absurd rfl z⟩)
      exact cannot_r c1 ⟨g1, j, a1, hs⟩ (fun t => absurd (t l) nt) (fun _ _ s2 b2 _ => bad146 _ s2 b2 eR)
    · obtain ⟨b, g0, hB⟩ := wb_b g hP
      have g0' := Gx_0 g0
      refine isDigit_r (fun dd => ⟨fun z => absurd z (by decide), fun _ => ?_⟩) (fun nd => ⟨fun _ => ⟨fun n120 => ⟨fun n40 => ?_, fun e40 => ?_⟩, fun e120 => ?_⟩, fun z => absurd rfl z⟩)
      · have dd' := nxr_d.mp dd
        rcases g0' with ⟨h1, _⟩ | ⟨_, q, nm, eb⟩ | ⟨⟨_, _, h3⟩, _⟩ | ⟨⟨h1, _⟩, _⟩ | ⟨⟨h1, _⟩, _⟩
        · rw [h1] at dd'; exact absurd dd'.2 (by decide)
        · subst eb
          obtain ⟨k1, k2⟩ := ctB_n nm hB
          refine number_g c1 g1 a1 jn nm (fun e eq _ z s2 b2 f2 => ?_) (fun t v u t6 au eq v0 v9 s2 g2 a2 f2 => ?_)
          · intro _ s3 e3
            exact bad146 e s3 (by subst e3; exact b2) (ctS_e (k1 e eq))
          · obtain ⟨rp2, pw, hP2⟩ := k2 t v u au eq
            rw [show cgf s1 582 21 = (ls.length : Int) from d1, w32_id (by omega) (by omega)]
            intro _ s3 e3
            have f3 : b91 ls.length s2 s3 := by
              subst e3
              exact ⟨gfr_pa (gfr_refl _ _ _) rfl, fun k hk => by rw [cpa_at (m := 9 * ls.length) (by omega), if_neg (by omega)]⟩
            have f13 := b91_tr (b91_pk f2) f3
            have q3 : s3.1 = s2.1 := by subst e3; rfl
            refine good_r (fun _ => ⟨fun z => absurd z (by decide), fun _ => ?_⟩) (fun z => absurd (by rw [q3]; exact g2) z)
            refine endBase_I (i := j + t) (p := poC v) (lvf_tr l1 (lvf_0 (b91_lv f13)) (Nat.le_refl _)) (rtx_lv c1 (b91_lv f13)) hd (by rw [q3]; exact g2) (by rw [q3]; exact a2) (by rw [f13.1.1 _ _ (by omega)]; exact d1) (fun i hi => ?_) (fin9_C v0 v9) pw hP2 (b91_A f13 A1) (b91_F f13 F1) (stS_lv (b91_lv f13) (Nat.le_refl _) S1) (fun s4 h4 => hQ 0 s4 h4)
            subst e3
            rw [cpa_at (m := 9 * ls.length) (by omega)]
            show _ = if i = 0 then v else 0
            by_cases i0 : i = 0
            · rw [if_pos (by omega), if_pos i0]
            · rw [if_neg (by omega), if_neg i0, f2.2 _ (fun z => z)]; exact z9 i hi
        · exact absurd dd' h3
        · rw [h1] at dd'; exact absurd dd'.1 (by decide)
        · rw [h1] at dd'; exact absurd dd'.1 (by decide)
      · have n120' : nxc tx n j ≠ 120 := fun z => n120 ((nxr_c (by decide) (by decide)).mpr z)
        have n40' : nxc tx n j ≠ 40 := fun z => n40 ((nxr_c (by decide) (by decide)).mpr z)
        rcases g0' with ⟨h1, _⟩ | ⟨h1, _⟩ | ⟨_, eb⟩ | ⟨⟨h1, _⟩, _⟩ | ⟨⟨h1, _⟩, _⟩
        · exact absurd h1 n120'
        · exact absurd (nxr_d.mpr h1) nd
        · subst eb
          exact cannot_r c1 ⟨g1, j, a1, hs⟩ (fun _ s2 b2 _ => bad146 _ s2 b2 (ctS_e hB)) (fun l t => absurd (tk l) t)
        · exact absurd h1 n40'
        · exact absurd h1 n40'
      · have e40' := (nxr_c (by decide) (by decide)).mp e40
        have jl : j < n := nxc_lt (by rw [e40']; decide)
        rw [show cgf s1 582 21 = (ls.length : Int) from d1, show cgf s1 582 4 = (j : Int) from a1]
        refine ⟨fun nd10 s2 e2 s3 e3 => ?_, fun d10 => ?_⟩
        · have d9 : ls.length < 10 := by omega
          obtain ⟨q, aq, hq⟩ := ba_push e40' d9 g0' hB
          rw [w32s (by omega)] at e2
          have i2 : cgf s2 582 21 = (ls.length : Int) := by subst e2; show (cpf s1 582 4 _).1 582 21 = _; rw [cpf_ne (by omega)]; exact d1
          rw [i2, w32s (by omega)] at e3
          have f2 : pkf s1 s2 := by subst e2; exact pkf_pf (pkf_refl _) (by omega) (by omega)
          have f3 : lvf (ls.length + 1) s2 s3 := by subst e3; exact lvf_pf (by omega)
          have f13 : lvf (ls.length + 1) s1 s3 := lvf_tr (lvf_pk f2) f3 (Nat.le_refl _)
          have c3 := rtx_lv c1 f13
          have a3 : s3.1 582 4 = ((j + 1 : Nat) : Int) := by subst e3; subst e2; rw [cpf_ne (by omega)]; exact cpf_same _ _ _ _
          have g3 : s3.1 582 2 = 0 := by subst e3; subst e2; rw [cpf_ne (by omega), cpf_ne (by omega)]; exact g1
          have d3 : s3.1 582 21 = ((ls.length + 1 : Nat) : Int) := by subst e3; exact cpf_same _ _ _ _
          obtain ⟨j1, sk1, hj1⟩ := aq
          refine beginSum_r (d := ls.length + 1) c3 (by omega) ⟨g3, _, a3, sk1⟩ d3 (fun s4 sg o g4 d4 r9 r3 r5 f4 => hQ 1 s4 ?_)
          have f14 : lvf (ls.length + 1) s1 s4 := lvf_tr f13 f4 (Nat.le_refl _)
          have S4 : stS s4 (L :: ls) := stS_lv f14 (Nat.le_refl _) (show stS s1 (L :: ls) from ⟨A1, F1, S1⟩)
          have base : ∀ (i : Nat) (q : ou Unit), s4.1 582 4 = (i : Int) → adv tx n i q → ((∃ e, q = .inl e ∧ R = .inl e) ∨ ∃ j rp, q = .inr (j, ()) ∧ Gx tx n 1 poX (L :: ls).length j rp ∧ ctP tx n (ctS tx n R (L :: ls)) (L :: ls).length (none, sg, 0, none) rp) → (sg = 1 ∨ sg = -1) → SIv tx n R s0 (1, 0, s4) := fun i q ai ad hh hsg => Or.inr ⟨lvf_tr l1 (lvf_0 f14) (Nat.le_refl _), rtx_lv c1 f14, Or.inr (Or.inl ⟨rfl, (show (1 : Int) ≠ 0 by decide), L :: ls, (none, sg, 0, none), i, q, g4, ai, d4, by show ls.length + 1 ≤ 10; omega, ad, hh, ⟨r9, r3, hsg, fun z => absurd rfl z⟩, r5, S4⟩)⟩
          rcases hq with ⟨e, eq, eR⟩ | ⟨j9, rs, eq, g4', hS'⟩
          · subst eq
            rcases hj1 with ⟨z, _⟩ | ⟨z, l, nt⟩
            · cases z
            · have nx : nxc tx n j1 ≠ 45 := fun w => nt (by unfold nxc at w; rw [if_pos l] at w; unfold tok; omega)
              rcases o with ⟨w, _⟩ | ⟨_, es, a4⟩
              · exact absurd w nx
              · exact base j1 (.inl e) a4 ⟨j1, skp_s sk1, Or.inr ⟨z, l, nt⟩⟩ (Or.inl ⟨e, rfl, eR⟩) (Or.inl es)
          · subst eq
            rcases hj1 with ⟨z, tk1⟩ | ⟨z, _⟩
            · cases z
              obtain ⟨w1, w2⟩ := su_wb (Gx_4 g4') hS'
              rcases o with ⟨w, es, a4⟩ | ⟨w, es, a4⟩
              · subst es
                obtain ⟨q3, aq3, h3⟩ := w1 w
                refine base (j1 + 1) q3 a4 aq3 ?_ (Or.inr rfl)
                rcases h3 with ⟨e, eq, hh⟩ | h3
                · exact Or.inl ⟨e, eq, hh⟩
                · exact Or.inr h3
              · subst es
                obtain ⟨rp3, k3, k4⟩ := w2 w
                exact base j1 (.inr (j1, ())) a4 ⟨j1, skp_s sk1, Or.inl ⟨rfl, tk1⟩⟩ (Or.inr ⟨j1, rp3, rfl, k3, k4⟩) (Or.inl rfl)
            · cases z
        · have d10 : 10 ≤ ls.length := by omega
          rcases g0' with ⟨h1, _⟩ | ⟨h1, _⟩ | ⟨⟨_, h2, _⟩, _⟩ | ⟨_, eb⟩ | ⟨⟨_, h2⟩, _⟩
          · rw [e40'] at h1; exact absurd h1 (by decide)
          · rw [e40'] at h1; exact absurd h1.1 (by decide)
          · exact absurd e40' h2
          · subst eb
            exact fail_r g1 (by decide) (fun s2 b2 _ => bad 1 _ s2 b2 (ctS_e hB))
          · omega
      · have e120' := (nxr_c (by decide) (by decide)).mp e120
        have jl : j < n := nxc_lt (by rw [e120']; decide)
        rw [show cgf s1 582 21 = (ls.length : Int) from d1, w32_id (x := 9 * (ls.length : Int)) (by omega) (by omega), w32_id (by omega) (by omega)]
        rcases g0' with ⟨_, q, aq, eb⟩ | ⟨h1, _⟩ | ⟨⟨h1, _, _⟩, _⟩ | ⟨⟨h1, _⟩, _⟩ | ⟨⟨h1, _⟩, _⟩
        · subst eb
          obtain ⟨rp2, pw, hP2⟩ := ctB_p aq hB
          intro _ s2 e2 s3 e3
          rw [show cgf s2 582 4 = (j : Int) by subst e2; exact a1, w32s (by omega)] at e3
          have f2 : b91 ls.length s1 s2 := by
            subst e2
            exact ⟨gfr_pa (gfr_refl _ _ _) rfl, fun k hk => by rw [cpa_at (m := 9 * ls.length + 1) (by omega), if_neg (by omega)]⟩
          have f3 : pkf s2 s3 := by subst e3; exact pkf_pf (pkf_refl _) (by omega) (by omega)
          have f13 := b91_tr f2 (b91_pk f3)
          have g3 : s3.1 582 2 = 0 := by subst e3; subst e2; rw [cpf_ne (by omega)]; exact g1
          refine good_r (fun _ => ⟨fun z => absurd z (by decide), fun _ => ?_⟩) (fun z => absurd g3 z)
          refine endBase_I (i := j + 1) (p := poX) (lvf_tr l1 (lvf_0 (b91_lv f13)) (Nat.le_refl _)) (rtx_lv c1 (b91_lv f13)) hd g3 (by subst e3; exact cpf_same _ _ _ _) (by rw [f13.1.1 _ _ (by omega)]; exact d1) (fun i hi => ?_) (fun k hk => ?_) pw hP2 (b91_A f13 A1) (b91_F f13 F1) (stS_lv (b91_lv f13) (Nat.le_refl _) S1) (fun s4 h4 => hQ 0 s4 h4)
          · rw [f3.2 _ (fun z => z)]
            subst e2
            rw [cpa_at (m := 9 * ls.length + 1) (by omega)]
            show _ = if i = 1 then 1 else 0
            by_cases i0 : i = 1
            · rw [if_pos (by omega), if_pos i0]
            · rw [if_neg (by omega), if_neg i0]; exact z9 i hi
          · show -1000000000 ≤ (if k = 1 then (1 : Int) else 0) ∧ (if k = 1 then (1 : Int) else 0) ≤ 1000000000
            split <;> omega
        · exact absurd (nxr_d.mpr h1) nd
        · exact absurd e120' h1
        · rw [e120'] at h1; exact absurd h1 (by decide)
        · rw [e120'] at h1; exact absurd h1 (by decide)
  · have k8 : k < 9 := by omega
    rw [w32_id (x := 9 * (ls.length : Int)) (by omega) (by omega), w32_id (by omega) (by omega)]
    intro _ s2 e2
    refine ⟨k + 1, w32s (by omega), by omega, b91_tr f1 ?_, by subst e2; exact q1, fun i hi => ?_⟩
    · subst e2
      exact ⟨gfr_pa (gfr_refl _ _ _) rfl, fun i hi => by rw [cpa_at (m := 9 * ls.length + k) (by omega), if_neg (by omega)]⟩
    · subst e2
      dsimp only
      rw [cpa_at (m := 9 * ls.length + k) (by omega)]
      by_cases ck : i = k
      · rw [if_pos (by omega)]
      · rw [if_neg (by omega)]; exact z1 i (by omega)
