/-- the reference's loop over a sum -/
theorem sumloop_r {tx : Nat → Int} {n : Nat} {R : ou po} {s0 s : im_S} {Q : im_S → Prop} (h : SIv tx n R s0 (1, 0, s)) (hQ1 : ∀ e s', rbd s' e → R = .inl e → Q s') (hQ2 : ∀ s', lvf 0 s0 s' → rtx tx n s' → DNs tx n R s' → Q s') : ploop (fun (K : Int × Int × im_S → Prop) (a : Int × Int × im_S) => C_readSum10_13 K a.1 a.2.1 a.2.2 Q) (1, 0, s) := by
  refine ⟨SIv tx n R s0, h, ?_⟩
  rintro ⟨x, y, s1⟩ hI
  dsimp only
  rcases hI with ⟨e, b, eR⟩ | ⟨hl, hc, hI⟩
  · dsimp only at b
    exact ⟨fun _ => hQ1 e s1 b eR, fun _ => good_r (fun z => absurd (b.1.symm.trans z) b.2.1) (fun _ => ⟨fun _ => hQ1 e s1 b eR, fun z => absurd rfl z⟩)⟩
  · dsimp only at hl hc hI
    have n400 := hc.2.1
    rcases hI with ⟨y0, dn⟩ | ⟨y0, x0, ls, L, i, q, g0, ai, dp, hd, aq, hw, A, F, S⟩ | ⟨y0, x0, ls, L, j, p, p', rt, gd, tk, dp, hd, g3, hT, ep, rp', fp', A, S⟩
    · exact ⟨fun _ => hQ2 s1 hl hc dn, fun z => absurd z y0⟩
    · subst y0
      obtain ⟨j, sk, hj⟩ := aq
      refine ⟨fun z => absurd rfl z, fun _ => good_r (fun _ => ⟨fun z => absurd z (by decide), fun _ => ?_⟩) (fun z => absurd g0 z)⟩
      refine peek_r hc ⟨i, ai, sk⟩ (fun s2 a2 b2 b3 f2 => ⟨fun z => absurd z x0, fun _ => ?_⟩)
      have f2' : b91 ls.length s1 s2 := b91_pk f2
      refine takeBase_I (ls := ls) (L := L) (lvf_tr hl (lvf_pk (d := 0) f2) (Nat.le_refl _)) (rtx_pk hc f2) hd (b2.trans g0) a2 (skp_s sk) (by rw [f2.1 _ _ (by omega)]; exact dp) (b91_A f2' A) (b91_F f2' F) (stS_lv (b91_lv f2') (Nat.le_refl _) S) ?_ (fun z s3 h3 => h3)
      rcases hw with ⟨e, eq, eR⟩ | ⟨j1, rp, eq, g1, hP⟩
      · subst eq
        rcases hj with ⟨w, _⟩ | ⟨w, l, nt⟩
        · cases w
        · cases w; exact Or.inl ⟨l, nt, eR⟩
      · subst eq
        rcases hj with ⟨w, t⟩ | ⟨w, _⟩
        · cases w; exact Or.inr ⟨t, rp, g1, hP⟩
        · cases w
    · subst y0; subst x0
      refine ⟨fun z => absurd rfl z, fun _ => good_r (fun _ => ⟨fun z => absurd z (by decide), fun _ => ?_⟩) (fun z => absurd gd.1 z)⟩
      refine peek_r hc gd.2 (fun s2 a2 b2 b3 f2 => ⟨fun _ => ?_, fun z => absurd rfl z⟩)
      have f2' : b91 ls.length s1 s2 := b91_pk f2
      have l2 := lvf_tr hl (lvf_pk (d := 0) f2) (Nat.le_refl _)
      have c2 := rtx_pk hc f2
      have g2 : s2.1 582 2 = 0 := b2.trans gd.1
      have d2 : s2.1 582 21 = (ls.length : Int) := by rw [f2.1 _ _ (by omega)]; exact dp
      have A2 := b91_A f2' A
      have S2 := stS_lv (b91_lv f2') (Nat.le_refl _) S
      have P2 : rw9 s2 590 ls.length p := rw9_e (fun k hk => by rw [f2.2 _ (fun z => z)]; exact rp' k hk) ep
      have fp : fin9 p := fin9_e9 (e9_sy ep) fp'
      obtain ⟨i, _, ski⟩ := gd.2
      have sk := skp_s ski
      have g3' := Gx_3 g3
      refine ⟨fun n42 => ?_, fun e42 => ?_⟩
      · have n42' : nxc tx n j ≠ 42 := fun z => n42 ((nxr_c (by decide) (by decide)).mpr z)
        have er : rt = .inr (j, p) := by
          rcases g3' with ⟨_, er⟩ | ⟨z, _⟩
          · exact er
          · exact absurd z n42'
        subst er
        obtain ⟨aS, aG, aGs, aP⟩ := A2
        -- behind the end of the term
        have next : ∀ (M : po) (rs : ou po) (s3 : im_S), Gx tx n 5 M ls.length j rs → ctS tx n R ls rs → s3.1 582 2 = 0 → rw9 s3 589 ls.length M → fin9 M → rw1 s3 595 ls.length (-1) → etf ls.length s2 s3 → C_good10 s3 (fun z229 s228 => ((z229 = 0 → (C_readSum10_147 (SIv tx n R s0) 0 0 (nxr tx n j) s228 Q)) ∧ (¬ (z229 = 0) → ((nxr tx n j = 43 → (C_readSum10_99 (SIv tx n R s0) 0 (nxr tx n j) s228 Q)) ∧ (¬ (nxr tx n j = 43) → ((¬ (nxr tx n j = 45) → (C_readSum10_147 (SIv tx n R s0) 0 0 (nxr tx n j) s228 Q)) ∧ (nxr tx n j = 45 → (C_readSum10_99 (SIv tx n R s0) 0 (nxr tx n j) s228 Q)))))))) := fun M rs s3 g5 hW gz r9 fM r5 f3 => by
          have v3 := etf_lv f3
          have l3 := lvf_tr l2 (lvf_0 v3) (Nat.le_refl _)
          have c3 := rtx_lv c2 v3
          have d3 : s3.1 582 21 = (ls.length : Int) := by rw [f3.1.1 _ _ (by omega)]; exact d2
          have a3 : s3.1 582 4 = (j : Int) := by rw [f3.1.1 _ _ (by omega)]; exact a2
          have S3 := stS_lv v3 (Nat.le_refl _) S2
          have g5' := Gx_5 g5
          have go99 : (nxc tx n j = 43 ∨ nxc tx n j = 45) → C_readSum10_99 (SIv tx n R s0) 0 (nxr tx n j) s3 Q := fun h4 => by
            have jl : j < n := nxc_lt (by rcases h4 with z | z <;> rw [z] <;> decide)
            have en : nxr tx n j = nxc tx n j := by unfold nxr nxc; rw [if_pos jl, if_pos jl]
            intro v ev
            have ev : v = if nxc tx n j = 45 then -1 else 1 := by
              rw [en] at ev
              rcases h4 with z | z
              · rw [z, if_neg (by decide)] at ev; rw [z, if_neg (by decide)]; exact ev
              · rw [z, if_pos (by decide)] at ev; rw [z, if_pos rfl]; exact ev
            have vs : v = 1 ∨ v = -1 := by rw [ev]; split; exact Or.inr rfl; exact Or.inl rfl
            rw [show cgf s3 582 21 = (ls.length : Int) from d3]
            intro _ s4 e4
            rw [show cgf s4 582 21 = (ls.length : Int) by subst e4; exact d3, show cgf s4 582 4 = (j : Int) by subst e4; exact a3]
            intro _ s5 e5 s6 e6
            rw [show cgf s5 582 4 = (j : Int) by subst e5; subst e4; exact a3, w32s (by omega)] at e6
            have f4 : lvf ls.length s3 s4 := by subst e4; exact lvf_pa (k := ls.length) (by omega) (by omega)
            have f5 : lvf ls.length s4 s5 := by subst e5; exact lvf_pa (k := ls.length) (by omega) (by omega)
            have f6 : lvf ls.length s5 s6 := by subst e6; exact lvf_pf (by omega)
            have f36 := lvf_tr f4 (lvf_tr f5 f6 (Nat.le_refl _)) (Nat.le_refl _)
            have w6 : s6.2 = s5.2 := by subst e6; rfl
            have hq : ∃ q, adv tx n (j + 1) q ∧ ((∃ e, q = .inl e ∧ R = .inl e) ∨ ∃ j2 rp, q = .inr (j2, ()) ∧ Gx tx n 1 poX ls.length j2 rp ∧ ctP tx n (ctS tx n R ls) ls.length (some M, v, (j : Int), none) rp) := by
              rcases g5' with ⟨⟨z1, z2⟩, _⟩ | ⟨_, g6⟩
              · rcases h4 with z | z
                · exact absurd z z1
                · exact absurd z z2
              · rcases g6 with ⟨e, a, er⟩ | ⟨j1, a, g6⟩
                · subst er; exact ⟨.inl e, a, Or.inl ⟨e, rfl, ctS_e hW⟩⟩
                · refine ⟨.inr (j1, ()), a, Or.inr ?_⟩
                  rcases g6 with ⟨e, g6, er⟩ | ⟨j2, q, g6, g7⟩
                  · subst er
                    obtain ⟨rp, k1, k2⟩ := te_wb (L := (some M, v, (j : Int), none)) (W := ctS tx n R ls) (Gx_2 g6) rfl hW
                    exact ⟨j1, rp, rfl, k1, k2⟩
                  · obtain ⟨rp, k1, k2⟩ := te_wb (L := (some M, v, (j : Int), none)) (W := ctS tx n R ls) (Gx_2 g6) rfl (by
                      rcases g7 with ⟨ad, er⟩ | ⟨m, ad, g8⟩
                      · subst er; exact Or.inl ⟨by rw [← ev] at ad; exact ad, hW⟩
                      · exact Or.inr ⟨m, rs, by rw [← ev] at ad; exact ad, g8, hW⟩)
                    exact ⟨j1, rp, rfl, k1, k2⟩
            obtain ⟨q, aq, hq⟩ := hq
            refine Or.inr ⟨lvf_tr l3 (lvf_0 f36) (Nat.le_refl _), rtx_lv c3 f36, Or.inr (Or.inl ⟨rfl, (show (1 : Int) ≠ 0 by decide), ls, (some M, v, (j : Int), none), j + 1, q, ?_, ?_, ?_, hd, aq, hq, ⟨⟨M, e9_refl _, fun k hk => ?_, fM⟩, ?_, vs, fun _ => ?_⟩, ?_, stS_lv f36 (Nat.le_refl _) S3⟩)⟩
            · subst e6; subst e5; subst e4; dsimp only; rw [cpf_ne (by omega)]; exact gz
            · subst e6; exact cpf_same _ _ _ _
            · subst e6; subst e5; subst e4; dsimp only; rw [cpf_ne (by omega)]; exact d3
            · rw [w6]
              subst e5; subst e4
              rw [cpa_ne (by omega), cpa_ne (by omega)]; exact r9 k hk
            · show s6.2 593 ls.length = _
              rw [w6]
              subst e5; subst e4
              rw [cpa_ne (by omega), cpa_at (m := ls.length) (by omega), if_pos rfl]
            · show s6.2 594 ls.length = _
              rw [w6]
              subst e5; subst e4
              rw [cpa_at (m := ls.length) (by omega), if_pos rfl]
            · show s6.2 595 ls.length = _
              rw [w6]
              subst e5; subst e4
              rw [cpa_ne (by omega), cpa_ne (by omega)]; exact r5
          have go147 : nxc tx n j ≠ 43 → nxc tx n j ≠ 45 → C_readSum10_147 (SIv tx n R s0) 0 0 (nxr tx n j) s3 Q := fun h43 h45 => by
            have er : rs = .inr (j, M) := by
              rcases g5' with ⟨_, er⟩ | ⟨z, _⟩
              · exact er
              · rcases z with z | z
                · exact absurd z h43
                · exact absurd z h45
            subst er
            refine good_r (fun _ => ⟨fun z => absurd z (by decide), fun _ => ?_⟩) (fun z => absurd gz z)
            rw [show cgf s3 582 21 = (ls.length : Int) from d3]
            cases ls with
            | nil =>
              refine ⟨fun _ => Or.inr ⟨l3, c3, Or.inl ⟨(show (1 : Int) ≠ 0 by decide), j, M, M, hW, e9_refl _, r9, fM, ⟨gz, j, a3, sk⟩, tk⟩⟩, fun z => absurd (by decide) z⟩
            | cons L0 ls0 =>
              refine ⟨fun z => ?_, fun _ => endBracket_I (ls := ls0) (L := L0) l3 c3 hd gz a3 sk tk d3 r9 fM S3 hW (fun s4 h4 => h4)⟩
              have : ((ls0.length + 1 : Nat) : Int) ≤ 0 := z
              omega
          refine good_r (fun _ => ⟨fun z => absurd z (by decide), fun _ => ⟨fun z => go99 (Or.inl ((nxr_c (by decide) (by decide)).mp z)), fun z => ⟨fun z2 => go147 (fun w => z ((nxr_c (by decide) (by decide)).mpr w)) (fun w => z2 ((nxr_c (by decide) (by decide)).mpr w)), fun z2 => go99 (Or.inr ((nxr_c (by decide) (by decide)).mp z2))⟩⟩⟩) (fun z => absurd gz z)
        have badn : ∀ (e : Int × Int) (s3 : im_S), rbd s3 e → R = .inl e → C_good10 s3 (fun z229 s228 => ((z229 = 0 → (C_readSum10_147 (SIv tx n R s0) 0 0 (nxr tx n j) s228 Q)) ∧ (¬ (z229 = 0) → ((nxr tx n j = 43 → (C_readSum10_99 (SIv tx n R s0) 0 (nxr tx n j) s228 Q)) ∧ (¬ (nxr tx n j = 43) → ((¬ (nxr tx n j = 45) → (C_readSum10_147 (SIv tx n R s0) 0 0 (nxr tx n j) s228 Q)) ∧ (nxr tx n j = 45 → (C_readSum10_99 (SIv tx n R s0) 0 (nxr tx n j) s228 Q)))))))) := fun e s3 b eR => good_r (fun z => absurd (b.1.symm.trans z) b.2.1) (fun _ => ⟨fun _ => good_r (fun z => absurd (b.1.symm.trans z) b.2.1) (fun _ => ⟨fun _ => Or.inl ⟨e, b, eR⟩, fun z => absurd rfl z⟩), fun z => absurd rfl z⟩)
        unfold ctT at hT
        cases hL : L.1 with
        | none =>
          rw [hL] at hT aS
          obtain ⟨rs, g5, hW⟩ := hT
          have fm : fin9 (fun k => (fun _ => (0 : Int)) k + L.2.1 * p k) := fun k hk => by
            have := fp k hk
            rcases aGs with q | q <;> rw [q] <;> dsimp only <;> omega
          refine endTerm_r (sp := s2.2 594 ls.length) hd g2 d2 aS P2 (fun k hk => ⟨by show -1000000000 ≤ (0 : Int); decide, by show (0 : Int) ≤ 1000000000; decide⟩) fp aG aGs rfl (fun m ad s3 g3 r9 fM r5 f3 => ?_) (fun ad s3 b => ?_)
          · have em : m = fun k => (fun _ => (0 : Int)) k + L.2.1 * p k := by
              rcases ad with ⟨z, _⟩ | ⟨z, _⟩
              · cases z
              · cases z; rfl
            have ee : e9 (if L.2.1 = -1 then poN p else p) m := fun k hk => by
              rw [em]
              rcases aGs with q | q
              · rw [q, if_neg (by decide)]; dsimp only; omega
              · rw [q, if_pos rfl]; show - p k = _; dsimp only; omega
            exact next _ rs s3 g5 hW g3 (rw9_e r9 ee) (fin9_e9 (e9_sy ee) fM) r5 f3
          · rcases ad with ⟨_, z⟩ | ⟨z, _⟩
            · exact absurd fm z
            · cases z
        | some c =>
          rw [hL] at hT aS
          obtain ⟨c', ec, rc, fc⟩ := aS
          have sp1 := aP (by rw [hL]; exact fun z => by cases z)
          refine endTerm_r hd g2 d2 (rw9_e rc ec) P2 (fin9_e9 (e9_sy ec) fc) fp aG aGs sp1 (fun m ad s3 g3 r9 fM r5 f3 => ?_) (fun ad s3 b => ?_)
          · rcases hT with ⟨ad2, _⟩ | ⟨m2, rs, ad2, g5, hW⟩
            · rcases ad with ⟨z, _⟩ | ⟨_, z⟩
              · cases z
              · rcases ad2 with ⟨_, z2⟩ | ⟨z2, _⟩
                · exact absurd z z2
                · cases z2
            · have em : m = m2 := by
                rcases ad with ⟨z, _⟩ | ⟨z, _⟩
                · cases z
                · rcases ad2 with ⟨z2, _⟩ | ⟨z2, _⟩
                  · cases z2
                  · cases z; cases z2; rfl
              subst em
              exact next _ rs s3 g5 hW g3 r9 fM r5 f3
          · rcases hT with ⟨_, w⟩ | ⟨m2, rs, ad2, _⟩
            · exact badn _ s3 b (ctS_e w)
            · rcases ad with ⟨_, z⟩ | ⟨z, _⟩
              · rcases ad2 with ⟨z2, _⟩ | ⟨_, z2⟩
                · cases z2
                · exact absurd z2 z
              · cases z
      · have e42' := (nxr_c (by decide) (by decide)).mp e42
        have jl : j < n := nxc_lt (by rw [e42']; decide)
        rw [show cgf s2 582 21 = (ls.length : Int) from d2, show cgf s2 582 4 = (j : Int) from a2]
        intro _ s3 e3 s4 e4
        rw [show cgf s3 582 4 = (j : Int) by subst e3; exact a2, w32s (by omega)] at e4
        have f3 : lvf ls.length s2 s3 := by subst e3; exact lvf_pa (k := ls.length) (by omega) (by omega)
        have f4 : lvf ls.length s3 s4 := by subst e4; exact lvf_pf (by omega)
        have f24 := lvf_tr f3 f4 (Nat.le_refl _)
        have row : ∀ c, c ≠ 595 → s4.2 c = s2.2 c := fun c hc => by subst e4; subst e3; show (cpa s2 595 _ _).2 c = _; rw [cpa_ne hc]
        have hq : ∃ q, adv tx n (j + 1) q ∧ ((∃ e, q = .inl e ∧ R = .inl e) ∨ ∃ j2 rp, q = .inr (j2, ()) ∧ Gx tx n 1 poX ls.length j2 rp ∧ ctP tx n (ctS tx n R ls) ls.length (L.1, L.2.1, L.2.2.1, some (p, (j : Int))) rp) := by
          rcases g3' with ⟨z, _⟩ | ⟨_, g6⟩
          · exact absurd e42' z
          · rcases g6 with ⟨e, a, er⟩ | ⟨j1, a, g6⟩
            · subst er; exact ⟨.inl e, a, Or.inl ⟨e, rfl, ctS_e hT⟩⟩
            · refine ⟨.inr (j1, ()), a, Or.inr ?_⟩
              rcases g6 with ⟨e, g6, er⟩ | ⟨j2, q, g6, g7⟩
              · subst er; exact ⟨j1, .inl e, rfl, g6, hT⟩
              · refine ⟨j1, .inr (j2, q), rfl, g6, ?_⟩
                rcases g7 with ⟨mu, er⟩ | ⟨m, mu, g8⟩
                · subst er; exact Or.inl ⟨mu, hT⟩
                · exact Or.inr ⟨m, rt, mu, g8, hT⟩
        obtain ⟨q, aq, hq⟩ := hq
        refine Or.inr ⟨lvf_tr l2 (lvf_0 f24) (Nat.le_refl _), rtx_lv c2 f24, Or.inr (Or.inl ⟨rfl, (show (1 : Int) ≠ 0 by decide), ls, (L.1, L.2.1, L.2.2.1, some (p, (j : Int))), j + 1, q, ?_, ?_, ?_, hd, aq, hq, ?_, ⟨?_, by show (0 : Int) ≤ (j : Int); omega, p, e9_refl _, fun k hk => ?_, fp⟩, stS_lv f24 (Nat.le_refl _) S2⟩)⟩
        · subst e4; subst e3; dsimp only; rw [cpf_ne (by omega)]; exact g2
        · subst e4; exact cpf_same _ _ _ _
        · subst e4; subst e3; dsimp only; rw [cpf_ne (by omega)]; exact d2
        · obtain ⟨aS, aG, aGs, aP⟩ := A2
          refine ⟨?_, by show s4.2 593 _ = _; rw [row 593 (by omega)]; exact aG, aGs, fun z => by show s4.2 594 _ = _; rw [row 594 (by omega)]; exact aP z⟩
          dsimp only
          split
          · rename_i w; rw [w] at aS; exact fun x hx => by rw [row 589 (by omega)]; exact aS x hx
          · rename_i w; rw [w] at aS
            obtain ⟨c', x, y, z⟩ := aS
            exact ⟨c', x, fun u hu => by rw [row 589 (by omega)]; exact y u hu, z⟩
        · show s4.2 595 ls.length = (j : Int)
          subst e4; subst e3
          show (cpa s2 595 _ _).2 595 _ = _
          rw [cpa_at (m := ls.length) (by omega), if_pos rfl]
        · rw [row 590 (by omega)]; exact P2 k hk
