/-! THE REFERENCE'S PROGRAM -/
/-- one code was made -/
def mkq (s s' : im_S) (x : Int) : Prop := (0 ≤ s.1 582 10 ∧ s.1 582 10 < gln 586) ∧ s'.1 582 10 = w32 (s.1 582 10 + 1) ∧ ∀ i : Nat, s'.2 586 i = if i = (s.1 582 10).toNat then x else s.2 586 i
theorem readAtom_rz {tx : Nat → Int} {n j : Nat} {A : ats} {r : ou ats} {s : im_S} {Q : im_S → Prop} (hc : rtx tx n s) (h : rgs tx n s j) (tk : j < n → tok (tx j)) (hA : rat s A) (g : tAT tx n j A r) (hQ1 : ∀ e s', rbd s' e → r = .inl e → Q s') (hQ2 : ∀ s' j' A', r = .inr (j', A') → rgs tx n s' j' → (j' < n → tok (tx j')) → rtx tx n s' → rat s' A' → taf s s' → mkq s s' (A.length : Int) → Q s') : C_readAtom10 s Q := by
  have n400 := hc.2.1
  have b74 : ∀ (e : Int × Int) (l : Int) (s1 : im_S), rbd s1 e → r = .inl e → C_readAtom10_74 l s1 Q := fun e l s1 b er => good_r (fun z => absurd (b.1.symm.trans z) b.2.1) (fun _ => ⟨fun z => absurd rfl z, fun _ => hQ1 e s1 b er⟩)
  have b49 : ∀ (e : Int × Int) (l : Int) (s1 : im_S), rbd s1 e → r = .inl e → C_readAtom10_49 l s1 Q := fun e l s1 b er => good_r (fun z => absurd (b.1.symm.trans z) b.2.1) (fun _ => ⟨fun _ => b74 e l s1 b er, fun z => absurd rfl z⟩)
  have b19 : ∀ (e : Int × Int) (l : Int) (s1 : im_S), rbd s1 e → r = .inl e → C_readAtom10_19 l s1 Q := fun e l s1 b er => good_r (fun z => absurd (b.1.symm.trans z) b.2.1) (fun _ => ⟨fun _ => b49 e l s1 b er, fun z => absurd rfl z⟩)
  rcases g with ⟨e, g, er⟩ | ⟨j1, p, g, hr⟩
  · refine readSum_r hc h tk g (fun e' s1 b eR => ?_) (fun s1 _ _ dn => ?_)
    · cases eR
      exact good_r (fun z => absurd (b.1.symm.trans z) b.2.1) (fun _ => ⟨fun _ => b19 e _ s1 b er, fun z => absurd rfl z⟩)
    · obtain ⟨_, _, _, eR, _⟩ := dn; cases eR
  · refine readSum_r hc h tk g (fun e' s1 b eR => by cases eR) (fun s1 f1 c1 dn => ?_)
    obtain ⟨j9, P, P', eR, eP, rP, fP, gd, tk1⟩ := dn
    cases eR
    have rp : rw9 s1 589 0 p := rw9_e rP eP
    have fp : fin9 p := fin9_e9 (e9_sy eP) fP
    refine good_r (fun _ => ⟨fun z => absurd z (by decide), fun _ => ?_⟩) (fun z => absurd gd.1 z)
    refine peek_r c1 gd.2 (fun s2 a2 b2 b3 f2 => ?_)
    have c2 := rtx_pk c1 f2
    have g2 : s2.1 582 2 = 0 := b2.trans gd.1
    have f02 : lvf 0 s s2 := lvf_tr f1 (lvf_pk f2) (Nat.le_refl _)
    have A2 := rat_lv hA f02
    obtain ⟨i, _, ski⟩ := gd.2
    have sk := skp_s ski
    have rp2 : rw9 s2 589 0 p := fun k hk => by rw [f2.2 _ (fun z => z)]; exact rp k hk
    refine good_r (fun _ => ⟨fun z => absurd z (by decide), fun _ => ?_⟩) (fun z => absurd g2 z)
    have main : (nxc tx n j1 = 61 ∨ nxc tx n j1 = 60 ∨ nxc tx n j1 = 62) → C_readAtom10_49 (nxr tx n j1) s2 Q := fun rel => by
      rcases hr with ⟨nr, _⟩ | ⟨_, hr⟩
      · exact absurd rel nr
      have jl : j1 < n := nxc_lt (by rcases rel with z | z | z <;> rw [z] <;> decide)
      refine good_r (fun _ => ⟨fun z => absurd z (by decide), fun _ => ?_⟩) (fun z => absurd g2 z)
      rw [show cgf s2 582 6 = (A.length : Int) from A2.1, show cgf s2 582 4 = (j1 : Int) from a2]
      rcases hr with ⟨a10, er⟩ | ⟨al, hr⟩
      · refine ⟨fun z => ?_, fun _ => fail_r g2 (by decide) (fun s3 b3 _ => b74 _ _ s3 b3 er)⟩
        have := A2.2.1
        omega
      · refine ⟨fun _ => ?_, fun z => by omega⟩
        refine good_r (fun _ => ⟨fun _ s3 e3 => ?_, fun z => absurd z (by decide)⟩) (fun z => absurd g2 z)
        rw [show cgf s2 582 4 = (j1 : Int) from a2] at e3 ⊢
        rw [w32s (by omega)] at e3
        have f3 : pkf s2 s3 := by subst e3; exact pkf_pf (pkf_refl _) (by omega) (by omega)
        have a3 : s3.1 582 4 = ((j1 + 1 : Nat) : Int) := by subst e3; exact cpf_same _ _ _ _
        have g3 : s3.1 582 2 = 0 := by subst e3; rw [cpf_ne (by omega)]; exact g2
        have f03 : lvf 0 s s3 := lvf_tr f02 (lvf_pk f3) (Nat.le_refl _)
        have A3 := rat_lv hA f03
        have rp3 : rw9 s3 589 0 p := fun k hk => by rw [f3.2 _ (fun z => z)]; exact rp2 k hk
        refine ⟨fun q => ∃ k : Nat, q.1 = (k : Int) ∧ k ≤ 9 ∧ gfr (fun _ _ => False) (fun c => c = 584) s3 q.2 ∧ (∀ i, i < 9 * A.length → q.2.2 584 i = s3.2 584 i) ∧ ∀ i, i < k → q.2.2 584 (9 * A.length + i) = p i, ⟨0, rfl, by omega, gfr_refl _ _ _, fun _ _ => rfl, fun i hi => by omega⟩, ?_⟩
        rintro ⟨x, s4⟩ ⟨k, ex, k9, f4, o4, z4⟩
        dsimp only at ex f4 o4 z4 ⊢
        subst ex
        have n4 : cgf s4 582 6 = (A.length : Int) := by show s4.1 582 6 = _; rw [f4.1 _ _ (fun z => z)]; exact A3.1
        unfold C_readAtom10_99
        rw [n4]
        refine ⟨fun c => ?_, fun c => ?_⟩
        · have c4 : rtx tx n s4 := rtx_fr (rtx_lv hc f03) f4 (fun z => z) (by omega)
          have g4 : s4.1 582 2 = 0 := by rw [f4.1 _ _ (fun z => z)]; exact g3
          have a4 : s4.1 582 4 = ((j1 + 1 : Nat) : Int) := by rw [f4.1 _ _ (fun z => z)]; exact a3
          have bad137 : ∀ (e : Int × Int) (s5 : im_S), rbd s5 e → r = .inl e → ploop (fun (K : Int × im_S → Prop) (a : Int × im_S) => C_readAtom10_137 K (nxr tx n j1) (j1 : Int) a.1 a.2 Q) (0, s5) := fun e s5 b5 er => by
            refine ⟨fun q => rbd q.2 e, b5, ?_⟩
            rintro ⟨x, s6⟩ b6
            dsimp only at b6 ⊢
            exact ⟨fun _ => atom206_b b6 (fun s7 b7 => hQ1 e s7 b7 er), fun _ => good_r (fun z => absurd (b6.1.symm.trans z) b6.2.1) (fun _ => ⟨fun _ => atom206_b b6 (fun s7 b7 => hQ1 e s7 b7 er), fun z => absurd rfl z⟩)⟩
          have f14 : taf s s4 := taf_tr (taf_lv f03) (gfr_mono f4 (fun c f e => e.elim) (fun c e => by omega))
          have go : ∀ (qq : ou Unit) (RR : ou po), adv tx n (j1 + 1) qq → ((∃ e, qq = .inl e ∧ RR = .inl e) ∨ ∃ j, qq = .inr (j, ()) ∧ Gx tx n 4 poX 0 j RR) → (∀ e, RR = .inl e → r = .inl e) → (∀ j3 q, RR = .inr (j3, q) → (addo p q (-1) none ∧ r = .inl (3, (j1 : Int))) ∨ ∃ m, addo p q (-1) (some m) ∧ r = .inr (j3, A ++ [(m, rlc (nxc tx n j1))])) → C_readSum10 s4 (fun s227 => (ploop (fun (K : Int × im_S → Prop) (a : Int × im_S) => C_readAtom10_137 K (nxr tx n j1) (j1 : Int) a.1 a.2 Q) (0, s227))) := fun qq RR aq hw k1 k2 => by
            refine readSum_q c4 g4 a4 aq hw (fun e s5 b5 eR => bad137 e s5 b5 (k1 e eR)) (fun s5 f5 c5 dn => ?_)
            obtain ⟨j3, q, q', eR, eq', rq', fq', gd5, tk5⟩ := dn
            have rq : rw9 s5 589 0 q := rw9_e rq' eq'
            have fq : fin9 q := fin9_e9 (e9_sy eq') fq'
            have hk := k2 j3 q eR
            have n5 : s5.1 582 6 = (A.length : Int) := by rw [f5.1.1 _ _ (by omega)]; exact n4
            have p5 : ∀ i, i < 9 → s5.2 584 (9 * A.length + i) = p i := fun i hi => by rw [f5.1.2 _ (by omega)]; exact z4 i (by omega)
            have o5 : ∀ i, i < 9 * A.length → s5.2 584 i = s.2 584 i := fun i hi => by rw [f5.1.2 _ (by omega), o4 i hi, f03.1.2 _ (by omega)]
            have t5 : taf s s5 := taf_tr f14 (taf_lv f5)
            refine ⟨fun w => (rbd w.2 (3, (j1 : Int)) ∧ ¬ fin9 (fun k => p k + -1 * q k)) ∨ ∃ k : Nat, w.1 = (k : Int) ∧ k ≤ 9 ∧ gfr (fun _ _ => False) (fun c => c = 584) s5 w.2 ∧ (∀ i, i < 9 * A.length → w.2.2 584 i = s.2 584 i) ∧ (∀ i, i < 9 → w.2.2 584 (9 * A.length + i) = if i < k then p i + -1 * q i else p i) ∧ ∀ i, i < k → (-1000000000 ≤ p i + -1 * q i ∧ p i + -1 * q i ≤ 1000000000), Or.inr ⟨0, rfl, by omega, gfr_refl _ _ _, o5, fun i hi => by rw [if_neg (by omega)]; exact p5 i hi, fun i hi => by omega⟩, ?_⟩
            rintro ⟨x, s6⟩ hI
            dsimp only at hI ⊢
            rcases hI with ⟨b6, nf⟩ | ⟨k, ex, k9', f6, o6, z6, w6⟩
            · have er : r = .inl (3, (j1 : Int)) := by
                rcases hk with ⟨_, er⟩ | ⟨m, ad, _⟩
                · exact er
                · rcases ad with ⟨z, _⟩ | ⟨_, z⟩
                  · cases z
                  · exact absurd z nf
              exact ⟨fun _ => atom206_b b6 (fun s7 b7 => hQ1 _ s7 b7 er), fun _ => good_r (fun z => absurd (b6.1.symm.trans z) b6.2.1) (fun _ => ⟨fun _ => atom206_b b6 (fun s7 b7 => hQ1 _ s7 b7 er), fun z => absurd rfl z⟩)⟩
            · subst ex
              have g6 : s6.1 582 2 = 0 := by rw [f6.1 _ _ (fun z => z)]; exact gd5.1
              have n6 : ∀ s9 : im_S, s9.1 582 6 = s6.1 582 6 → cgf s9 582 6 = (A.length : Int) := fun s9 h => by show s9.1 582 6 = _; rw [h, f6.1 _ _ (fun z => z)]; exact n5
              refine ⟨fun c6 => ?_, fun c6 => good_r (fun _ => ⟨fun z => absurd z (by decide), fun _ => ?_⟩) (fun z => absurd g6 z)⟩
              · have fn : fin9 (fun k => p k + -1 * q k) := fun i hi => w6 i (by omega)
                obtain ⟨m, em, er⟩ : ∃ m, m = (fun k => p k + -1 * q k) ∧ r = .inr (j3, A ++ [(m, rlc (nxc tx n j1))]) := by
                  rcases hk with ⟨ad, _⟩ | ⟨m, ad, er⟩
                  · rcases ad with ⟨_, z⟩ | ⟨z, _⟩
                    · exact absurd fn z
                    · cases z
                  · rcases ad with ⟨z, _⟩ | ⟨z, _⟩
                    · cases z
                    · cases z; exact ⟨_, rfl, er⟩
                intro v ev
                rw [n6 s6 rfl]
                intro _ s7 e7
                have ev' : v = rlc (nxc tx n j1) := by
                  have en : nxr tx n j1 = nxc tx n j1 := by unfold nxr nxc; rw [if_pos jl, if_pos jl]
                  rw [ev, en]
                  unfold rlc
                  rcases rel with z | z | z <;> rw [z] <;> decide
                intro hb8 s8 e8 s9 e9' s10 e10
                rw [show cgf s9 582 6 = (A.length : Int) by subst e9'; subst e8; subst e7; show (cpf _ 582 10 _).1 582 6 = _; rw [cpf_ne (by omega)]; exact n6 s6 rfl, w32s (by omega)] at e10
                have f7 : gfr (fun c f => c = 582 ∧ (f = 6 ∨ f = 10)) (fun c => c = 585 ∨ c = 586) s6 s10 := by
                  subst e10; subst e9'; subst e8; subst e7
                  exact gfr_pf (gfr_pf (gfr_pa (gfr_pa (gfr_refl _ _ _) (Or.inl rfl)) (Or.inr rfl)) ⟨rfl, by omega⟩) ⟨rfl, by omega⟩
                have r85 : ∀ i, s10.2 585 i = if i = A.length then v else s6.2 585 i := fun i => by
                  have w10 : s10.2 = s8.2 := by subst e10; subst e9'; rfl
                  rw [w10]
                  subst e8; subst e7
                  rw [cpa_ne (by omega), cpa_at (m := A.length) (by omega)]
                have f56 : taf s5 s10 := taf_tr (gfr_mono f6 (fun c f e => e.elim) (fun c e => by omega)) (gfr_mono f7 (fun c f e => by omega) (fun c e => by omega))
                have k67 : ∀ c f, s7.1 c f = s6.1 c f := fun c f => by rw [e7]; rfl
                have k10 : s7.1 582 10 = s.1 582 10 := by
                  rw [k67, f6.1 _ _ (fun z => z), f5.1.1 _ _ (by omega), f4.1 _ _ (fun z => z), f03.1.1 _ _ (by omega)]
                have r86 : s7.2 586 = s.2 586 := by
                  rw [e7, cpa_ne (by decide), f6.2 _ (by omega), f5.1.2 _ (by omega), f4.2 _ (by omega), f03.1.2 _ (by omega)]
                have c7 : cgf s7 582 10 = s.1 582 10 := k10
                have n7 : cgf s7 582 6 = (A.length : Int) := (k67 582 6).trans (n6 s6 rfl)
                have mq : mkq s s10 (A.length : Int) := by
                  rw [c7] at hb8 e8
                  rw [n7] at e8
                  refine ⟨hb8, ?_, fun i => ?_⟩
                  · have x8 : cgf s8 582 10 = s.1 582 10 := by rw [e8]; exact k10
                    rw [e10, cpf_ne (by omega), e9', cpf_same, x8]
                  · have w10 : s10.2 = s8.2 := by subst e10; subst e9'; rfl
                    rw [w10, e8, cpa_row, r86]
                refine hQ2 s10 j3 _ er ?_ tk5 (rtx_ta c5 f56) ⟨?_, ?_, fun i P w e => ?_⟩ (taf_tr t5 f56) mq
                · obtain ⟨a, i, b, c⟩ := gd5
                  exact ⟨by rw [f7.1 _ _ (by omega)]; exact g6, i, by rw [f7.1 _ _ (by omega), f6.1 _ _ (fun z => z)]; exact b, c⟩
                · subst e10; rw [cpf_same, List.length_append]; rfl
                · rw [List.length_append]; show A.length + 1 ≤ 10; omega
                · by_cases ci : i < A.length
                  · rw [List.getElem?_append_left ci] at e
                    obtain ⟨x1, x2, x3⟩ := hA.2.2 i P w e
                    refine ⟨fun k hk => ?_, x2, ?_⟩
                    · rw [f7.2 _ (by omega), o6 _ (by omega)]; exact x1 k hk
                    · rw [r85, if_neg (by omega), f6.2 _ (by omega), f5.1.2 _ (by omega), f4.2 _ (by omega), f03.1.2 _ (by omega)]; exact x3
                  · have ei : i = A.length := by
                      have := at_lt e
                      rw [List.length_append] at this
                      have : i < A.length + 1 := this
                      omega
                    subst ei
                    rw [List.getElem?_append_right (Nat.le_refl _), Nat.sub_self] at e
                    cases e
                    refine ⟨fun k hk => ?_, by rw [em]; exact fn, ?_⟩
                    · rw [f7.2 _ (by omega), z6 k hk, if_pos (by omega), em]
                    · rw [r85, if_pos rfl]; exact ev'
              · have k8 : k < 9 := by omega
                rw [n6 s6 rfl, w32_id (x := 9 * (A.length : Int)) (by omega) (by omega), w32_id (x := 9 * (A.length : Int) + (k : Int)) (by omega) (by omega)]
                intro _ _ _ s7 e7 _
                have y1 : cga s6 584 (9 * (A.length : Int) + (k : Int)) = p k := by show s6.2 584 (9 * (A.length : Int) + (k : Int)).toNat = _; rw [show (9 * (A.length : Int) + (k : Int)).toNat = 9 * A.length + k by omega, z6 k k8, if_neg (by omega)]
                have y2 : cga s6 589 (k : Int) = q k := by
                  show s6.2 589 ((k : Nat) : Int).toNat = _
                  rw [Int.toNat_natCast, f6.2 _ (by omega)]
                  have := rq k k8
                  rwa [show 9 * 0 + k = k by omega] at this
                have q1 := fp k k8
                have q2 := fq k k8
                rw [y1, y2, w64_id (by omega) (by omega)] at e7
                have r7 : ∀ i, s7.2 584 i = if i = 9 * A.length + k then p k - q k else s6.2 584 i := fun i => by subst e7; exact cpa_at (by omega) i
                have f7 : gfr (fun _ _ => False) (fun c => c = 584) s6 s7 := by subst e7; exact gfr_pa (gfr_refl _ _ _) rfl
                have y4 : cga s7 584 (w32 (w32 (9 * cgf s7 582 6) + (k : Int))) = p k - q k := by
                  rw [n6 s7 (by subst e7; rfl), w32_id (x := 9 * (A.length : Int)) (by omega) (by omega), w32_id (by omega) (by omega)]
                  show s7.2 584 (9 * (A.length : Int) + (k : Int)).toNat = _
                  rw [show (9 * (A.length : Int) + (k : Int)).toNat = 9 * A.length + k by omega, r7, if_pos rfl]
                rw [y4]
                intro u eu
                by_cases fn : -1000000000 ≤ p k - q k ∧ p k - q k ≤ 1000000000
                · rw [if_neg (by omega), if_neg (by omega)] at eu
                  subst eu
                  refine ⟨fun _ => Or.inr ⟨k + 1, w32s (by omega), by omega, gfr_trans f6 f7, fun i hi => ?_, fun i hi => ?_, fun i hi => ?_⟩, fun z => absurd z (by decide)⟩
                  · rw [r7, if_neg (by omega)]; exact o6 i hi
                  · rw [r7]
                    by_cases ck : i = k
                    · subst ck; rw [if_pos rfl, if_pos (by omega)]; omega
                    · rw [if_neg (by omega), z6 i hi]
                      by_cases w : i < k
                      · rw [if_pos w, if_pos (by omega)]
                      · rw [if_neg w, if_neg (by omega)]
                  · by_cases ck : i = k
                    · subst ck; omega
                    · exact w6 i (by omega)
                · have eu : u = 0 := by
                    rw [eu]
                    by_cases w : p k - q k < -1000000000
                    · rw [if_pos w]
                    · rw [if_neg w, if_pos (by omega)]
                  subst eu
                  exact ⟨fun z => absurd rfl z, fun _ => fail_r (by rw [f7.1 _ _ (fun z => z)]; exact g6) (by decide) (fun s8 b8 _ => Or.inl ⟨b8, fun w => fn (by have : -1000000000 ≤ p k + -1 * q k ∧ p k + -1 * q k ≤ 1000000000 := w k k8; omega)⟩)⟩
          rcases hr with ⟨e, ad, er⟩ | ⟨j2, ad, hr⟩
          · exact go (.inl e) (.inl e) ad (Or.inl ⟨e, rfl, rfl⟩) (fun e' w => by cases w; exact er) (fun j3 q w => by cases w)
          · rcases hr with ⟨e, g5, er⟩ | ⟨j3, q, g5, hr⟩
            · exact go (.inr (j2, ())) (.inl e) ad (Or.inr ⟨j2, rfl, g5⟩) (fun e' w => by cases w; exact er) (fun j3 q w => by cases w)
            · exact go (.inr (j2, ())) (.inr (j3, q)) ad (Or.inr ⟨j2, rfl, g5⟩) (fun e' w => by cases w) (fun j3' q' w => by cases w; exact hr)
        · have k8 : k < 9 := by omega
          rw [w32_id (x := 9 * (A.length : Int)) (by omega) (by omega), w32_id (by omega) (by omega)]
          intro _ _ s5 e5
          have y : cga s4 589 (k : Int) = p k := by
            show s4.2 589 ((k : Nat) : Int).toNat = _
            rw [Int.toNat_natCast, f4.2 _ (by omega)]
            have := rp3 k k8
            rwa [show 9 * 0 + k = k by omega] at this
          rw [y] at e5
          subst e5
          refine ⟨k + 1, w32s (by omega), by omega, gfr_pa f4 rfl, fun i hi => ?_, fun i hi => ?_⟩
          · rw [cpa_at (m := 9 * A.length + k) (by omega), if_neg (by omega)]; exact o4 i hi
          · rw [cpa_at (m := 9 * A.length + k) (by omega)]
            by_cases ck : i = k
            · subst ck; rw [if_pos rfl]
            · rw [if_neg (by omega)]; exact z4 i (by omega)
    refine ⟨fun z => main (Or.inl ((nxr_c (by decide) (by decide)).mp z)), fun n1 => ⟨fun z => main (Or.inr (Or.inl ((nxr_c (by decide) (by decide)).mp z))), fun n2 => ⟨fun z => main (Or.inr (Or.inr ((nxr_c (by decide) (by decide)).mp z))), fun n3 => ?_⟩⟩⟩
    rcases hr with ⟨_, er⟩ | ⟨rel, _⟩
    · exact cannot_r c2 ⟨g2, j1, a2, sk⟩ (fun _ s3 b3 _ => b49 _ _ s3 b3 er) (fun l t => absurd (tk1 l) t)
    · exfalso
      rcases rel with z | z | z
      · exact n1 ((nxr_c (by decide) (by decide)).mpr z)
      · exact n2 ((nxr_c (by decide) (by decide)).mpr z)
      · exact n3 ((nxr_c (by decide) (by decide)).mpr z)
