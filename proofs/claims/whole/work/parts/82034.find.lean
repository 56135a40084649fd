/-- find of the Divider leaves the greatest common divisor -/
theorem find_v {f h : Nat} {s : im_S} {F H G F1 H1 : List Int} {Q : im_S → Prop} (hd : dI s) (hd2 : s.1 247 3 ≠ s.1 247 4) (hF : ply s f F) (hH : ply s h H) (of : opc f) (oh : opc h) (bF : b58 F) (bH : b58 H) (nF : nzp F) (nH : nzp H) (lF : ∀ t, t < 44 → ¬ prmv t ∣ pgt F (s.1 f 0).toNat) (lH : ∀ t, t < 44 → ¬ prmv t ∣ pgt H (s.1 h 0).toNat) (nG : nzp G) (pG : prm1 G) (eF : ∀ x : Rat, pev F x = pev G x * pev F1 x) (eH : ∀ x : Rat, pev H x = pev G x * pev H1 x) (hc : cop F1 H1) (hL : (∀ k, 1 ≤ k → pgt G k = 0) ∨ ∃ (c : Int) (u v : List Int), c ≠ 0 ∧ (c.natAbs : Int) < 2 ^ 681 ∧ ∀ x : Rat, (c : Rat) = pev u x * pev F1 x + pev v x * pev H1 x) (hb : ∀ i j, (pgt G i * pgt F1 j).natAbs ≤ 1000000000000000 ∧ (pgt G i * pgt H1 j).natAbs ≤ 1000000000000000) (hQ : ∀ s' D K1 K2, ply s' 255 D → w63 D → prm1 D → nzp D → (∀ x : Rat, pev F x = pev D x * pev K1 x) → (∀ x : Rat, pev H x = pev D x * pev K2 x) → cop K1 K2 → dvs F D → dvs H D → lps D → dI s' → s'.1 247 3 ≠ s'.1 247 4 → fdf s s' → Q s') : C_find2v f h s Q := by
  have dF0 : 0 ≤ s.1 f 0 := dgo_0 hF.2 nF
  have dH0 : 0 ≤ s.1 h 0 := dgo_0 hH.2 nH
  obtain ⟨g, fd, egf, hG, lG0, hF1, lF1, tF⟩ := deg_mul hF.2 dF0 nG eF
  obtain ⟨g', fd', egh, hG', lG', _, _, tH⟩ := deg_mul hH.2 dH0 nG eH
  have gg : g' = g := by
    rcases Nat.lt_trichotomy g' g with w | w | w
    · exact absurd (hG' g (by omega)) lG0
    · exact w
    · exact absurd (hG g' (by omega)) lG'
  subst gg
  have lG : ∀ t, t < 44 → ¬ prmv t ∣ pgt G g' := fun t ht q => lF t ht (by rw [tF]; exact Int.dvd_trans q (Int.dvd_mul_right _ _))
  have one1 : ∀ x : Rat, pev [1] x = 1 := fun x => by rw [ev_c, rat_i1]
  have done : (∀ k, 1 ≤ k → pgt G k = 0) → ∀ s', ply s' 255 [1] → dI s' → s'.1 247 3 ≠ s'.1 247 4 → fdf s s' → Q s' := fun gz s' h' d' n' f' => by
    obtain ⟨c, u, v, c0, cc⟩ := hc
    have g0 : pgt G 0 ≠ 0 := by
      obtain ⟨k, hk⟩ := nG
      cases k with
      | zero => exact hk
      | succ k => exact absurd (gz (k + 1) (by omega)) hk
    have evG : ∀ x : Rat, pev G x = (pgt G 0 : Rat) := fun x => const_ev (fun k => gz (k + 1) (by omega)) x
    refine hQ s' [1] F H h' (fun k => ?_) (fun d hd9 => hd9 0) ⟨0, by decide⟩ (fun x => by rw [one1]; grind) (fun x => by rw [one1]; grind) ⟨c * pgt G 0, u, v, Int.mul_ne_zero c0 g0, fun x => ?_⟩ (dvs_one bF) (dvs_one bH) ⟨⟨0, fun k hk => by cases k with | zero => omega | succ k => rfl, by decide⟩, fun d hd9 => hd9 0⟩ d' n' f'
    · match k with
      | 0 => exact ⟨by decide, by decide⟩
      | k + 1 => exact ⟨by show _ ≤ (0 : Int); decide, by show (0 : Int) ≤ _; decide⟩
    · rw [Rat.intCast_mul, cc x, eF x, eH x, evG x]; grind
  have constF : s.1 f 0 < 1 → ∀ k, 1 ≤ k → pgt G k = 0 := fun q k hk => hG k (by omega)
  have constH : ¬ 1 ≤ s.1 h 0 → ∀ k, 1 ≤ k → pgt G k = 0 := fun q k hk => hG k (by omega)
  have g0n : g' ≤ 0 → ∀ k, 1 ≤ k → pgt G k = 0 := fun q k hk => hG k (by omega)
  obtain ⟨c, u, v, hcl⟩ : ∃ (c : Int) (u v : List Int), lkc G F1 H1 c u v := by
    rcases hL with q | ⟨c, u, v, q⟩
    · exact ⟨0, [], [], Or.inl ⟨q, rfl⟩⟩
    · exact ⟨c, u, v, Or.inr q⟩
  clear hL egf egh
  refine setConstant_b (fun s1 h1 f1 => ?_)
  have fr1 : fdf s s1 := py_fd f1
  have d1 : dI s1 := py_dI f1 hd
  have n1 : s1.1 247 3 ≠ s1.1 247 4 := by rw [(py_k f1).1, (py_k f1).2]; exact hd2
  have e1 : cgf s1 f 0 = s.1 f 0 := fd_dg of fr1
  have e2 : cgf s1 h 0 = s.1 h 0 := fd_dg oh fr1
  rw [e1, e2]
  refine ⟨fun q => done (constF q) s1 h1 d1 n1 fr1, fun q => ⟨fun q2 => ?_, fun q2 => done (constH q2) s1 h1 d1 n1 fr1⟩⟩
  refine ⟨fdv s F H c, ⟨h1, d1, n1, fr1, 0, rfl, by omega, Or.inl rfl, fun t' ht => by omega⟩, ?_⟩
  rintro ⟨bf, x, s2⟩ ⟨h2, d2, n2, fr2, t, et, t44, him, hnl⟩
  dsimp only at h2 d2 n2 fr2 et him ⊢
  subst et
  refine ⟨fun c44 => done (lkc_2 hcl (fun t' ht => hnl t' (by omega))) s2 h2 d2 n2 fr2, fun c44 z5 hz5 => ?_⟩
  have t43 : t < 44 := by omega
  obtain ⟨hz5p, ez5⟩ := hz5
  rw [Int.toNat_natCast] at ez5
  subst ez5
  have dF2 := fd_dg of fr2
  have dH2 := fd_dg oh fr2
  have dFq : 1 ≤ s2.1 f 0 := by rw [dF2]; omega
  have dHq : 1 ≤ s2.1 h 0 := by rw [dH2]; exact q2
  refine imageModulo_v d2 hz5p (prmv_mul t43) (prmv_inv t43) (fd_ply of hF fr2) (fd_ply oh hH fr2) of oh bF bH dFq dHq (by rw [dF2]; exact lF t t43) (by rw [dH2]; exact lH t t43) (fun s6 c' f6 nc hi => ?_) (fun s6 d a f6 him6 => ?_)
  · refine ⟨fun z => absurd rfl z, fun _ => ?_⟩
    have g0 : g' ≤ 0 := inc_deg (prmv_mul t43) (A := [c']) (d := 0) hi hG (lG t t43) eF eH nc (fun k hk => by
      cases k with
      | zero => omega
      | succ k => exact Int.dvd_zero _)
    exact done (g0n g0) s6 (im_255 f6 d2 h2) (im_dI f6 d2) (by rw [(im_k f6).1, (im_k f6).2]; exact n2) (gfr_trans fr2 (im_fd f6 d2))
  have fr6 : fdf s s6 := gfr_trans fr2 (im_fd f6 d2)
  have d6 : dI s6 := im_dI f6 d2
  have k6 := im_k f6
  have n6 : s6.1 247 3 ≠ s6.1 247 4 := by rw [k6.1, k6.2]; exact n2
  have h6 : ply s6 255 [1] := im_255 f6 d2 h2
  have c63 : crf s6 247 3 = crf s2 247 3 := crf_k k6.1
  have c64 : crf s6 247 4 = crf s2 247 4 := crf_k k6.2
  have r64 : s6.2 (crf s2 247 4) = s2.2 (crf s2 247 4) := im_r4 f6 d2 n2
  have i3 := dI_3 d2
  have d18 := him6.1
  have him6' : imS (prmv t) F H d a (s6.2 (crf s6 247 3)) := by rw [c63]; exact him6
  have degE : 1 ≤ t → (∃ av, imS (prmv (t - 1)) F H bf av (s2.2 (crf s2 247 4))) := fun q => by
    rcases him with w | w
    · omega
    · exact w
  clear him
  refine ⟨fun _ => ⟨fun t0 => fdv_next h6 d6 n6 fr6 t43 him6' hnl (fun w => by omega), fun t0 => ⟨fun ne => ?_, fun eqd => ?_⟩⟩, fun z => by omega⟩
  · refine fdv_next h6 d6 n6 fr6 t43 him6' hnl (fun w => Classical.byContradiction fun nn => ne ?_)
    obtain ⟨av, hav⟩ := degE w
    have l1 : ¬ prmv (t - 1) ∣ c := fun z => nn (Or.inl z)
    have l2 : ¬ prmv t ∣ c := fun z => nn (Or.inr z)
    have g1 := (im_lucky (prmv_mul (show t - 1 < 44 by omega)) hav l1 eF eH (lkc_l hcl _ l1) hG (lG _ (by omega))).1
    have g2 := (im_lucky (prmv_mul t43) him6 l2 eF eH (lkc_l hcl _ l2) hG (lG _ t43)).1
    exact g2.symm.trans g1
  have t1 : 1 ≤ t := by omega
  have t42 : t - 1 < 44 := by omega
  obtain ⟨av, hav⟩ := degE t1
  clear degE
  rw [← eqd] at hav
  have dF6 := fd_dg of fr6
  have dH6 := fd_dg oh fr6
  refine lead6_b (fd_ply of hF fr6) (lead6_b (fd_ply oh hH fr6) ?_)
  have ldF : ldc (s6.1 f 0) F = pgt F (s.1 f 0).toNat := by unfold ldc; rw [dF6, if_pos dF0]
  have ldH : ldc (s6.1 h 0) H = pgt H (s.1 h 0).toNat := by unfold ldc; rw [dH6, if_pos dH0]
  rw [ldF, ldH]
  have bl1 := bF (s.1 f 0).toNat
  have bl2 := bH (s.1 h 0).toNat
  have lFn : pgt F (s.1 f 0).toNat ≠ 0 := hF.2.2.2.2 dF0
  obtain ⟨lF9, hlF9⟩ : ∃ lF9, lF9 = pgt F (s.1 f 0).toNat := ⟨_, rfl⟩
  obtain ⟨lH9, hlH9⟩ : ∃ lH9, lH9 = pgt H (s.1 h 0).toNat := ⟨_, rfl⟩
  rw [← hlF9] at bl1 lFn tF lF ⊢
  rw [← hlH9] at bl2 tH lH ⊢
  refine gcd_v (by omega) (by omega) (by omega) (by omega) (fun share sh0 sh1 sd1 sd2 sz sgr z17 hz17 z18 hz18 => ?_)
  obtain ⟨hz17p, e17⟩ := hz17
  obtain ⟨hz18p, e18⟩ := hz18
  rw [w32_id (by omega) (by omega), show ((t : Int) - 1).toNat = t - 1 by omega] at e17
  rw [Int.toNat_natCast] at e18
  subst e17; subst e18
  have shn : share ≠ 0 := fun z => lFn (sz z).1
  have shle : share ≤ 4611686018427387904 := by
    have := Int.le_of_dvd (show 0 < (lF9.natAbs : Int) by omega) (Int.dvd_natAbs.2 sd1)
    omega
  have npq : ¬ prmv t ∣ prmv (t - 1) := fun z => by have := prmv_dv t43 t42 z; omega
  have dd0 : 0 ≤ d := by omega
  refine rebuild_v d6 hz17p hz18p (prmv_inv t43) (fun z => npq (Int.dvd_of_emod_eq_zero z)) sh0 shle dd0 d18.2 (by rw [c64, r64]; exact hav.2.2.2.2.2.2.1) (by rw [c63]; exact him6.2.2.2.2.2.2.1) (fun s7 R G9 g0 hR g00 eR pr h7 w7 f7 => ?_)
  rw [c64, c63, r64] at hR
  have fr7 : fdf s s7 := gfr_trans fr6 (gs_fd f7)
  have i7 : ply s7 255 [1] := gs_255 f7 h6
  have d7 : dI s7 := gs_dI f7 d6
  obtain ⟨Gd, dG9, Rn⟩ := rb_deg (prmv_mul t42) hav hR (fun z => lF (t - 1) t42 (Int.dvd_trans z sd1)) g00 eR
  have pG9 := (pr Rn).1
  have lG9 := (pr Rn).2
  have nG9 : nzp G9 := ⟨_, Gd⟩
  have gle : g' ≤ d.toNat := by
    obtain ⟨_, hz, na, hI, _⟩ := him6
    have d8 : d.toNat < 9 := by omega
    exact inc_deg (prmv_mul t43) hI hG (lG t t43) eF eH (d := d.toNat) (by rw [pmk_gt, if_pos d8]; exact na) (fun k hk => by rw [rwp_top hz dd0 k (by omega)]; exact Int.dvd_zero _)
  have both : ¬ (prmv (t - 1) ∣ c ∨ prmv t ∣ c) → dvs F G9 ∧ dvs H G9 := fun nn => rb_both hz17p hz18p (prmv_mul t42) (prmv_mul t43) npq hav him6 (fun z => nn (Or.inl z)) (fun z => nn (Or.inr z)) eF eH (lkc_l hcl _ (fun z => nn (Or.inl z))) pG hG lG0 (lG _ t42) (lG _ t43) tF (by rw [tH]; exact Int.dvd_mul_right _ _) lFn sd1 sgr shn hR g00 eR pG9 hb
  have k7 := gs_k f7
  have n7 : s7.1 247 3 ≠ s7.1 247 4 := by rw [k7.1, k7.2]; exact n6
  have im7 : imS (prmv t) F H d a (s7.2 (crf s7 247 3)) := by rw [crf_k k7.1, c63, gs_r f7 i3]; exact him6
  refine divide_b (fd_ply of hF fr7) h7 (opc_n of).1 (opc_n of).2 (by decide) (by decide) bF w7 (fun dv1 gn s8 K k8 e8 f8 => ⟨fun c => by omega, fun _ => ?_⟩) (fun nd s8 f8 => ⟨fun _ => ?_, fun c => absurd rfl c⟩)
  · have fr8 : fdf s s8 := gfr_trans fr7 (dv_fd f8)
    have h8 : ply s8 253 G9 := dv_ply f8 (Or.inr rfl) h7
    have i8 : ply s8 255 [1] := dv_ply f8 (Or.inl rfl) i7
    have d8 : dI s8 := dv_dI f8 d7
    have n8 : s8.1 247 3 ≠ s8.1 247 4 := by rw [(dv_k f8).1, (dv_k f8).2]; exact n7
    have im8 : imS (prmv t) F H d a (s8.2 (crf s8 247 3)) := by rw [crf_k (dv_k f8).1, dv_r f8 (by rw [crf_k k7.1, c63]; exact i3)]; exact im7
    refine divide_b (fd_ply oh hH fr8) h8 (opc_n oh).1 (opc_n oh).2 (by decide) (by decide) bH w7 (fun dv2 _ s9 K2 k9 e9 f9 => ⟨fun c => by omega, fun _ => ?_⟩) (fun nd s9 f9 => ⟨fun _ => ?_, fun c => absurd rfl c⟩)
    · refine copy6_b (dv_ply f9 (Or.inr rfl) h8) (by decide) (fun s10 h10 f10 => ?_)
      exact hQ s10 G9 K K2 h10 w7 pG9 nG9 e8 e9 (max_gcd eF eH hc nG hG dG9 Gd gle e8 e9) dv1 dv2 lG9 (py_dI f10 (dv_dI f9 d8)) (by rw [(py_k f10).1, (py_k f10).2, (dv_k f9).1, (dv_k f9).2]; exact n8) (gfr_trans fr8 (gfr_trans (dv_fd f9) (py_fd f10)))
    · refine fdv_next (dv_ply f9 (Or.inl rfl) i8) (dv_dI f9 d8) (by rw [(dv_k f9).1, (dv_k f9).2]; exact n8) (gfr_trans fr8 (dv_fd f9)) t43 (by rw [crf_k (dv_k f9).1, dv_r f9 (by rw [crf_k (dv_k f8).1, crf_k k7.1, c63]; exact i3)]; exact im8) hnl (fun _ => Classical.byContradiction fun nn => ?_)
      rcases nd with w | w
      · exact w (both nn).2
      · exact Gd (w _)
  · refine fdv_next (dv_ply f8 (Or.inl rfl) i7) (dv_dI f8 d7) (by rw [(dv_k f8).1, (dv_k f8).2]; exact n7) (gfr_trans fr7 (dv_fd f8)) t43 (by rw [crf_k (dv_k f8).1, dv_r f8 (by rw [crf_k k7.1, c63]; exact i3)]; exact im7) hnl (fun _ => Classical.byContradiction fun nn => ?_)
    rcases nd with w | w
    · exact w (both nn).1
    · exact Gd (w _)
