/-! solve BY VALUE -/
theorem gof_rF {s s' : im_S} {j o : Nat} {a q : Int} (f : gof j s s') (h1 : s.1 (311 + 3 * j) 1 = 1) (h2 : s.1 (311 + 3 * j) 2 = a) (h3 : s.1 (311 + 3 * j) 3 = q) (h4 : s.1 (311 + 3 * j) 4 = a / q) (h5 : s.1 (311 + 3 * j) 5 = a % q) (ho : s'.1 (311 + 3 * j) 0 = (o : Int)) (q1 : 1 ≤ q) (q2 : q ≤ 1000000000) (a1 : a.natAbs ≤ 1000000000) (gc : Int.gcd a q = 1) : rF s' j o a q := ⟨by rw [f.1 _ _ (by unfold goF; omega)]; exact h1, by rw [f.1 _ _ (by unfold goF; omega)]; exact h2, by rw [f.1 _ _ (by unfold goF; omega)]; exact h3, by rw [f.1 _ _ (by unfold goF; omega)]; exact h4, by rw [f.1 _ _ (by unfold goF; omega)]; exact h5, ho, q1, q2, a1, gc⟩
theorem BI_go {j n : Nat} {D : Int} {s s' : im_S} (h : BI s n D) (f : gfr (fun c f => c = 83 ∧ f = 3) (fun _ => False) s s') : BI s' n D := BI_co h f (fun e he => by omega) (fun e he z => z) (by omega) (dI_co h.2.2.2.2 f (by omega) (by omega))
theorem NEWO_up {s : im_S} {from9 i n n3 : Nat} {p3 : Nat → List Int} (h : NEWO s from9 i n n3 p3) : NEWO s from9 (i + 1) n n3 p3 := fun o a b => by
  obtain ⟨k, x, y, k1, r⟩ := h o a b
  exact ⟨k, x, y, by omega, r⟩
def IV1 (s0 : im_S) (from9 m e n mm : Nat) (D : Int) (p : Nat → List Int) (M : Nat → Nat → Nat) (cs : Nat → Rat → Int) (G : Nat → List Int) (Lf Rt : Nat → Rat) (i : Nat) (s : im_S) : Prop := ∃ (n3 : Nat) (p3 : Nat → List Int) (M3 : Nat → Nat → Nat), BI s n3 D ∧ BF s n3 p3 M3 mm ∧ SPR n e p M n3 p3 M3 ∧ s1A (p3 e) G i m ∧ (∃ lo hi mi ot, fq s lo hi mi ot) ∧ big s 553 1 ∧ (∀ k, k < m → (k < i ∧ rtF s (from9 + k) e n n3 p3 (cs k)) ∨ (rfe s (from9 + k) (Lf k) (Rt k) (G m) (G k) (G (k + 1)) ∧ (k < i → s.1 (311 + 3 * (from9 + k)) 1 = 0))) ∧ NEWO s from9 i n n3 p3 ∧ s.1 83 3 = ((from9 + m : Nat) : Int) ∧ slf from9 m s0 s
theorem go_n {j k f : Nat} (h : k ≠ j) (hk : k < 80) (hj : j < 80) : ¬ goF j (311 + 3 * k) f := by unfold goF; omega
theorem go_n1 {j k f : Nat} (hk : k < 80) (hj : j < 80) : ¬ goF j (311 + 3 * k + 1) f := by unfold goF; omega
theorem go_n2 {k : Nat} (hk : k < 80) : ¬ goR (311 + 3 * k + 1 + 1) := by unfold goR; omega
theorem rb_n {j k f : Nat} (h : k ≠ j) (hk : k < 80) (hj : j < 80) : ¬ rbF j (311 + 3 * k) f := by unfold rbF; omega
theorem rb_n1 {j k f : Nat} (hk : k < 80) (hj : j < 80) : ¬ rbF j (311 + 3 * k + 1) f := by unfold rbF; omega
theorem rb_n2 {k : Nat} (hk : k < 80) : ¬ 311 + 3 * k + 1 + 1 = 556 := by omega
theorem solve_v {s : im_S} {e n from9 d mm : Nat} {D : Int} {p : Nat → List Int} {M : Nat → Nat → Nat} {Q : im_S → Prop} (hB : BI s n D) (hF : BF s n p M mm) (hD : D ≤ 80) (he : e < n) (hd : s.1 (86 + 2 * e) 0 = (d : Int)) (hf : s.1 83 3 = (from9 : Int)) (hfd : from9 + d ≤ 80) (hq : ∃ lo hi mi ot, fq s lo hi mi ot) (o3 : big s 308 1) (o5 : big s 553 1) (hQ : ∀ s' n3 p3 M3 m cs, m ≤ d → SOL s' from9 m e n mm D p M cs n3 p3 M3 → (∀ k, k < m → cut (cs k) ∧ rtc (p e) (cs k)) → (∀ i j, i < j → j < m → lft9 (cs i) (cs j)) → (∀ c : Rat → Int, cut c → rtc (p e) c → ∃ k, k < m ∧ c = cs k) → slf from9 m s s' → Q s') : C_solve3 (e : Int) s Q := by
  obtain ⟨hP, hp, sqp, lpp, _⟩ := hF.1 e he
  obtain ⟨P, eP⟩ : ∃ P, P = p e := ⟨_, rfl⟩
  rw [← eP] at hP hp sqp lpp
  have n80 := hB.2.1
  have d1 : 1 ≤ d := by
    obtain ⟨P', h1, _, h3⟩ := hB.2.2.1 e he
    omega
  unfold C_solve3
  rw [Int.toNat_natCast, show cgf s (86 + 2 * e) 0 = (d : Int) from hd, show cgf s 83 3 = (from9 : Int) from hf, Int.toNat_natCast]
  have main : C_solve3_81 (e : Int) (86 + 2 * e) (from9 : Int) s Q := by
    refine part_v hP (by omega) (by omega) hd hp sqp o3 hfd (fun s1 m ps1 f1 s2 e2 => ?_)
    obtain ⟨md, G, Lf, Rt, G0, rf, od, _, hcov, hiso, bd⟩ := ps1
    have P1 : pdb P (d + 1) := by have := hP.2.2.2.1; rw [hd, show ((d : Int) + 1).toNat = d + 1 by omega] at this; exact this
    have f2 : gfr (fun c f => c = 83 ∧ f = 3) (fun _ => False) s1 s2 := by subst e2; exact gfr_pf (gfr_refl _ _ _) ⟨rfl, rfl⟩
    have g2 : slf from9 m s s2 := gfr_trans (ptf_slf f1) (gfr_mono f2 (fun c f e => by unfold slF; omega) (fun c e => e.elim))
    have m2 : s2.1 83 3 = ((from9 + m : Nat) : Int) := by subst e2; exact cpf_same _ _ _ _
    have nF : ∀ c f, (c < 267 ∨ (306 < c ∧ c < 311) ∨ 550 < c) → ¬ (c = 83 ∧ f = 3) → s2.1 c f = s.1 c f := fun c f h1 h2 => by rw [f2.1 _ _ (by omega), f1.1 _ _ (by unfold rof; omega)]
    have nR : ∀ c, (c < 271 ∨ (307 < c ∧ c < 311) ∨ 550 < c) → s2.2 c = s.2 c := fun c h => by rw [f2.2 _ (fun z => z), f1.2 _ (by unfold ror; omega)]
    have fA : gfr (fun c f => ¬ ((c < 267 ∨ (306 < c ∧ c < 311) ∨ 550 < c) ∧ ¬ (c = 83 ∧ f = 3))) (fun c => ¬ (c < 271 ∨ (307 < c ∧ c < 311) ∨ 550 < c)) s s2 := ⟨fun c f h => nF c f (Classical.byContradiction fun z => h (fun w => z w.1)) (Classical.byContradiction fun z => h (fun w => z w.2)), fun c h => nR c (Classical.byContradiction fun z => h z)⟩
    have B2 : BI s2 n D := BI_co hB fA (fun e he => by omega) (fun e he => by omega) (by omega) (dI_co hB.2.2.2.2 fA (by omega) (by omega))
    have F2 : BF s2 n p M mm := BF_co hF fA n80 (fun e he => by omega) (fun e he => by omega) (by omega)
    have o52 : big s2 553 1 := big_g o5 fA (by omega) (by omega) (by omega)
    have fq2 : ∃ lo hi mi ot, fq s2 lo hi mi ot := by
      obtain ⟨lo, hi, mi, ot, h⟩ := hq
      refine ⟨lo, hi, mi, ot, ?_⟩
      unfold fq
      rw [nF _ _ (by omega) (by omega), nF _ _ (by omega) (by omega), nF _ _ (by omega) (by omega), nF _ _ (by omega) (by omega)]
      exact h
    have rf2 : ∀ k, k < m → rfe s2 (from9 + k) (Lf k) (Rt k) (G m) (G k) (G (k + 1)) := fun k hk => rfe_co (rf k hk) f2 (fun k => by omega) (fun k => by omega) (fun z => z)
    have evG : ∀ x : Rat, pev (p e) x = pev (G 0) x := fun x => by rw [G0, pdb_ev P1, eP]
    have A0 : s1A (p e) G 0 m := Or.inl evG
    have lk : lnk m G Lf Rt := fun k hk => by
      obtain ⟨c', b', q1, q2, q3⟩ := rf k hk
      rcases q3 with ⟨_, w1, p9, q9, u1, _, u3, u4⟩ | ⟨_, w2, w3, _⟩
      · exact Or.inl ⟨w1, p9, q9, u1, u3, u4⟩
      · exact Or.inr ⟨by rw [q2, w2]; exact xv_lt _ _, w3⟩
    have sG0 : sqf (G 0) := by
      obtain ⟨c9, u9, v9, n9, e9⟩ := sqp
      exact ⟨c9, u9, v9, n9, fun x => by rw [e9 x, eP, evG x, pdl_co (pev_inj evG) x]⟩
    have nG0 : nzp (G 0) := by
      obtain ⟨k, hk⟩ := pat_0 hp
      exact ⟨k, by rw [← pev_inj evG k, ← eP]; exact hk⟩
    obtain ⟨cs, hcs, hall0, hris⟩ := csk_ok lk sG0 nG0 od hcov hiso
    have hcut : ∀ k, k < m → cut (cs k) := fun k hk => (hcs k hk).1
    have hturn : ∀ k, k < m → cut (cs k) ∧ rtc (p e) (cs k) := fun k hk => ⟨(hcs k hk).1, rtc_eq (fun x => (evG x).symm) (hcs k hk).2.1⟩
    have hall : ∀ c : Rat → Int, cut c → rtc (p e) c → ∃ k, k < m ∧ c = cs k := fun c cc ct => hall0 c cc (rtc_eq evG ct)
    have hr : ∀ i j, i < j → j < m → lft9 (cs i) (cs j) := hris
    refine ⟨fun a => ∃ i : Nat, a.1 = ((from9 + i : Nat) : Int) ∧ i ≤ m ∧ IV1 s from9 m e n mm D p M cs G Lf Rt i a.2, ⟨0, rfl, Nat.zero_le _, n, p, M, B2, F2, SPR_0 n e p M, A0, fq2, o52, fun k hk => Or.inr ⟨rf2 k hk, fun z => by omega⟩, fun o a1 a2 => by omega, m2, g2⟩, ?_⟩
    rintro ⟨x, s3⟩ ⟨i, ex, im, n3, p3, M3, B3, F3, S3, A3, hf3, o53, r3, N3, m3, g3⟩
    dsimp only at ex B3 F3 A3 hf3 o53 r3 N3 m3 g3 ⊢
    subst ex
    unfold C_solve3_101
    rw [show cgf s3 83 3 = _ from m3, Int.toNat_natCast]
    have n380 := B3.2.1
    have en3 : e < n3 := by have := S3.1; omega
    have pp3 := (F3.1 e en3).2.1
    have hP3 := (F3.1 e en3).1
    refine ⟨fun c => ?_, fun c => ⟨fun fr => ?_, fun fr => ?_⟩⟩
    · -- the second loop
      have ei : i = m := by omega
      subst ei
      refine solve2_v (by omega) hD he bd hcut hr hall ⟨n3, p3, M3, B3, F3, S3, hf3, o53, fun k hk => ?_, N3, m3, g3⟩ (fun s4 n4 p4 M4 sol g4 => hQ s4 n4 p4 M4 i cs md sol hturn hr hall g4)
      rcases r3 k hk with ⟨_, h⟩ | ⟨h, h0⟩
      · exact Or.inl h
      · have z0 := h0 hk
        obtain ⟨c', b', q1, q2, q3⟩ := h
        rcases q3 with ⟨w, _⟩ | ⟨w1, w2, w3, w4⟩
        · rw [w] at z0; omega
        · right
          rw [if_neg (by omega)]
          have lt : Lf k < Rt k := by rw [q2, w2]; exact xv_lt _ _
          obtain ⟨ck, _, ink, tk⟩ := hcs k hk
          have inr' : cs k (Lf k) = 1 ∧ cs k (Rt k) = -1 := by
            rcases ink with ⟨w, _⟩ | ⟨_, w⟩
            · rw [w] at lt; exact absurd lt Rat.lt_irrefl
            · exact w
          have uG : rU s3 (from9 + k) (G i) (cs k) (Lf k) (Rt k) := ⟨⟨c', b', q1, q2, w2⟩, w1, hiso k hk lt, ck, tk lt, inr'.1, inr'.2⟩
          rcases A3 with A | ⟨c0, c1, c2⟩
          · exact rU_eq (fun x => (A x).symm) uG
          · exfalso
            rw [c2 i (Nat.le_refl _) (Nat.le_refl _), c2 i (Nat.le_refl _) (Nat.le_refl _)] at w4
            rcases rneg_iff.1 w4 with ⟨x1, x2⟩ | ⟨x1, x2⟩ <;> grind
    · -- not a fraction
      have hr' := r3 i (by omega)
      have fr' : s3.1 (311 + 3 * (from9 + i)) 1 = 0 := fr
      refine ⟨i + 1, by dsimp only; rw [w32_id (by omega) (by omega)]; omega, by omega, n3, p3, M3, B3, F3, S3, ?_, hf3, o53, fun k hk => ?_, NEWO_up N3, m3, g3⟩
      · rcases hr' with ⟨z, _⟩ | ⟨h, _⟩
        · omega
        · obtain ⟨c', b', q1, q2, q3⟩ := h
          rcases q3 with ⟨w, _⟩ | ⟨_, _, w3, _⟩
          · rw [w] at fr'; omega
          · rcases A3 with A | ⟨c0, c1, c2⟩
            · exact Or.inl (fun x => by rw [A, w3])
            · exact Or.inr ⟨c0, c1, fun j h1 h2 => c2 j (by omega) h2⟩
      · rcases r3 k hk with ⟨z, h⟩ | ⟨h, h0⟩
        · exact Or.inl ⟨by omega, h⟩
        · refine Or.inr ⟨h, fun z => ?_⟩
          by_cases ck : k = i
          · rw [ck]; exact fr'
          · exact h0 (by omega)
    · -- a fraction: split it off
      have fr' : s3.1 (311 + 3 * (from9 + i)) 1 ≠ 0 := fr
      have im' : i < m := by omega
      obtain ⟨c', b', rt, lc, rl, pa, q, q0, hg, hz, ev⟩ : ∃ c' b', rt0 s3 (from9 + i) c' b' ∧ Lf i = xv c' b' ∧ Rt i = Lf i ∧ ∃ pa q : Int, 0 < q ∧ Int.gcd pa q = 1 ∧ (q : Rat) * Lf i = pa ∧ ∀ x : Rat, pev (G i) x = (q * x - pa) * pev (G (i + 1)) x := by
        rcases r3 i im' with ⟨z, _⟩ | ⟨h, _⟩
        · omega
        · obtain ⟨c', b', q1, q2, q3⟩ := h
          rcases q3 with ⟨_, rl, w⟩ | ⟨w1, _⟩
          · exact ⟨c', b', q1, q2, rl, w⟩
          · exact absurd w1 fr'
      have zero : pev (G i) (Lf i) = 0 := by rw [ev, hz]; grind
      have A : ∀ x : Rat, pev (p3 e) x = pev (G i) x := by
        rcases A3 with A | ⟨c0, c1, c2⟩
        · exact A
        · exact absurd ((c2 i (Nat.le_refl _) im (Lf i)).symm.trans zero) c1
      obtain ⟨d3, hd3⟩ : ∃ d : Nat, s3.1 (86 + 2 * e) 0 = (d : Int) := ⟨(s3.1 (86 + 2 * e) 0).toNat, by have := dgo_0 hP3.2 (pat_0 pp3); omega⟩
      have hP31 : pdb (p3 e) (d3 + 1) := by have := hP3.2.2.2.1; rw [hd3, show ((d3 : Int) + 1).toNat = d3 + 1 by omega] at this; exact this
      have L3 : pgt (p3 e) d3 ≠ 0 := by have := hP3.2.2.2.2 (by omega); rw [hd3, Int.toNat_natCast] at this; exact this
      obtain ⟨b1, b2, cb, rb, lp, lf⟩ := rt
      have cb33 : (c'.natAbs : Int) ≤ 2 ^ (b' + 33).toNat := by
        have : (2 : Int) ^ (b' + 32).toNat ≤ 2 ^ (b' + 33).toNat := p2mono (by omega)
        omega
      have zP : pev (p3 e) (xv c' b') = 0 := by rw [A, ← lc]; exact zero
      refine readBinary_v (P := p3 e) (by omega) ⟨rb, lf⟩ cb33 b1 (by omega) pp3 hP31 L3 zP (fun s4 a' q' v1 v2 v3 v4 v5 v6 v7 v8 v9 v10 f4 => ?_)
      obtain ⟨ea, eq⟩ := frac_u q0 (by omega) hg v7 (by rw [← lc]; exact hz) v8
      subst ea
      subst eq
      have i80 : from9 + i < 80 := by omega
      have B4 : BI s4 n3 D := BI_rb B3 f4
      have F4 : BF s4 n3 p3 M3 mm := BF_rb F3 f4 n380
      have d4 : s4.1 (86 + 2 * e) 0 = (d3 : Int) := by rw [f4.1 _ _ (by unfold rbF; omega)]; exact hd3
      have evP : ∀ x : Rat, pev (p3 e) x = (q * x - pa) * pev (G (i + 1)) x := fun x => by rw [A, ev]
      obtain ⟨_, ab, _⟩ := root_fr pp3 hP31 L3 q0 hg v8 zP
      have Li : Lf i = (pa : Rat) / q := by
        have qr : (0 : Rat) < q := Rat.intCast_pos.2 q0
        grind
      have csz : cs i ((pa : Rat) / q) = 0 := by
        rcases (hcs i im').2.2.1 with ⟨_, w⟩ | ⟨w, _⟩
        · rw [← Li]; exact w
        · rw [rl] at w; exact absurd w Rat.lt_irrefl
      have d38 : d3 ≤ 8 := by have := hP3.2.2.1; omega
      have nx : w32 (((from9 + i : Nat) : Int) + 1) = ((from9 + (i + 1) : Nat) : Int) := by rw [w32_id (by omega) (by omega)]; omega
      have after : ∀ (s5 : im_S) (n5 : Nat) (p5 : Nat → List Int) (M5 : Nat → Nat → Nat) (o : Nat), BI s5 n5 D → BF s5 n5 p5 M5 mm → splR n3 e p3 M3 pa q n5 p5 M5 o → s1A (p5 e) G (i + 1) m → s5.1 (311 + 3 * (from9 + i)) 0 = (o : Int) → gof (from9 + i) s4 s5 → C_solve3_146 (fun a => ∃ i : Nat, a.1 = ((from9 + i : Nat) : Int) ∧ i ≤ m ∧ IV1 s from9 m e n mm D p M cs G Lf Rt i a.2) (e : Int) (from9 : Int) ((from9 + i : Nat) : Int) s5 Q := by
        intro s5 n5 p5 M5 o B5 F5 sp A5 ow f5
        obtain ⟨lo, hi, mi, ot, fq3⟩ := hf3
        obtain ⟨S5, on5, oe, pz, pd9, nn, nw, po, pe⟩ := spl_step (m := m) q0 he S3 sp F5.2.1 (pat_0 pp3)
        have R5 : rF s5 (from9 + i) o pa q := gof_rF f5 v1 v2 v3 v9 v10 ow v4 (by omega) ab hg
        refine ⟨i + 1, nx, by omega, n5, p5, M5, B5, F5, S5, A5, ⟨lo, hi, mi, ot, fq_co (fq_rb fq3 f4) f5 (fun k => by unfold goF; omega)⟩, big_g (big_g o53 f4 (by unfold rbF; omega) (by unfold rbF; omega) (by omega)) f5 (by unfold goF; omega) (by unfold goF; omega) (by unfold goR; omega), fun k hk => ?_, fun o' a1 a2 => ?_, by rw [f5.1 _ _ (by unfold goF; omega), f4.1 _ _ (by unfold rbF; omega)]; exact m3, gfr_trans g3 (gfr_trans (gfr_mono f4 (fun c f e => by unfold rbF at e; unfold slF; omega) (fun c e => by unfold slR; omega)) (gfr_mono f5 (fun c f e => by unfold goF at e; unfold slF; omega) (fun c e => by unfold goR at e; unfold slR; omega)))⟩
        · have k80 : from9 + k < 80 := by omega
          by_cases ck : k = i
          · subst ck
            exact Or.inl ⟨by omega, o, pa, q, on5, oe, R5, csz, pz, pd9⟩
          · have nk : from9 + k ≠ from9 + i := by omega
            rcases r3 k hk with ⟨z, h⟩ | ⟨h, h0⟩
            · exact Or.inl ⟨by omega, rtF_sp (rtF_co (rtF_co h f4 (fun _ _ => rb_n nk k80 i80)) f5 (fun _ _ => go_n nk k80 i80)) nn po pe⟩
            · refine Or.inr ⟨rfe_co (rfe_co h f4 (fun _ => rb_n nk k80 i80) (fun _ => rb_n1 k80 i80) (rb_n2 k80)) f5 (fun _ => go_n nk k80 i80) (fun _ => go_n1 k80 i80) (go_n2 k80), fun z => ?_⟩
              rw [f5.1 _ _ (go_n nk k80 i80), f4.1 _ _ (rb_n nk k80 i80)]
              exact h0 (by omega)
        · by_cases cn : o' < n3
          · obtain ⟨k, a9, q9, k1, k2, k3⟩ := N3 o' a1 cn
            have nk : from9 + k ≠ from9 + i := by omega
            exact ⟨k, a9, q9, by omega, rF_co (rF_co k2 f4 (fun _ _ => rb_n nk (by omega) i80)) f5 (fun _ _ => go_n nk (by omega) i80), by rw [po o' cn (by omega)]; exact k3⟩
          · obtain ⟨w1, w2⟩ := nw o' (by omega) a2
            exact ⟨i, pa, q, by omega, by rw [w1]; exact R5, by rw [w1]; exact w2⟩
      refine giveOwn_v (by omega) B4 F4 hD en3 v2 v3 v4 (by omega) v6 hg evP (fun s5 K dg eK B5 F5 o5' f5 => ?_) (fun s5 dg B5 F5 o5' f5 => ?_)
      · refine after s5 (n3 + 1) _ _ n3 B5 F5 (Or.inl ⟨rfl, rfl, K, eK, rfl, rfl, fun z => ?_⟩) (Or.inl (fun x => ?_)) o5' f5
        · have P4 := (F4.1 e en3).1
          exact P4.2.2.2.2 (by omega) (z _ (by omega))
        · rw [if_neg (by omega), if_pos rfl]
          exact lin_cancel q0 (fun x => by rw [← eK x, evP x]) x
      · have dg1 : d3 = 1 := by
          have : 1 ≤ s4.1 (86 + 2 * e) 0 := by
            obtain ⟨P', _, _, h3⟩ := B4.2.2.1 e (by omega)
            exact h3
          omega
        subst dg1
        refine after s5 n3 p3 M3 e B5 F5 (Or.inr ⟨rfl, rfl, rfl, rfl, hP31, _, evP⟩) (Or.inr ?_) o5' f5
        have cst : pdb (G (i + 1)) 1 := dcan (Z := G (i + 1)) (A := lnr pa q) (T := p3 e) (a := 1) (j := 1) (fun x => by rw [lnr_ev, evP x]; grind) (pdb_len _) (by show q ≠ 0; omega) hP31
        have cev : ∀ x : Rat, pev (G (i + 1)) x = (pgt (G (i + 1)) 0 : Rat) := fun x => by
          rw [← pdb_ev cst x]
          show (pgt (G (i + 1)) 0 : Rat) + x * 0 = _
          grind
        have c0 : (pgt (G (i + 1)) 0 : Rat) ≠ 0 := fun z => by
          refine L3 (pev_zero (fun x => ?_) 1)
          rw [evP x, cev x, z, Rat.mul_zero]
        refine ⟨_, c0, fun j h1 h2 => ?_⟩
        have go : ∀ t : Nat, i + 1 + t ≤ m → ∀ x : Rat, pev (G (i + 1 + t)) x = (pgt (G (i + 1)) 0 : Rat) := by
          intro t
          induction t with
          | zero => intro _ x; exact cev x
          | succ t ih =>
            intro ht x
            have ih' := ih (by omega)
            rcases r3 (i + 1 + t) (by omega) with ⟨z, _⟩ | ⟨h, _⟩
            · omega
            · obtain ⟨c', b', _, _, q3⟩ := h
              rcases q3 with ⟨_, _, p2, q2, _, _, hz2, ev2⟩ | ⟨_, _, w3, _⟩
              · exfalso
                have := ev2 (Lf (i + 1 + t))
                rw [ih', hz2] at this
                exact c0 (by rw [this]; grind)
              · rw [show i + 1 + (t + 1) = i + 1 + t + 1 by omega, ← w3 x]; exact ih' x
        have := go (j - (i + 1)) (by omega)
        rw [show i + 1 + (j - (i + 1)) = j by omega] at this
        exact this
  refine ⟨fun _ => main, fun dg => ⟨fun _ => main, fun _ s1 e1 _ _ => ?_⟩⟩
  -- a piece of degree 1
  have f1 : gfr (fun c f => c = 311 + 3 * from9 ∧ f = 0) (fun _ => False) s s1 := by subst e1; exact gfr_pf (gfr_refl _ _ _) ⟨rfl, rfl⟩
  rw [show cgf s1 83 3 = (from9 : Int) by show s1.1 83 3 = _; rw [f1.1 _ _ (by omega)]; exact hf, Int.toNat_natCast]
  have P1 : pdb P 2 := by
    have := hP.2.2.2.1
    have dd : s.1 (86 + 2 * e) 0 = 1 := by rw [hd]; exact dg
    rw [dd] at this
    exact this
  have L1 : pgt P 1 ≠ 0 := by
    have dd : s.1 (86 + 2 * e) 0 = 1 := by rw [hd]; exact dg
    have := hP.2.2.2.2 (by omega)
    rw [dd] at this
    exact this
  have Lp := lps_top (d := 1) lpp P1 L1
  have Lb := pat_lead (d := 1) hp P1 L1
  have r0 : cga s1 (86 + 2 * e + 1) 0 = pgt P 0 := by
    show s1.2 (86 + 2 * e + 1) (0 : Int).toNat = _
    rw [f1.2 _ (fun z => z)]
    exact hP.1 0 (by omega)
  have r1 : cga s1 (86 + 2 * e + 1) 1 = pgt P 1 := by
    show s1.2 (86 + 2 * e + 1) (1 : Int).toNat = _
    rw [f1.2 _ (fun z => z)]
    exact hP.1 1 (by omega)
  rw [r0, r1]
  obtain ⟨q, hq9⟩ : ∃ q, q = pgt P 1 := ⟨_, rfl⟩
  obtain ⟨a, ha9⟩ : ∃ a, a = -(pgt P 0) := ⟨_, rfl⟩
  have lin : ∀ x : Rat, pev P x = q * x - a := fun x => by
    rw [lin9_ev (fun k => P1 (k + 2) (by omega)) x, ha9, hq9, Rat.intCast_neg]
    grind
  have q0 : 0 < q := by omega
  have gc : Int.gcd a q = 1 := by
    have h1 : ((Int.gcd a q : Nat) : Int) ∣ a := Int.gcd_dvd_left a q
    have h2 : ((Int.gcd a q : Nat) : Int) ∣ q := Int.gcd_dvd_right a q
    have h3 := lpp.2 ((Int.gcd a q : Nat) : Int) (fun k => by
      match k with
      | 0 => rw [ha9] at h1; rw [ha9]; exact Int.dvd_neg.1 h1
      | 1 => rw [← hq9]; exact h2
      | k + 2 => rw [P1 (k + 2) (by omega)]; exact Int.dvd_zero _)
    have le := Int.le_of_dvd (by decide) h3
    have ne : ((Int.gcd a q : Nat) : Int) ≠ 0 := fun z => by
      rw [z] at h2
      have := Int.zero_dvd.1 h2
      omega
    omega
  have qr : (0 : Rat) < q := Rat.intCast_pos.2 q0
  have qx : (q : Rat) * ((a : Rat) / q) = a := by
    have := Rat.div_mul_cancel (a := (a : Rat)) (b := (q : Rat)) (by grind)
    grind
  have pz : pev P ((a : Rat) / q) = 0 := by rw [lin, qx]; grind
  obtain ⟨_, ab, _⟩ := root_fr (d := 1) hp P1 L1 q0 gc qx pz
  rw [← hq9, show w64 (-(pgt P 0)) = a by rw [← ha9]; exact w64_id (by omega) (by omega)]
  have mx : max 1 q = q := by omega
  have qb : q ≤ 1000000000 := by omega
  refine setFraction_v ⟨by omega, by omega⟩ (by omega) ⟨by omega, by omega⟩ (fun s2 a1 a2 a3 a4 a5 f2 s3 e3 => ?_)
  rw [mx] at a3 a4 a5
  have h23 : cgf s2 83 3 = (from9 : Int) := by show s2.1 83 3 = _; rw [f2.1 _ _ (by omega), f1.1 _ _ (by omega)]; exact hf
  rw [h23, w32_id (by omega) (by omega)] at e3
  have fA : gfr (fun c f => (c = 311 + 3 * from9 ∧ f ≤ 5) ∨ (c = 83 ∧ f = 3)) (fun _ => False) s s3 := by
    refine gfr_trans (gfr_trans (gfr_mono f1 (fun c f e => by omega) (fun c e => e)) (gfr_mono f2 (fun c f e => by omega) (fun c e => e))) ?_
    subst e3
    exact gfr_pf (gfr_refl _ _ _) (by omega)
  obtain ⟨lo, hi, mi, ot, fq0⟩ := hq
  have fq3 : fq s3 lo hi mi ot := by
    unfold fq
    rw [fA.1 _ _ (by omega), fA.1 _ _ (by omega), fA.1 _ _ (by omega), fA.1 _ _ (by omega)]
    exact fq0
  have s32 : ∀ f, s3.1 (311 + 3 * from9) f = s2.1 (311 + 3 * from9) f := fun f => by subst e3; rw [cpf_ne (by omega)]
  have own : s2.1 (311 + 3 * from9) 0 = (e : Int) := by rw [f2.1 _ _ (by omega), e1]; exact cpf_same _ _ _ _
  have R3 : rF s3 (from9 + 0) e a q := by
    unfold rF
    rw [Nat.add_zero, s32, s32, s32, s32, s32, s32]
    exact ⟨a1, a2, a3, a4, a5, own, by omega, qb, ab, gc⟩
  refine hQ s3 n p M 1 (fun _ => qct ((a : Rat) / q)) d1 ⟨BI_co hB fA (fun e he => by omega) (fun e he z => z) (by omega) (dI_co hB.2.2.2.2 fA (by omega) (by omega)), BF_co hF fA n80 (fun e he => by omega) (fun e he z => z) (fun z => z), SPR_0 n e p M, ⟨lo, hi, mi, ot, fq3⟩, fun k hk => ?_, fun o b1 b2 => by omega, ?_⟩ (fun k hk => ⟨qct_cut _, rtc_qs (by rw [← eP]; exact sqp) (by rw [← eP]; exact pz)⟩) (fun i j ij j1 => by omega) (fun c cc ct => ⟨0, by omega, ?_⟩) (gfr_mono fA (fun c f e => by unfold slF; omega) (fun c e => e.elim))
  · have : k = 0 := by omega
    subst this
    exact Or.inl ⟨e, a, q, he, Or.inl rfl, R3, qct_0 _, by rw [← eP]; exact pz, fun _ => by rw [← eP]; exact P1⟩
  · subst e3; rw [cpf_same]; omega
  · rw [← eP] at ct
    exact funext (cut_q cc (lin_turn q0 qx cc (rtc_eq (fun x => by rw [lin x, lnf_ev]) ct)))
