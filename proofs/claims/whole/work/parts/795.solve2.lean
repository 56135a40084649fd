/-! solve, whole -/
theorem lin_cancel {K H : List Int} {p q : Int} (q0 : 0 < q) (h : ∀ x : Rat, (q * x - p) * pev K x = (q * x - p) * pev H x) (x : Rat) : pev K x = pev H x := by
  refine pev_eq (fun k => ?_) x
  have z := pev_roots (padd K (psm (-1) H)).length (padd K (psm (-1) H)) (fun i => (p.natAbs : Int) + 1 + i) (Nat.le_refl _) (fun i j _ _ e => by omega) (fun i _ => ?_) k
  · rw [padd_gt, psm_gt] at z; omega
  · rw [padd_ev, psm_ev]
    have e := h (((p.natAbs : Int) + 1 + i : Int) : Rat)
    have ne : ((q : Rat) * (((p.natAbs : Int) + 1 + i : Int) : Rat) - p) ≠ 0 := fun c => by
      have c2 : ((q * ((p.natAbs : Int) + 1 + i) - p : Int) : Rat) = ((0 : Int) : Rat) := by rw [Rat.intCast_sub, Rat.intCast_mul]; exact c
      have c3 := Rat.intCast_inj.1 c2
      have : 1 * ((p.natAbs : Int) + 1 + i) ≤ q * ((p.natAbs : Int) + 1 + i) := Int.mul_le_mul_of_nonneg_right (by omega) (by omega)
      omega
    have e2 : ((q : Rat) * (((p.natAbs : Int) + 1 + i : Int) : Rat) - p) * (pev K (((p.natAbs : Int) + 1 + i : Int) : Rat) - pev H (((p.natAbs : Int) + 1 + i : Int) : Rat)) = 0 := by grind
    rcases Rat.mul_eq_zero.1 e2 with u | u
    · exact absurd u ne
    · have : ((-1 : Int) : Rat) = -1 := rfl
      rw [this]; grind
/-- the polynomial that is left, or nothing more to find -/
def s1A (P : List Int) (G : Nat → List Int) (k m : Nat) : Prop := (∀ x : Rat, pev P x = pev (G k) x) ∨ ∃ c : Rat, c ≠ 0 ∧ ∀ j, k ≤ j → j ≤ m → ∀ x : Rat, pev (G j) x = c
theorem solve_b {s : im_S} {e n from9 d : Nat} {D : Int} {P : List Int} {Q : im_S → Prop} (hB : BI s n D) (hD : D ≤ 80) (he : e < n) (hP : ply s (86 + 2 * e) P) (hp : pat P) (hd : s.1 (86 + 2 * e) 0 = (d : Int)) (hf : s.1 83 3 = (from9 : Int)) (hfd : from9 + d ≤ 80) (hq : ∃ lo hi mi ot, fq s lo hi mi ot) (o3 : big s 308 1) (o5 : big s 553 1) (hQ : ∀ s' n' m, n ≤ n' → m ≤ d → BI s' n' D → (∃ lo hi mi ot, fq s' lo hi mi ot) → psk n e s s' → (∀ k, k < m → lfF s' (from9 + k) ∨ ∃ P' l r, ply s' (86 + 2 * e) P' ∧ pat P' ∧ lfS s' (from9 + k) e P' l r) → s'.1 83 3 = ((from9 + m : Nat) : Int) → slf from9 m s s' → Q s') : C_solve3 (e : Int) s Q := by
  have n80 := hB.2.1
  have d1 : 1 ≤ d := by
    obtain ⟨P', h1, _, h3⟩ := hB.2.2.1 e he
    omega
  unfold C_solve3
  rw [Int.toNat_natCast, show cgf s (86 + 2 * e) 0 = (d : Int) from hd, show cgf s 83 3 = (from9 : Int) from hf, Int.toNat_natCast]
  have main : C_solve3_81 (e : Int) (86 + 2 * e) (from9 : Int) s Q := by
    refine part_b hP (by omega) (by omega) hd hp o3 hfd (fun s1 m ps1 f1 s2 e2 => ?_)
    obtain ⟨md, G, Lf, Rt, G0, rf, od⟩ := ps1
    have P1 : pdb P (d + 1) := by have := hP.2.2.2.1; rw [hd, show ((d : Int) + 1).toNat = d + 1 by omega] at this; exact this
    have f2 : gfr (fun c f => c = 83 ∧ f = 3) (fun _ => False) s1 s2 := by subst e2; exact gfr_pf (gfr_refl _ _ _) ⟨rfl, rfl⟩
    have g2 : slf from9 m s s2 := gfr_trans (ptf_slf f1) (gfr_mono f2 (fun c f e => by unfold slF; omega) (fun c e => e.elim))
    have m2 : s2.1 83 3 = ((from9 + m : Nat) : Int) := by subst e2; exact cpf_same _ _ _ _
    have nF : ∀ c f, (c < 267 ∨ (306 < c ∧ c < 311) ∨ 550 < c) → ¬ (c = 83 ∧ f = 3) → s2.1 c f = s.1 c f := fun c f h1 h2 => by rw [f2.1 _ _ (by omega), f1.1 _ _ (by unfold rof; omega)]
    have nR : ∀ c, (c < 271 ∨ (307 < c ∧ c < 311) ∨ 550 < c) → s2.2 c = s.2 c := fun c h => by rw [f2.2 _ (fun z => z), f1.2 _ (by unfold ror; omega)]
    have fA : gfr (fun c f => ¬ ((c < 267 ∨ (306 < c ∧ c < 311) ∨ 550 < c) ∧ ¬ (c = 83 ∧ f = 3))) (fun c => ¬ (c < 271 ∨ (307 < c ∧ c < 311) ∨ 550 < c)) s s2 := ⟨fun c f h => nF c f (Classical.byContradiction fun z => h (fun w => z w.1)) (Classical.byContradiction fun z => h (fun w => z w.2)), fun c h => nR c (Classical.byContradiction fun z => h z)⟩
    have B2 : BI s2 n D := BI_co hB fA (fun e he => by omega) (fun e he => by omega) (by omega) (dI_co hB.2.2.2.2 fA (by omega) (by omega))
    have P2 : ply s2 (86 + 2 * e) P := ply_fr hP fA (by omega) (by omega)
    have k2 : psk n e s s2 := fun e' h1 h2 P hP => ply_fr hP fA (by omega) (by omega)
    have o32 : big s2 308 1 := big_g o3 fA (by omega) (by omega) (by omega)
    have o52 : big s2 553 1 := big_g o5 fA (by omega) (by omega) (by omega)
    have fq2 : ∃ lo hi mi ot, fq s2 lo hi mi ot := by
      obtain ⟨lo, hi, mi, ot, h⟩ := hq
      refine ⟨lo, hi, mi, ot, ?_⟩
      unfold fq
      rw [nF _ _ (by omega) (by omega), nF _ _ (by omega) (by omega), nF _ _ (by omega) (by omega), nF _ _ (by omega) (by omega)]
      exact h
    have rf2 : ∀ k, k < m → rfe s2 (from9 + k) (Lf k) (Rt k) (G m) (G k) (G (k + 1)) := fun k hk => rfe_co (rf k hk) f2 (fun k => by omega) (fun k => by omega) (fun z => z)
    have A0 : s1A P G 0 m := Or.inl (fun x => by rw [G0, pdb_ev P1])
    refine ⟨fun a => ∃ (i n' : Nat) (P' : List Int), a.1 = ((from9 + i : Nat) : Int) ∧ i ≤ m ∧ n ≤ n' ∧ BI a.2 n' D ∧ ply a.2 (86 + 2 * e) P' ∧ pat P' ∧ s1A P' G i m ∧ (∃ lo hi mi ot, fq a.2 lo hi mi ot) ∧ big a.2 553 1 ∧ psk n e s a.2 ∧ (∀ k, k < m → (k < i ∧ lfF a.2 (from9 + k)) ∨ (rfe a.2 (from9 + k) (Lf k) (Rt k) (G m) (G k) (G (k + 1)) ∧ (k < i → a.2.1 (311 + 3 * (from9 + k)) 1 = 0))) ∧ a.2.1 83 3 = ((from9 + m : Nat) : Int) ∧ slf from9 m s a.2, ⟨0, n, P, rfl, Nat.zero_le _, Nat.le_refl _, B2, P2, hp, A0, fq2, o52, k2, fun k hk => Or.inr ⟨rf2 k hk, fun z => by omega⟩, m2, g2⟩, ?_⟩
    rintro ⟨x, s3⟩ ⟨i, n3, P3, ex, im, nn, B3, hP3, pp3, A3, hf3, o53, k3, r3, m3, g3⟩
    dsimp only at ex B3 hP3 hf3 o53 k3 r3 m3 g3 ⊢
    subst ex
    unfold C_solve3_101
    rw [show cgf s3 83 3 = _ from m3, Int.toNat_natCast]
    have n380 := B3.2.1
    refine ⟨fun c => ?_, fun c => ⟨fun fr => ?_, fun fr => ?_⟩⟩
    · -- the second loop
      have ei : i = m := by omega
      subst ei
      refine solve2_b (s0 := s) (n := n3) (n0 := n) (P := P3) (Lf := Lf) (Rt := Rt) (by omega) m3 B3 hD (by omega) hP3 pp3 hf3 o53 nn k3 (fun k hk => ?_) od g3 (fun s4 n4 P4 nn4 B4 hP4 pp4 hf4 k4 r4 m4 g4 => hQ s4 n4 i (by omega) md B4 hf4 k4 (fun k hk => ?_) m4 g4)
      · rcases r3 k hk with ⟨_, h⟩ | ⟨h, h0⟩
        · exact Or.inl h
        · have z0 := h0 hk
          obtain ⟨c', b', q1, q2, q3⟩ := h
          rcases q3 with ⟨w, _⟩ | ⟨w1, w2, w3, w4⟩
          · rw [w] at z0; omega
          · right
            rw [if_neg (by omega)]
            refine ⟨c', b', q1, q2, w2, w1, ?_⟩
            unfold sgn
            rcases A3 with A | ⟨c0, c1, c2⟩
            · rw [A, A]; exact w4
            · exfalso
              rw [c2 i (Nat.le_refl _) (Nat.le_refl _), c2 i (Nat.le_refl _) (Nat.le_refl _)] at w4
              rcases rneg_iff.1 w4 with ⟨x1, x2⟩ | ⟨x1, x2⟩ <;> grind
      · rcases r4 k hk with h | h
        · exact Or.inl h
        · exact Or.inr ⟨P4, _, _, hP4, pp4, h⟩
    · -- not a fraction
      have hr := r3 i (by omega)
      have fr' : s3.1 (311 + 3 * (from9 + i)) 1 = 0 := fr
      refine ⟨i + 1, n3, P3, by dsimp only; rw [w32_id (by omega) (by omega)]; omega, by omega, nn, B3, hP3, pp3, ?_, hf3, o53, k3, fun k hk => ?_, m3, g3⟩
      · rcases hr with ⟨z, _⟩ | ⟨h, _⟩
        · omega
        · obtain ⟨c', b', q1, q2, q3⟩ := h
          rcases q3 with ⟨w, _⟩ | ⟨_, _, w3, _⟩
          · rw [w] at fr'; omega
          · rcases A3 with A | ⟨c0, c1, c2⟩
            · exact Or.inl (fun x => by rw [A, w3])
            · exact Or.inr ⟨c0, c1, fun j h1 h2 => c2 j (by omega) h2⟩
      · rcases r3 k hk with ⟨z, h⟩ | ⟨h, h0⟩
        · exact Or.inl ⟨by omega, h⟩
        · refine Or.inr ⟨h, fun z => ?_⟩
          by_cases ck : k = i
          · rw [ck]; exact fr'
          · exact h0 (by omega)
    · -- a fraction: split it off
      have fr' : s3.1 (311 + 3 * (from9 + i)) 1 ≠ 0 := fr
      have im' : i < m := by omega
      obtain ⟨c', b', rt, lc, p, q, q0, hg, hz, ev⟩ : ∃ c' b', rt0 s3 (from9 + i) c' b' ∧ Lf i = xv c' b' ∧ ∃ p q : Int, 0 < q ∧ Int.gcd p q = 1 ∧ (q : Rat) * Lf i = p ∧ ∀ x : Rat, pev (G i) x = (q * x - p) * pev (G (i + 1)) x := by
        rcases r3 i im' with ⟨z, _⟩ | ⟨h, _⟩
        · omega
        · obtain ⟨c', b', q1, q2, q3⟩ := h
          rcases q3 with ⟨_, _, w⟩ | ⟨w1, _⟩
          · exact ⟨c', b', q1, q2, w⟩
          · exact absurd w1 fr'
      have zero : pev (G i) (Lf i) = 0 := by rw [ev, hz]; grind
      have A : ∀ x : Rat, pev P3 x = pev (G i) x := by
        rcases A3 with A | ⟨c0, c1, c2⟩
        · exact A
        · exact absurd ((c2 i (Nat.le_refl _) im (Lf i)).symm.trans zero) c1
      obtain ⟨d3, hd3⟩ : ∃ d : Nat, s3.1 (86 + 2 * e) 0 = (d : Int) := ⟨(s3.1 (86 + 2 * e) 0).toNat, by have := dgo_0 hP3.2 (pat_0 pp3); omega⟩
      have hP31 : pdb P3 (d3 + 1) := by have := hP3.2.2.2.1; rw [hd3, show ((d3 : Int) + 1).toNat = d3 + 1 by omega] at this; exact this
      have L3 : pgt P3 d3 ≠ 0 := by have := hP3.2.2.2.2 (by omega); rw [hd3, Int.toNat_natCast] at this; exact this
      obtain ⟨b1, b2, cb, rb, lp, lf⟩ := rt
      have cb33 : (c'.natAbs : Int) ≤ 2 ^ (b' + 33).toNat := by
        have : (2 : Int) ^ (b' + 32).toNat ≤ 2 ^ (b' + 33).toNat := p2mono (by omega)
        omega
      refine readBinary_b (P := P3) (by omega) ⟨rb, lf⟩ cb33 b1 (by omega) pp3 hP31 L3 (by rw [A, ← lc]; exact zero) (fun s4 a' q' v1 v2 v3 v4 v5 v6 v7 v8 f4 => ?_)
      obtain ⟨ea, eq⟩ := frac_u q0 (by omega) hg v7 (by rw [← lc]; exact hz) v8
      subst ea
      subst eq
      have B4 : BI s4 n3 D := BI_co B3 f4 (fun e he => by unfold rbF; omega) (fun e he => by omega) (by unfold rbF; omega) (dI_co B3.2.2.2.2 f4 (by unfold rbF; omega) (by unfold rbF; omega))
      have hP4 : ply s4 (86 + 2 * e) P3 := ply_fr hP3 f4 (by unfold rbF; omega) (by omega)
      have d4 : s4.1 (86 + 2 * e) 0 = (d3 : Int) := by rw [f4.1 _ _ (by unfold rbF; omega)]; exact hd3
      have evP : ∀ x : Rat, pev P3 x = (q * x - p) * pev (G (i + 1)) x := fun x => by rw [A, ev]
      have d38 : d3 ≤ 8 := by have := hP3.2.2.1; omega
      have nx : w32 (((from9 + i : Nat) : Int) + 1) = ((from9 + (i + 1) : Nat) : Int) := by rw [w32_id (by omega) (by omega)]; omega
      have after : ∀ (s5 : im_S) (n5 : Nat) (P5 : List Int), n3 ≤ n5 → BI s5 n5 D → ply s5 (86 + 2 * e) P5 → pat P5 → s1A P5 G (i + 1) m → psk n3 e s4 s5 → gof (from9 + i) s4 s5 → C_solve3_146 (fun a => ∃ (i n' : Nat) (P' : List Int), a.1 = ((from9 + i : Nat) : Int) ∧ i ≤ m ∧ n ≤ n' ∧ BI a.2 n' D ∧ ply a.2 (86 + 2 * e) P' ∧ pat P' ∧ s1A P' G i m ∧ (∃ lo hi mi ot, fq a.2 lo hi mi ot) ∧ big a.2 553 1 ∧ psk n e s a.2 ∧ (∀ k, k < m → (k < i ∧ lfF a.2 (from9 + k)) ∨ (rfe a.2 (from9 + k) (Lf k) (Rt k) (G m) (G k) (G (k + 1)) ∧ (k < i → a.2.1 (311 + 3 * (from9 + k)) 1 = 0))) ∧ a.2.1 83 3 = ((from9 + m : Nat) : Int) ∧ slf from9 m s a.2) (e : Int) (from9 : Int) ((from9 + i : Nat) : Int) s5 Q := by
        intro s5 n5 P5 nn5 B5 hP5 pp5 A5 k5 f5
        obtain ⟨lo, hi, mi, ot, fq3⟩ := hf3
        refine ⟨i + 1, n5, P5, nx, by omega, by omega, B5, hP5, pp5, A5, ⟨lo, hi, mi, ot, fq_co (fq_co fq3 f4 (fun k => by unfold rbF; omega)) f5 (fun k => by unfold goF; omega)⟩, big_g (big_g o53 f4 (by unfold rbF; omega) (by unfold rbF; omega) (by omega)) f5 (by unfold goF; omega) (by unfold goF; omega) (by unfold goR; omega), fun e' h1 h2 P hP => k5 e' (by omega) h2 P (ply_fr (k3 e' h1 h2 P hP) f4 (by unfold rbF; omega) (by omega)), fun k hk => ?_, by rw [f5.1 _ _ (by unfold goF; omega), f4.1 _ _ (by unfold rbF; omega)]; exact m3, gfr_trans g3 (gfr_trans (gfr_mono f4 (fun c f e => by unfold rbF at e; unfold slF; omega) (fun c e => by unfold slR; omega)) (gfr_mono f5 (fun c f e => by unfold goF at e; unfold slF; omega) (fun c e => by unfold goR at e; unfold slR; omega)))⟩
        by_cases ck : k = i
        · subst ck
          refine Or.inl ⟨by omega, ?_, ?_⟩
          · rw [f5.1 _ _ (by unfold goF; omega), v1]; decide
          · rw [f5.1 _ _ (by unfold goF; omega), v3]; exact v4
        · rcases r3 k hk with ⟨z, h⟩ | ⟨h, h0⟩
          · exact Or.inl ⟨by omega, lfF_co (lfF_co h f4 (fun k => by unfold rbF; omega)) f5 (fun k => by unfold goF; omega)⟩
          · refine Or.inr ⟨rfe_co (rfe_co h f4 (fun k => by unfold rbF; omega) (fun k => by unfold rbF; omega) (by omega)) f5 (fun k => by unfold goF; omega) (fun k => by unfold goF; omega) (by unfold goR; omega), fun z => ?_⟩
            rw [f5.1 _ _ (by unfold goF; omega), f4.1 _ _ (by unfold rbF; omega)]
            exact h0 (by omega)
      refine giveOwn_b (by omega) B4 hD (by omega) hP4 v2 v3 v4 (by omega) v6 (fun s5 K dg eK B5 K5 o5' k5 f5 => ?_) (fun s5 why B5 P5 o5' k5 f5 => ?_)
      · refine after s5 (n3 + 1) K (by omega) B5 K5 (pat_r pp3 (D := lnr p q) (fun x => by rw [lnr_ev]; exact eK x)) (Or.inl (fun x => ?_)) k5 f5
        exact lin_cancel q0 (fun x => by rw [← eK x, evP x]) x
      · have dg : s4.1 (86 + 2 * e) 0 ≤ 1 := by
          rcases why with w | w
          · exact w
          · exact absurd (dvs_lin pp3 d38 hP31 q0 evP) w
        have dg1 : d3 = 1 := by
          have : 1 ≤ s4.1 (86 + 2 * e) 0 := by
            obtain ⟨P', _, _, h3⟩ := B4.2.2.1 e (by omega)
            exact h3
          omega
        subst dg1
        refine after s5 n3 P3 (Nat.le_refl _) B5 P5 pp3 (Or.inr ?_) k5 f5
        have cst : pdb (G (i + 1)) 1 := dcan (Z := G (i + 1)) (A := lnr p q) (T := P3) (a := 1) (j := 1) (fun x => by rw [lnr_ev, evP x]; grind) (pdb_len _) (by show q ≠ 0; omega) hP31
        have cev : ∀ x : Rat, pev (G (i + 1)) x = (pgt (G (i + 1)) 0 : Rat) := fun x => by
          rw [← pdb_ev cst x]
          show (pgt (G (i + 1)) 0 : Rat) + x * 0 = _
          grind
        have c0 : (pgt (G (i + 1)) 0 : Rat) ≠ 0 := fun z => by
          refine L3 (pev_zero (fun x => ?_) 1)
          rw [evP x, cev x, z, Rat.mul_zero]
        refine ⟨_, c0, fun j h1 h2 => ?_⟩
        have go : ∀ t : Nat, i + 1 + t ≤ m → ∀ x : Rat, pev (G (i + 1 + t)) x = (pgt (G (i + 1)) 0 : Rat) := by
          intro t
          induction t with
          | zero => intro _ x; exact cev x
          | succ t ih =>
            intro ht x
            have ih' := ih (by omega)
            rcases r3 (i + 1 + t) (by omega) with ⟨z, _⟩ | ⟨h, _⟩
            · omega
            · obtain ⟨c', b', _, _, q3⟩ := h
              rcases q3 with ⟨_, _, p2, q2, _, _, hz2, ev2⟩ | ⟨_, _, w3, _⟩
              · exfalso
                have := ev2 (Lf (i + 1 + t))
                rw [ih', hz2] at this
                exact c0 (by rw [this]; grind)
              · rw [show i + 1 + (t + 1) = i + 1 + t + 1 by omega, ← w3 x]; exact ih' x
        have := go (j - (i + 1)) (by omega)
        rw [show i + 1 + (j - (i + 1)) = j by omega] at this
        exact this
  refine ⟨fun _ => main, fun dg => ⟨fun _ => main, fun _ s1 e1 _ _ => ?_⟩⟩
  -- a piece of degree 1
  have f1 : gfr (fun c f => c = 311 + 3 * from9 ∧ f = 0) (fun _ => False) s s1 := by subst e1; exact gfr_pf (gfr_refl _ _ _) ⟨rfl, rfl⟩
  rw [show cgf s1 83 3 = (from9 : Int) by show s1.1 83 3 = _; rw [f1.1 _ _ (by omega)]; exact hf, Int.toNat_natCast]
  refine setFraction_b (fun s2 a1 a2 a3 f2 s3 e3 => ?_)
  have h23 : cgf s2 83 3 = (from9 : Int) := by show s2.1 83 3 = _; rw [f2.1 _ _ (by omega), f1.1 _ _ (by omega)]; exact hf
  rw [h23, w32_id (by omega) (by omega)] at e3
  have fA : gfr (fun c f => (c = 311 + 3 * from9 ∧ f ≤ 5) ∨ (c = 83 ∧ f = 3)) (fun _ => False) s s3 := by
    refine gfr_trans (gfr_trans (gfr_mono f1 (fun c f e => by omega) (fun c e => e)) (gfr_mono f2 (fun c f e => by omega) (fun c e => e))) ?_
    subst e3
    exact gfr_pf (gfr_refl _ _ _) (by omega)
  obtain ⟨lo, hi, mi, ot, fq0⟩ := hq
  refine hQ s3 n 1 (Nat.le_refl _) d1 (BI_co hB fA (fun e he => by omega) (fun e he z => z) (by omega) (dI_co hB.2.2.2.2 fA (by omega) (by omega))) ⟨lo, hi, mi, ot, ?_⟩ (fun e' h1 h2 P hP => ply_fr hP fA (by omega) (fun z => z)) (fun k hk => ?_) ?_ (gfr_mono fA (fun c f e => by unfold slF; omega) (fun c e => e.elim))
  · unfold fq
    rw [fA.1 _ _ (by omega), fA.1 _ _ (by omega), fA.1 _ _ (by omega), fA.1 _ _ (by omega)]
    exact fq0
  · have : k = 0 := by omega
    subst this
    left
    have s32 : ∀ f, s3.1 (311 + 3 * (from9 + 0)) f = s2.1 (311 + 3 * from9) f := fun f => by subst e3; rw [Nat.add_zero, cpf_ne (by omega)]
    refine ⟨by rw [s32, a1]; decide, by rw [s32, a3]; omega⟩
  · subst e3; rw [cpf_same]; omega
