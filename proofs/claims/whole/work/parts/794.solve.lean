/-! solve -/
theorem dvd_cop {k m n : Int} (c : Int.gcd k m = 1) (h : k ∣ m * n) : k ∣ n := by
  have h2 := Int.natAbs_dvd_natAbs.2 h
  rw [Int.natAbs_mul] at h2
  exact Int.natAbs_dvd_natAbs.1 (Nat.Coprime.dvd_of_dvd_mul_left c h2)
theorem frac_u {p q p' q' : Int} {z : Rat} (q0 : 0 < q) (q0' : 0 < q') (g : Int.gcd p q = 1) (g' : Int.gcd p' q' = 1) (h : (q : Rat) * z = p) (h' : (q' : Rat) * z = p') : p = p' ∧ q = q' := by
  have e : p * q' = p' * q := by
    refine Rat.intCast_inj.1 ?_
    rw [Rat.intCast_mul, Rat.intCast_mul, ← h, ← h']; grind
  have d1 : q ∣ q' := by
    have c : Int.gcd q p = 1 := by rw [Int.gcd_comm]; exact g
    have : q ∣ p * q' := ⟨p', by rw [e, Int.mul_comm]⟩
    exact dvd_cop c this
  have d2 : q' ∣ q := by
    have c : Int.gcd q' p' = 1 := by rw [Int.gcd_comm]; exact g'
    have : q' ∣ p' * q := ⟨p, by rw [← e, Int.mul_comm]⟩
    exact dvd_cop c this
  have eq : q = q' := Int.le_antisymm (Int.le_of_dvd q0' d1) (Int.le_of_dvd q0 d2)
  subst eq
  refine ⟨?_, rfl⟩
  exact Int.eq_of_mul_eq_mul_right (by omega) e
/-- root j as part left it -/
theorem rfe_co {F : Nat → Nat → Prop} {R : Nat → Prop} {s s' : im_S} {j : Nat} {l r : Rat} {Pe G0 G1 : List Int} (h : rfe s j l r Pe G0 G1) (f : gfr F R s s') (h1 : ∀ k, ¬ F (311 + 3 * j) k) (h2 : ∀ k, ¬ F (311 + 3 * j + 1) k) (h3 : ¬ R (311 + 3 * j + 1 + 1)) : rfe s' j l r Pe G0 G1 := by
  obtain ⟨c, b, a1, a2, a3⟩ := h
  refine ⟨c, b, rt0_co a1 f h1 h2 h3, a2, ?_⟩
  rw [f.1 _ _ (h1 1)]
  exact a3
/-- a root that is a fraction, or lies well in its piece -/
def rgd (s : im_S) (n i : Nat) : Prop := ∃ e P, e < n ∧ ply s (86 + 2 * e) P ∧ pat P ∧ lfS s i e P (-4294967296 * 4294967296) (4294967296 * 4294967296)
/-- the roots that solve has found so far -/
def slF (from9 n c f : Nat) : Prop := (311 + 3 * from9 ≤ c ∧ c < 311 + 3 * (from9 + n)) ∨ (267 ≤ c ∧ c ≤ 306) ∨ (c = 83 ∧ (f = 3 ∨ (13 ≤ f ∧ f ≤ 16))) ∨ ((c = 551 ∨ c = 257) ∧ f = 0) ∨ (c = 84 ∧ f = 2) ∨ (86 ≤ c ∧ c < 246 ∧ f = 0) ∨ (555 ≤ c ∧ c ≤ 575 ∧ (f = 1 ∨ f = 2))
def slR (from9 n c : Nat) : Prop := (311 + 3 * from9 ≤ c ∧ c < 311 + 3 * (from9 + n)) ∨ (271 ≤ c ∧ c ≤ 307) ∨ c = 552 ∨ c = 250 ∨ c = 258 ∨ (87 ≤ c ∧ c ≤ 246) ∨ (556 ≤ c ∧ c ≤ 576)
def slf (from9 n : Nat) (s s' : im_S) : Prop := gfr (slF from9 n) (slR from9 n) s s'
theorem stf_slf {from9 n j : Nat} {s s' : im_S} (h : stf j s s') (h1 : from9 ≤ j) (h2 : j < from9 + n) : slf from9 n s s' := gfr_mono h (fun c f e => by unfold stF at e; unfold slF; omega) (fun c e => by unfold stR at e; unfold slR; omega)
theorem ptf_slf {from9 n : Nat} {s s' : im_S} (h : ptf from9 n s s') : slf from9 n s s' := gfr_mono h (fun c f e => by unfold rof at e; unfold slF; omega) (fun c e => by unfold ror at e; unfold slR; omega)
/-- root k in the second loop -/
def lf2 (s : im_S) (j i e : Nat) (P : List Int) (l r : Rat) : Prop := lfF s j ∨ (if j < i then lfS s j e P l r else lfU s j P l r)
theorem lf2_lin {s : im_S} {j i e : Nat} {P K : List Int} {l r : Rat} {a q : Int} (h : lf2 s j i e P l r) (lr : l < r) (q0 : 0 < q) (ev : ∀ x : Rat, pev P x = (q * x - a) * pev K x) (hz : (a : Rat) / q ≤ l ∨ r ≤ (a : Rat) / q) : lf2 s j i e K l r := by
  rcases h with h | h
  · exact Or.inl h
  · right
    split at h
    · rename_i ij
      rw [if_pos ij]
      obtain ⟨a1, a2, a3, a4, c, b, b1, b2, b3, b4, b5, b6⟩ := h
      refine ⟨a1, a2, a3, a4, c, b, b1, b2, b3, sgn_lin q0 ev b4 (xv_lt c b) ?_, b5, b6⟩
      rcases hz with w | w
      · left; grind
      · right; grind
    · rename_i ij
      rw [if_neg ij]
      obtain ⟨c, b, b1, b2, b3, b4, b5⟩ := h
      exact ⟨c, b, b1, b2, b3, b4, sgn_lin q0 ev b5 lr hz⟩
theorem lf2_eq {s : im_S} {j i e : Nat} {P K : List Int} {l r : Rat} (h : lf2 s j i e P l r) (ev : ∀ x : Rat, pev P x = pev K x) : lf2 s j i e K l r := by
  rcases h with h | h
  · exact Or.inl h
  · right
    split at h
    · rename_i ij
      rw [if_pos ij]
      obtain ⟨a1, a2, a3, a4, c, b, b1, b2, b3, b4, b5, b6⟩ := h
      refine ⟨a1, a2, a3, a4, c, b, b1, b2, b3, ?_, b5, b6⟩
      unfold sgn at b4 ⊢
      rw [← ev, ← ev]; exact b4
    · rename_i ij
      rw [if_neg ij]
      obtain ⟨c, b, b1, b2, b3, b4, b5⟩ := h
      refine ⟨c, b, b1, b2, b3, b4, ?_⟩
      unfold sgn at b5 ⊢
      rw [← ev, ← ev]; exact b5
theorem lf2_co {F : Nat → Nat → Prop} {R : Nat → Prop} {s s' : im_S} {j i e : Nat} {P : List Int} {l r : Rat} (h : lf2 s j i e P l r) (f : gfr F R s s') (h1 : ∀ k, ¬ F (311 + 3 * j) k) (h2 : ∀ k, ¬ F (311 + 3 * j + 1) k) (h3 : ¬ R (311 + 3 * j + 1 + 1)) : lf2 s' j i e P l r := by
  rcases h with h | h
  · exact Or.inl (lfF_co h f h1)
  · right
    split at h
    · rename_i ij; rw [if_pos ij]; exact lfS_co h f h1 h2 h3
    · rename_i ij; rw [if_neg ij]; exact lfU_co h f h1 h2 h3
theorem setSigns_b {from9 m : Nat} {s : im_S} {Q : im_S → Prop} (hm : s.1 83 3 = ((from9 + m : Nat) : Int)) (h80 : from9 + m ≤ 80) (hQ : ∀ s', gfr (fun c f => (311 + 3 * from9 ≤ c ∧ c < 311 + 3 * (from9 + m)) ∧ c % 3 = 2 ∧ f = 9) (fun _ => False) s s' → Q s') : C_setSigns3 (from9 : Int) s Q := by
  refine ⟨fun a => gfr (fun c f => (311 + 3 * from9 ≤ c ∧ c < 311 + 3 * (from9 + m)) ∧ c % 3 = 2 ∧ f = 9) (fun _ => False) s a.2.2 ∧ (from9 : Int) - 1 ≤ a.2.1 ∧ a.2.1 < ((from9 + m : Nat) : Int), ⟨gfr_refl _ _ _, ?_, ?_⟩, ?_⟩
  · dsimp only; rw [show cgf s 83 3 = _ from hm, w32_id (by omega) (by omega)]; omega
  · dsimp only; rw [show cgf s 83 3 = _ from hm, w32_id (by omega) (by omega)]; omega
  rintro ⟨x, y, s1⟩ ⟨f1, y1, y2⟩
  dsimp only at f1 y1 y2 ⊢
  refine ⟨fun _ => hQ s1 f1, fun c => ⟨fun _ => ⟨f1, ?_, ?_⟩, fun _ s2 e2 => ⟨?_, ?_, ?_⟩⟩⟩
  · dsimp only; rw [w32_id (by omega) (by omega)]; omega
  · dsimp only; rw [w32_id (by omega) (by omega)]; omega
  · subst e2; exact gfr_pf f1 (by omega)
  · dsimp only; rw [w32_id (by omega) (by omega)]; omega
  · dsimp only; rw [w32_id (by omega) (by omega)]; omega
/-- solve, the second loop -/
theorem solve2_b {s0 s : im_S} {from9 m e n n0 : Nat} {D : Int} {P : List Int} {Lf Rt : Nat → Rat} {Q : im_S → Prop} (h80 : from9 + m ≤ 80) (hm : s.1 83 3 = ((from9 + m : Nat) : Int)) (hB : BI s n D) (hD : D ≤ 80) (he : e < n) (hP : ply s (86 + 2 * e) P) (hp : pat P) (hf : ∃ lo hi mi ot, fq s lo hi mi ot) (ho : big s 553 1) (hn0 : n0 ≤ n) (hk : psk n0 e s0 s) (rts : ∀ k, k < m → lf2 s (from9 + k) from9 e P (Lf k) (Rt k)) (od : ∀ i j, i < j → j < m → Rt i ≤ Lf j) (g0 : slf from9 m s0 s) (hQ : ∀ s' n' P', n ≤ n' → BI s' n' D → ply s' (86 + 2 * e) P' → pat P' → (∃ lo hi mi ot, fq s' lo hi mi ot) → psk n0 e s0 s' → (∀ k, k < m → lfF s' (from9 + k) ∨ lfS s' (from9 + k) e P' (Lf k) (Rt k)) → s'.1 83 3 = ((from9 + m : Nat) : Int) → slf from9 m s0 s' → Q s') : ploop (fun (K : Int × im_S → Prop) (a : Int × im_S) => C_solve3_155 K (e : Int) (from9 : Int) a.1 a.2 Q) ((from9 : Int), s) := by
  refine ⟨fun a => ∃ (i n' : Nat) (P' : List Int), a.1 = (i : Int) ∧ from9 ≤ i ∧ i ≤ from9 + m ∧ n ≤ n' ∧ BI a.2 n' D ∧ ply a.2 (86 + 2 * e) P' ∧ pat P' ∧ (∃ lo hi mi ot, fq a.2 lo hi mi ot) ∧ big a.2 553 1 ∧ psk n0 e s0 a.2 ∧ (∀ k, k < m → lf2 a.2 (from9 + k) i e P' (Lf k) (Rt k)) ∧ a.2.1 83 3 = ((from9 + m : Nat) : Int) ∧ slf from9 m s0 a.2, ⟨from9, n, P, rfl, Nat.le_refl _, by omega, Nat.le_refl _, hB, hP, hp, hf, ho, hk, rts, hm, g0⟩, ?_⟩
  rintro ⟨x, s1⟩ ⟨i, n1, P1, ex, i1, i2, nn, B1, hP1, pp1, hf1, o1, k1, r1, m1, g1⟩
  dsimp only at ex B1 hP1 hf1 o1 k1 r1 m1 g1 ⊢
  subst ex
  unfold C_solve3_155
  rw [show cgf s1 83 3 = _ from m1, Int.toNat_natCast]
  refine ⟨fun c => ?_, fun c => ⟨fun fr => ?_, fun fr => ?_⟩⟩
  · have im : i = from9 + m := by omega
    subst im
    refine setSigns_b m1 h80 (fun s2 f2 => ?_)
    have r2 : ∀ k, k < m → lfF s2 (from9 + k) ∨ lfS s2 (from9 + k) e P1 (Lf k) (Rt k) := fun k hk => by
      have h := r1 k hk
      have big2 : ∀ (c b : Int), rst s1 (from9 + k) c b → rst s2 (from9 + k) c b := fun c b h => ⟨by rw [f2.1 _ _ (by omega)]; exact h.1, big_g h.2 f2 (by omega) (by omega) (fun z => z)⟩
      rcases h with h | h
      · left
        unfold lfF
        rw [f2.1 _ _ (by omega), f2.1 _ _ (by omega)]
        exact h
      · rw [if_pos (by omega)] at h
        right
        obtain ⟨a1, a2, a3, a4, c, b, b1, b2⟩ := h
        unfold lfS
        rw [f2.1 _ _ (by omega), f2.1 _ _ (by omega), f2.1 _ _ (by omega)]
        exact ⟨a1, a2, a3, a4, c, b, big2 c b b1, b2⟩
    obtain ⟨lo, hi, mi, ot, fq1⟩ := hf1
    have n80 := B1.2.1
    refine hQ s2 n1 P1 nn (BI_co B1 f2 (fun e he => by omega) (fun e he z => z) (by omega) (dI_co B1.2.2.2.2 f2 (by omega) (by omega))) (ply_fr hP1 f2 (by omega) (fun z => z)) pp1 ⟨lo, hi, mi, ot, fq_co fq1 f2 (fun k => by omega)⟩ (fun e' h1 h2 P hP => ply_fr (k1 e' h1 h2 P hP) f2 (by omega) (fun z => z)) r2 (by rw [f2.1 _ _ (by omega)]; exact m1) (gfr_trans g1 (gfr_mono f2 (fun c f e => by unfold slF; omega) (fun c e => e.elim)))
  · -- a fraction already
    refine ⟨i + 1, n1, P1, by dsimp only; rw [w32_id (by omega) (by omega)]; omega, by omega, by omega, nn, B1, hP1, pp1, hf1, o1, k1, fun k hk => ?_, m1, g1⟩
    have h := r1 k hk
    rcases h with h | h
    · exact Or.inl h
    · by_cases ck : from9 + k = i
      · rw [if_neg (by omega)] at h
        obtain ⟨c', b', _, _, _, z, _⟩ := h
        rw [ck] at z
        exact absurd z fr
      · right
        by_cases lt : from9 + k < i
        · rw [if_pos lt] at h; rw [if_pos (by omega)]; exact h
        · rw [if_neg lt] at h; rw [if_neg (by omega)]; exact h
  · -- settle it
    obtain ⟨k0, hk0⟩ : ∃ k0, i = from9 + k0 := ⟨i - from9, by omega⟩
    subst hk0
    have k0m : k0 < m := by omega
    have fr' : s1.1 (311 + 3 * (from9 + k0)) 1 = 0 := fr
    have nF : ¬ lfF s1 (from9 + k0) := fun h => h.1 fr'
    have hu : lfU s1 (from9 + k0) P1 (Lf k0) (Rt k0) := by
      rcases r1 k0 k0m with h | h
      · exact absurd h nF
      · rw [if_neg (by omega)] at h; exact h
    obtain ⟨lo, hi, mi, ot, fq1⟩ := hf1
    have n80 := B1.2.1
    obtain ⟨d, hd⟩ : ∃ d : Nat, s1.1 (86 + 2 * e) 0 = (d : Int) := ⟨(s1.1 (86 + 2 * e) 0).toNat, by have := dgo_0 hP1.2 (pat_0 pp1); omega⟩
    refine settle_b (by omega) B1 hD (by omega) hP1 hd pp1 hu fq1 o1 (fun s2 st2 f2 => ?_)
    obtain ⟨hfq2, ps2, alt⟩ := st2
    have g2 : slf from9 m s0 s2 := gfr_trans g1 (stf_slf f2 (by omega) (by omega))
    have m2 : s2.1 83 3 = ((from9 + m : Nat) : Int) := by rw [f2.1 _ _ (by unfold stF; omega)]; exact m1
    have o2 : big s2 553 1 := big_g o1 f2 (by unfold stF; omega) (by unfold stF; omega) (by unfold stR; omega)
    have kk2 : psk n0 e s0 s2 := fun e' h1 h2 P hP => ps2 e' (by omega) h2 P (k1 e' h1 h2 P hP)
    have oth : ∀ k, k < m → k ≠ k0 → lf2 s2 (from9 + k) (from9 + k0 + 1) e P1 (Lf k) (Rt k) := fun k hk hne => by
      have h := lf2_co (r1 k hk) f2 (fun k => by unfold stF; omega) (fun k => by unfold stF; omega) (by unfold stR; omega)
      rcases h with h | h
      · exact Or.inl h
      · right
        by_cases lt : from9 + k < from9 + k0
        · rw [if_pos lt] at h; rw [if_pos (by omega)]; exact h
        · rw [if_neg lt] at h; rw [if_neg (by omega)]; exact h
    have nx : w32 (((from9 + k0 : Nat) : Int) + 1) = ((from9 + k0 + 1 : Nat) : Int) := by rw [w32_id (by omega) (by omega)]; omega
    rcases alt with ⟨q1, q2, q3⟩ | ⟨q1, n', P', q2, q3, q4, q5⟩
    · refine ⟨from9 + k0 + 1, n1, P1, nx, by omega, by omega, nn, q2, q3, pp1, hfq2, o2, kk2, fun k hk => ?_, m2, g2⟩
      by_cases ck : k = k0
      · subst ck; right; rw [if_pos (by omega)]; exact q1
      · exact oth k hk ck
    · have pp2 : pat P' := by
        rcases q5 with w | ⟨a, q, q0, ev, _, _⟩
        · exact pat_co pp1 (pev_inj w)
        · exact pat_r pp1 (D := lnr a q) (fun x => by rw [lnr_ev]; exact ev x)
      refine ⟨from9 + k0 + 1, n', P', nx, by omega, by omega, by omega, q3, q4, pp2, hfq2, o2, kk2, fun k hk => ?_, m2, g2⟩
      by_cases ck : k = k0
      · subst ck; exact Or.inl q1
      · have h := oth k hk ck
        rcases q5 with w | ⟨a, q, q0, ev, z1, z2⟩
        · exact lf2_eq h w
        · by_cases hF : lfF s2 (from9 + k)
          · exact Or.inl hF
          · have hF1 : ¬ lfF s1 (from9 + k) := fun z => hF (lfF_co z f2 (fun k => by unfold stF; omega))
            have lrk : Lf k < Rt k := by
              rcases r1 k hk with z | z
              · exact absurd z hF1
              · split at z
                · obtain ⟨_, _, _, _, c, b, _, _, _, _, b5, b6⟩ := z
                  have := xv_lt c b
                  grind
                · obtain ⟨c, b, _, b2, b3, _, _⟩ := z
                  rw [b2, b3]; exact xv_lt c b
            refine lf2_lin h lrk q0 ev ?_
            rcases Nat.lt_or_gt_of_ne ck with w | w
            · right
              have := od k k0 w k0m
              grind
            · left
              have := od k0 k w hk
              grind
