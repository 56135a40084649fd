/-! solve BY VALUE: the second loop -/
def IV2 (s0 : im_S) (from9 m e n mm : Nat) (D : Int) (p : Nat → List Int) (M : Nat → Nat → Nat) (cs : Nat → Rat → Int) (Lf Rt : Nat → Rat) (i : Nat) (s : im_S) : Prop := ∃ (n3 : Nat) (p3 : Nat → List Int) (M3 : Nat → Nat → Nat), BI s n3 D ∧ BF s n3 p3 M3 mm ∧ SPR n e p M n3 p3 M3 ∧ (∃ lo hi mi ot, fq s lo hi mi ot) ∧ big s 553 1 ∧ (∀ k, k < m → rtF s (from9 + k) e n n3 p3 (cs k) ∨ (if from9 + k < i then rN s (from9 + k) e (p3 e) (cs k) else rU s (from9 + k) (p3 e) (cs k) (Lf k) (Rt k))) ∧ NEWO s from9 m n n3 p3 ∧ s.1 83 3 = ((from9 + m : Nat) : Int) ∧ slf from9 m s0 s
/-- a settled root with the sign on its left -/
def rN9 (s : im_S) (j e : Nat) (P : List Int) (c0 : Rat → Int) : Prop := rN s j e P c0 ∧ ∃ c b t, rst s j c b ∧ iso P (xv c b) (xv (c + 1) b) t ∧ c0 (xv c b) = 1 ∧ c0 (xv (c + 1) b) = -1 ∧ s.1 (311 + 3 * j) 9 = t
/-- what solve leaves -/
def SOL (s : im_S) (from9 m e n mm : Nat) (D : Int) (p : Nat → List Int) (M : Nat → Nat → Nat) (cs : Nat → Rat → Int) (n3 : Nat) (p3 : Nat → List Int) (M3 : Nat → Nat → Nat) : Prop := BI s n3 D ∧ BF s n3 p3 M3 mm ∧ SPR n e p M n3 p3 M3 ∧ (∃ lo hi mi ot, fq s lo hi mi ot) ∧ (∀ k, k < m → rtF s (from9 + k) e n n3 p3 (cs k) ∨ rN9 s (from9 + k) e (p3 e) (cs k)) ∧ NEWO s from9 m n n3 p3 ∧ s.1 83 3 = ((from9 + m : Nat) : Int)
theorem rtF_1 {s : im_S} {j e n n3 : Nat} {p3 : Nat → List Int} {c0 : Rat → Int} (h : rtF s j e n n3 p3 c0) : s.1 (311 + 3 * j) 1 = 1 := by
  obtain ⟨_, _, _, _, _, h, _⟩ := h
  exact h.1
theorem rtF_sp {s : im_S} {j e n n3 n4 : Nat} {p3 p4 : Nat → List Int} {c0 : Rat → Int} {a q : Int} (h : rtF s j e n n3 p3 c0) (nn : n3 ≤ n4) (po : ∀ o', o' < n3 → o' ≠ e → p4 o' = p3 o') (pe : p4 e = p3 e ∨ (¬ pdb (p3 e) 2 ∧ ∀ x : Rat, pev (p3 e) x = (q * x - a) * pev (p4 e) x)) : rtF s j e n n4 p4 c0 := by
  obtain ⟨o, a', q', b1, b2, b3, b4, b5, b6⟩ := h
  by_cases c : o = e
  · have d := b6 c
    have e4 : p4 e = p3 e := by
      rcases pe with w | ⟨w, _⟩
      · exact w
      · exact absurd d w
    exact ⟨o, a', q', by omega, b2, b3, b4, by rw [c, e4, ← c]; exact b5, fun _ => by rw [e4]; exact d⟩
  · exact ⟨o, a', q', by omega, b2, b3, b4, by rw [po o b1 c]; exact b5, fun z => absurd z c⟩
theorem st_n {j k f : Nat} (h : k ≠ j) (hk : k < 80) (hj : j < 80) : ¬ stF j (311 + 3 * k) f := by unfold stF; omega
theorem st_n1 {j k f : Nat} (h : k ≠ j) (hk : k < 80) (hj : j < 80) : ¬ stF j (311 + 3 * k + 1) f := by unfold stF; omega
theorem st_n2 {j k : Nat} (h : k ≠ j) (hk : k < 80) (hj : j < 80) : ¬ stR j (311 + 3 * k + 1 + 1) := by unfold stR; omega
/-- marks: the sign on the left of each root that is no fraction -/
theorem fin_signs {s s' : im_S} {from9 m e n mm n3 : Nat} {p p3 : Nat → List Int} {M M3 : Nat → Nat → Nat} {cs : Nat → Rat → Int} (h80 : from9 + m ≤ 80) (he : e < n) (hF : BF s n3 p3 M3 mm) (hS : SPR n e p M n3 p3 M3) (hcut : ∀ k, k < m → cut (cs k)) (hr : ∀ i j, i < j → j < m → lft9 (cs i) (cs j)) (hall : ∀ c : Rat → Int, cut c → rtc (p e) c → ∃ k, k < m ∧ c = cs k) (hk : ∀ k, k < m → rtF s (from9 + k) e n n3 p3 (cs k) ∨ rN s (from9 + k) e (p3 e) (cs k)) (f : gfr (fun c f => (311 + 3 * from9 ≤ c ∧ c < 311 + 3 * (from9 + m)) ∧ c % 3 = 2 ∧ f = 9) (fun _ => False) s s') (h9 : ∀ k, k < m → s.1 (311 + 3 * (from9 + k)) 1 = 0 → s'.1 (311 + 3 * (from9 + k)) 9 = mkv (fun k => s.1 (311 + 3 * (from9 + k)) 1) m (m - k)) (k : Nat) (km : k < m) (hN : rN s (from9 + k) e (p3 e) (cs k)) : rN9 s' (from9 + k) e (p3 e) (cs k) := by
  have en3 : e < n3 := by have := hS.1; omega
  obtain ⟨_, _, sq, lp, _⟩ := hF.1 e en3
  -- no root of e is a fraction: else e is linear
  have nofr : ∀ i, i < m → ∀ (o : Nat) (a q : Int), rF s (from9 + i) o a q → pev (p3 o) ((a : Rat) / q) = 0 → o = e → pdb (p3 e) 2 → False := by
    intro i im o a q h1 h2 h3 h4
    subst h3
    obtain ⟨_, _, _, ⟨cc, ct, cn⟩, _⟩ := hN
    have tq := rtc_qs sq h2
    -- a linear polynomial turns once
    have lin : ∀ x : Rat, pev (p3 o) x = (pgt (p3 o) 0 : Rat) + x * (pgt (p3 o) 1 : Rat) := lin9_ev (fun k => h4 (k + 2) (by omega))
    have p1 : pgt (p3 o) 1 ≠ 0 := fun z => by
      refine const_no (F := p3 o) (fun k => ?_) tq
      cases k with
      | zero => exact z
      | succ k => exact h4 (k + 2) (by omega)
    have pz : (pgt (p3 o) 1 : Rat) * ((a : Rat) / q) = ((-(pgt (p3 o) 0) : Int) : Rat) := by
      rw [lin] at h2
      rw [Rat.intCast_neg]
      grind
    rcases Int.lt_or_gt_of_ne p1 with w | w
    · have e2 : ∀ x : Rat, pev (psm (-1) (p3 o)) x = pev [-(pgt (p3 o) 0), -(pgt (p3 o) 1)] x := fun x => by
        rw [m1_ev, lin x]
        show _ = ((-(pgt (p3 o) 0) : Int) : Rat) + x * (((-(pgt (p3 o) 1) : Int) : Rat) + x * 0)
        rw [Rat.intCast_neg, Rat.intCast_neg]
        grind
      have t2 : rtc (psm (-1) (p3 o)) (cs k) := by
        obtain ⟨t, t1, ⟨u, u1, u2⟩, v, v1, v2⟩ := ct
        refine ⟨-t, by omega, ⟨u, u1, fun z a b => by rw [m1_ev, rsg_ng, u2 z a b]⟩, v, v1, fun z a b => by rw [m1_ev, rsg_ng, v2 z a b]⟩
      refine cn ((a : Rat) / q) (lin_turn (p := pgt (p3 o) 0) (q := -(pgt (p3 o) 1)) (by omega) ?_ cc (rtc_eq e2 t2))
      rw [Rat.intCast_neg]
      rw [Rat.intCast_neg] at pz
      grind
    · have e2 : ∀ x : Rat, pev (p3 o) x = pev [-(-(pgt (p3 o) 0)), pgt (p3 o) 1] x := fun x => by
        rw [lin x]
        show _ = ((-(-(pgt (p3 o) 0)) : Int) : Rat) + x * ((pgt (p3 o) 1 : Rat) + x * 0)
        rw [Int.neg_neg]
        grind
      exact cn ((a : Rat) / q) (lin_turn (p := -(pgt (p3 o) 0)) (q := pgt (p3 o) 1) w pz cc (rtc_eq e2 ct))
  have ha : ∀ c : Rat → Int, cut c → rtc (p3 e) c → ∃ i, i < m ∧ s.1 (311 + 3 * (from9 + i)) 1 = 0 ∧ c = cs i := fun c cc ct => by
    obtain ⟨i, im, ei⟩ := hall c cc (hS.2.2.2.2 c cc ct)
    refine ⟨i, im, ?_, ei⟩
    rcases hk i im with ⟨o, a, q, b1, b2, b3, b4, b5, b6⟩ | w
    · exfalso
      by_cases oe : o = e
      · exact nofr i im o a q b3 b5 oe (b6 oe)
      · have so := (hF.1 o b1).2.2.1
        have t1 := rtc_qs so b5
        have ec : c = qct ((a : Rat) / q) := by rw [ei]; exact funext (cut_q (hcut i im) b4)
        rw [← ec] at t1
        exact rtc_cop cc (hF.2.1 o e b1 en3 oe) t1 ct
    · exact w.1
  have ex : ∀ i, ∃ lrt : Rat × Rat × Int × Int × Int, i < m → s.1 (311 + 3 * (from9 + i)) 1 = 0 → rst s (from9 + i) lrt.2.2.2.1 lrt.2.2.2.2 ∧ lrt.1 = xv lrt.2.2.2.1 lrt.2.2.2.2 ∧ lrt.2.1 = xv (lrt.2.2.2.1 + 1) lrt.2.2.2.2 ∧ rtc (p3 e) (cs i) ∧ iso (p3 e) lrt.1 lrt.2.1 lrt.2.2.1 ∧ cs i lrt.1 = 1 ∧ cs i lrt.2.1 = -1 := fun i => by
    by_cases c1 : i < m
    · by_cases c2 : s.1 (311 + 3 * (from9 + i)) 1 = 0
      · rcases hk i c1 with w | w
        · have := rtF_1 w; omega
        · obtain ⟨_, _, _, ⟨_, ct, _⟩, ⟨c, b, t, r1, _, _, is, cl, cr⟩, _⟩ := w
          exact ⟨(xv c b, xv (c + 1) b, t, c, b), fun _ _ => ⟨r1, rfl, rfl, ct, is, cl, cr⟩⟩
      · exact ⟨(0, 0, 0, 0, 0), fun _ z => absurd z c2⟩
    · exact ⟨(0, 0, 0, 0, 0), fun z => absurd z c1⟩
  obtain ⟨g, hg⟩ := Classical.axiomOfChoice ex
  have mk := (sg_marks (P := p3 e) (m := m) (fl := fun k => s.1 (311 + 3 * (from9 + k)) 1) (cs := cs) (L := fun i => (g i).1) (R := fun i => (g i).2.1) (T := fun i => (g i).2.2.1) sq lp hcut hr (fun i im fz => (hg i im fz).2.2.2) ha (m - k) k (by omega)).2 km hN.1
  obtain ⟨r1, el, er, _, is, cl, cr⟩ := hg k km hN.1
  refine ⟨rN_co hN f (fun i i9 => by omega) (fun i => by omega) (fun z => z), (g k).2.2.2.1, (g k).2.2.2.2, (g k).2.2.1, rst_co r1 f (by omega) (by omega) (by omega) (fun z => z), ?_, ?_, ?_, ?_⟩
  · rw [← el, ← er]; exact is
  · rw [← el]; exact cl
  · rw [← er]; exact cr
  · rw [h9 k km hN.1]; exact mk.symm
theorem solve2_v {s0 s : im_S} {from9 m e n mm : Nat} {D : Int} {p : Nat → List Int} {M : Nat → Nat → Nat} {cs : Nat → Rat → Int} {Lf Rt : Nat → Rat} {Q : im_S → Prop} (h80 : from9 + m ≤ 80) (hD : D ≤ 80) (he : e < n) (bd : bd9 m Lf Rt) (hcut : ∀ k, k < m → cut (cs k)) (hr : ∀ i j, i < j → j < m → lft9 (cs i) (cs j)) (hall : ∀ c : Rat → Int, cut c → rtc (p e) c → ∃ k, k < m ∧ c = cs k) (hI : IV2 s0 from9 m e n mm D p M cs Lf Rt from9 s) (hQ : ∀ s' n3 p3 M3, SOL s' from9 m e n mm D p M cs n3 p3 M3 → slf from9 m s0 s' → Q s') : ploop (fun (K : Int × im_S → Prop) (a : Int × im_S) => C_solve3_155 K (e : Int) (from9 : Int) a.1 a.2 Q) ((from9 : Int), s) := by
  refine ⟨fun a => ∃ i : Nat, a.1 = (i : Int) ∧ from9 ≤ i ∧ i ≤ from9 + m ∧ IV2 s0 from9 m e n mm D p M cs Lf Rt i a.2, ⟨from9, rfl, Nat.le_refl _, by omega, hI⟩, ?_⟩
  rintro ⟨x, s1⟩ ⟨i, ex, i1, i2, n3, p3, M3, B1, F1, S1, hf1, o1, r1, N1, m1, g1⟩
  dsimp only at ex B1 F1 hf1 o1 r1 N1 m1 g1 ⊢
  subst ex
  unfold C_solve3_155
  rw [show cgf s1 83 3 = _ from m1, Int.toNat_natCast]
  have n80 := B1.2.1
  have en3 : e < n3 := by have := S1.1; omega
  refine ⟨fun c => ?_, fun c => ⟨fun fr => ?_, fun fr => ?_⟩⟩
  · have im : i = from9 + m := by omega
    subst im
    have r1' : ∀ k, k < m → rtF s1 (from9 + k) e n n3 p3 (cs k) ∨ rN s1 (from9 + k) e (p3 e) (cs k) := fun k hk => by
      have h := r1 k hk
      rw [if_pos (by omega)] at h
      exact h
    refine setSigns_v m1 h80 (fun s2 f2 h9 => ?_)
    obtain ⟨lo, hi, mi, ot, fq1⟩ := hf1
    refine hQ s2 n3 p3 M3 ⟨BI_co B1 f2 (fun e he => by omega) (fun e he z => z) (by omega) (dI_co B1.2.2.2.2 f2 (by omega) (by omega)), BF_co F1 f2 n80 (fun e he => by omega) (fun e he z => z) (fun z => z), S1, ⟨lo, hi, mi, ot, fq_co fq1 f2 (fun k => by omega)⟩, fun k hk => ?_, fun o a1 a2 => ?_, by rw [f2.1 _ _ (by omega)]; exact m1⟩ (gfr_trans g1 (gfr_mono f2 (fun c f e => by unfold slF; omega) (fun c e => e.elim)))
    · rcases r1' k hk with w | w
      · exact Or.inl (rtF_co w f2 (fun k9 h6 => by omega))
      · exact Or.inr (fin_signs h80 he F1 S1 hcut hr hall r1' f2 h9 k hk w)
    · obtain ⟨k, a, q, k1, k2, k3⟩ := N1 o a1 a2
      exact ⟨k, a, q, k1, rF_co k2 f2 (fun k9 h6 => by omega), k3⟩
  · -- a fraction already
    refine ⟨i + 1, by dsimp only; rw [w32_id (by omega) (by omega)]; omega, by omega, by omega, n3, p3, M3, B1, F1, S1, hf1, o1, fun k hk => ?_, N1, m1, g1⟩
    have h := r1 k hk
    rcases h with h | h
    · exact Or.inl h
    · by_cases ck : from9 + k = i
      · rw [if_neg (by omega)] at h
        have z := h.2.1
        rw [ck] at z
        exact absurd z fr
      · right
        by_cases lt : from9 + k < i
        · rw [if_pos lt] at h; rw [if_pos (by omega)]; exact h
        · rw [if_neg lt] at h; rw [if_neg (by omega)]; exact h
  · -- settle it
    obtain ⟨k0, hk0⟩ : ∃ k0, i = from9 + k0 := ⟨i - from9, by omega⟩
    subst hk0
    have k0m : k0 < m := by omega
    have fr' : s1.1 (311 + 3 * (from9 + k0)) 1 = 0 := fr
    have hu : rU s1 (from9 + k0) (p3 e) (cs k0) (Lf k0) (Rt k0) := by
      rcases r1 k0 k0m with h | h
      · have := rtF_1 h; omega
      · rw [if_neg (by omega)] at h; exact h
    obtain ⟨lo, hi, mi, ot, fq1⟩ := hf1
    obtain ⟨b1, b2⟩ := bd k0 k0m
    have nx : w32 (((from9 + k0 : Nat) : Int) + 1) = ((from9 + k0 + 1 : Nat) : Int) := by rw [w32_id (by omega) (by omega)]; omega
    have oth : ∀ s2, stf (from9 + k0) s1 s2 → ∀ k, k < m → k ≠ k0 → rtF s2 (from9 + k) e n n3 p3 (cs k) ∨ (if from9 + k < from9 + k0 + 1 then rN s2 (from9 + k) e (p3 e) (cs k) else rU s2 (from9 + k) (p3 e) (cs k) (Lf k) (Rt k)) := fun s2 f2 k hk hne => by
      have nj : from9 + k ≠ from9 + k0 := by omega
      have h80k : from9 + k < 80 := by omega
      have h80j : from9 + k0 < 80 := by omega
      rcases r1 k hk with h | h
      · exact Or.inl (rtF_co h f2 (fun _ _ => st_n nj h80k h80j))
      · right
        by_cases lt : from9 + k < from9 + k0
        · rw [if_pos lt] at h
          rw [if_pos (by omega)]
          exact rN_co h f2 (fun _ _ => st_n nj h80k h80j) (fun _ => st_n1 nj h80k h80j) (st_n2 nj h80k h80j)
        · rw [if_neg lt] at h
          rw [if_neg (by omega)]
          exact rU_co h f2 (fun _ => st_n nj h80k h80j) (fun _ => st_n1 nj h80k h80j) (st_n2 nj h80k h80j)
    have new : ∀ s2, stf (from9 + k0) s1 s2 → NEWO s2 from9 m n n3 p3 := fun s2 f2 o a1 a2 => by
      obtain ⟨k, a, q, k1, k2, k3⟩ := N1 o a1 a2
      have ne : k ≠ k0 := fun z => by
        have := k2.1
        rw [z] at this
        omega
      exact ⟨k, a, q, k1, rF_co k2 f2 (fun _ _ => st_n (by omega) (by omega) (by omega)), k3⟩
    have com : ∀ s2, stf (from9 + k0) s1 s2 → big s2 553 1 ∧ s2.1 83 3 = ((from9 + m : Nat) : Int) ∧ slf from9 m s0 s2 := fun s2 f2 => ⟨big_g o1 f2 (by unfold stF; omega) (by unfold stF; omega) (by unfold stR; omega), by rw [f2.1 _ _ (by unfold stF; omega)]; exact m1, gfr_trans g1 (stf_slf f2 (by omega) (by omega))⟩
    refine settle_v (by omega) B1 F1 hD en3 hu b1 b2 fq1 o1 (fun s2 fq2 B2 F2 N2 f2 => ?_) (fun s2 a q n4 p4 M4 o fq2 B2 F2 R2 sp cz x1 x2 f2 => ?_)
    · obtain ⟨c1, c2, c3⟩ := com s2 f2
      refine ⟨from9 + k0 + 1, nx, by omega, by omega, n3, p3, M3, B2, F2, S1, fq2, c1, fun k hk => ?_, new s2 f2, c2, c3⟩
      by_cases ck : k = k0
      · subst ck; right; rw [if_pos (by omega)]; exact N2
      · exact oth s2 f2 k hk ck
    · obtain ⟨c1, c2, c3⟩ := com s2 f2
      have q0 : 0 < q := by have := R2.2.2.2.2.2.2.1; omega
      obtain ⟨S4, on4, oe, pz, pd, nn, nw, po, pe⟩ := spl_step (m := m) q0 he S1 sp F2.2.1 (pat_0 (F1.1 e en3).2.1)
      have nz4 : nzp (p4 e) := pat_0 (F2.1 e (by have := S4.1; omega)).2.1
      refine ⟨from9 + k0 + 1, nx, by omega, by omega, n4, p4, M4, B2, F2, S4, fq2, c1, fun k hk => ?_, fun o' a1 a2 => ?_, c2, c3⟩
      · by_cases ck : k = k0
        · subst ck
          exact Or.inl ⟨o, a, q, on4, oe, R2, cz, pz, pd⟩
        · have cn : cs k ((a : Rat) / q) ≠ 0 := fun z => by
            have e1 := cut_same (hcut k hk) (hcut k0 k0m) z cz
            rcases Nat.lt_or_gt_of_ne ck with w | w
            · exact lft9_ne (hcut k hk) (hr k k0 w k0m) e1
            · exact lft9_ne (hcut k0 k0m) (hr k0 k w hk) e1.symm
          rcases oth s2 f2 k hk ck with h | h
          · exact Or.inl (rtF_sp h nn po pe)
          · right
            split at h
            · rename_i lt
              rw [if_pos lt]
              rcases pe with w | ⟨_, w⟩
              · rw [w]; exact h
              · exact rN_lin q0 w nz4 h
            · rename_i lt
              rw [if_neg lt]
              rcases pe with w | ⟨_, w⟩
              · rw [w]; exact h
              · exact rU_lin q0 w nz4 cn h
      · by_cases cn : o' < n3
        · obtain ⟨k, a', q', k1, k2, k3⟩ := new s2 f2 o' a1 cn
          exact ⟨k, a', q', k1, k2, by rw [po o' cn (by omega)]; exact k3⟩
        · obtain ⟨w1, w2⟩ := nw o' (by omega) a2
          exact ⟨k0, a, q, k0m, by rw [w1]; exact R2, by rw [w1]; exact w2⟩
