/-! settle -/
def sgn (P : List Int) (l r : Rat) : Prop := pev P l * pev P r < 0
theorem sgn_lin {P K : List Int} {a q : Int} {l r : Rat} (q0 : 0 < q) (e : ∀ x : Rat, pev P x = (q * x - a) * pev K x) (h : sgn P l r) (lr : l < r) (hz : (a : Rat) / q ≤ l ∨ r ≤ (a : Rat) / q) : sgn K l r := by
  unfold sgn at h ⊢
  rw [e, e] at h
  have qr : (0 : Rat) < q := by
    have : ((0 : Int) : Rat) < (q : Rat) := Rat.intCast_lt_intCast.2 q0
    exact this
  have az : (a : Rat) = q * ((a : Rat) / q) := by grind
  generalize (a : Rat) / q = z at az hz
  have e1 : (q : Rat) * l - a = q * (l - z) := by grind
  have e2 : (q : Rat) * r - a = q * (r - z) := by grind
  rw [e1, e2] at h
  have nn : 0 ≤ (l - z) * (r - z) := by
    rcases hz with w | w
    · exact Rat.mul_nonneg (by grind) (by grind)
    · have := Rat.mul_nonneg (show 0 ≤ z - l by grind) (show 0 ≤ z - r by grind)
      grind
  refine Rat.not_le.1 fun c => ?_
  have t1 : 0 ≤ (q * q : Rat) * ((l - z) * (r - z)) := Rat.mul_nonneg (Rat.mul_nonneg (Rat.le_of_lt qr) (Rat.le_of_lt qr)) nn
  have t2 := Rat.mul_nonneg t1 c
  grind
def lfU (s : im_S) (j : Nat) (P : List Int) (l r : Rat) : Prop := ∃ c b, rt0 s j c b ∧ l = xv c b ∧ r = xv (c + 1) b ∧ s.1 (311 + 3 * j) 1 = 0 ∧ sgn P l r
def lfS (s : im_S) (j e : Nat) (P : List Int) (l r : Rat) : Prop := s.1 (311 + 3 * j) 1 = 0 ∧ s.1 (311 + 3 * j) 0 = (e : Int) ∧ 1 ≤ s.1 (311 + 3 * j) 8 ∧ s.1 (311 + 3 * j) 8 ≤ 2000 ∧ ∃ c b, rst s j c b ∧ cbd c b ∧ 32 ≤ b ∧ sgn P (xv c b) (xv (c + 1) b) ∧ l ≤ xv c b ∧ xv (c + 1) b ≤ r
def lfF (s : im_S) (j : Nat) : Prop := s.1 (311 + 3 * j) 1 ≠ 0 ∧ 1 ≤ s.1 (311 + 3 * j) 3
theorem lfU_co {F : Nat → Nat → Prop} {R : Nat → Prop} {s s' : im_S} {j : Nat} {P : List Int} {l r : Rat} (h : lfU s j P l r) (f : gfr F R s s') (h1 : ∀ k, ¬ F (311 + 3 * j) k) (h2 : ∀ k, ¬ F (311 + 3 * j + 1) k) (h3 : ¬ R (311 + 3 * j + 1 + 1)) : lfU s' j P l r := by
  obtain ⟨c, b, a1, a2, a3, a4, a5⟩ := h
  exact ⟨c, b, rt0_co a1 f h1 h2 h3, a2, a3, by rw [f.1 _ _ (h1 1)]; exact a4, a5⟩
theorem rst_co {F : Nat → Nat → Prop} {R : Nat → Prop} {s s' : im_S} {j : Nat} {c b : Int} (h : rst s j c b) (f : gfr F R s s') (h1 : ¬ F (311 + 3 * j) 7) (h2 : ¬ F (311 + 3 * j + 1) 1) (h2' : ¬ F (311 + 3 * j + 1) 2) (h3 : ¬ R (311 + 3 * j + 1 + 1)) : rst s' j c b := ⟨by rw [f.1 _ _ h1]; exact h.1, big_g h.2 f h2 h2' h3⟩
theorem lfS_co {F : Nat → Nat → Prop} {R : Nat → Prop} {s s' : im_S} {j e : Nat} {P : List Int} {l r : Rat} (h : lfS s j e P l r) (f : gfr F R s s') (h1 : ∀ k, ¬ F (311 + 3 * j) k) (h2 : ∀ k, ¬ F (311 + 3 * j + 1) k) (h3 : ¬ R (311 + 3 * j + 1 + 1)) : lfS s' j e P l r := by
  obtain ⟨a1, a2, a3, a4, c, b, a5, a6⟩ := h
  unfold lfS
  rw [f.1 _ _ (h1 1), f.1 _ _ (h1 0), f.1 _ _ (h1 8)]
  exact ⟨a1, a2, a3, a4, c, b, rst_co a5 f (h1 7) (h2 1) (h2 2) h3, a6⟩
theorem lfF_co {F : Nat → Nat → Prop} {R : Nat → Prop} {s s' : im_S} {j : Nat} (h : lfF s j) (f : gfr F R s s') (h1 : ∀ k, ¬ F (311 + 3 * j) k) : lfF s' j := by
  unfold lfF
  rw [f.1 _ _ (h1 1), f.1 _ _ (h1 3)]
  exact h
def stF (j c f : Nat) : Prop := c = 311 + 3 * j ∨ (c = 311 + 3 * j + 1 ∧ (f = 1 ∨ f = 2)) ∨ (c = 83 ∧ 13 ≤ f ∧ f ≤ 16) ∨ ((c = 551 ∨ c = 257) ∧ f = 0) ∨ (c = 84 ∧ f = 2) ∨ (86 ≤ c ∧ c < 246 ∧ f = 0) ∨ (555 ≤ c ∧ c ≤ 575 ∧ (f = 1 ∨ f = 2))
def stR (j c : Nat) : Prop := c = 311 + 3 * j + 1 + 1 ∨ c = 552 ∨ c = 250 ∨ c = 258 ∨ (87 ≤ c ∧ c ≤ 246) ∨ (556 ≤ c ∧ c ≤ 576)
def stf (j : Nat) (s s' : im_S) : Prop := gfr (stF j) (stR j) s s'
/-- what settle leaves -/
def sto (s s' : im_S) (j e n : Nat) (D : Int) (P : List Int) (l r : Rat) : Prop := (∃ lo hi mi ot, fq s' lo hi mi ot) ∧ psk n e s s' ∧ ((lfS s' j e P l r ∧ BI s' n D ∧ ply s' (86 + 2 * e) P) ∨ (lfF s' j ∧ ∃ n' P', n ≤ n' ∧ BI s' n' D ∧ ply s' (86 + 2 * e) P' ∧ ((∀ x : Rat, pev P x = pev P' x) ∨ ∃ a q : Int, 0 < q ∧ (∀ x : Rat, pev P x = (q * x - a) * pev P' x) ∧ l ≤ (a : Rat) / q ∧ (a : Rat) / q ≤ r)))
theorem sto_own {s s1 : im_S} {j e n : Nat} {D a q : Int} {P : List Int} {l r : Rat} {Q : im_S → Prop} (hj : j < 80) (hB : BI s1 n D) (hD : D ≤ 80) (he : e < n) (hP : ply s1 (86 + 2 * e) P) (hf : ∃ lo hi mi ot, fq s1 lo hi mi ot) (f1 : s1.1 (311 + 3 * j) 1 = 1) (ha : s1.1 (311 + 3 * j) 2 = a) (hq : s1.1 (311 + 3 * j) 3 = q) (q1 : 1 ≤ q) (q2 : q ≤ 1000000000) (a1 : a.natAbs ≤ 4611686018427387904) (h1 : l ≤ (a : Rat) / q) (h2 : (a : Rat) / q ≤ r) (g : stf j s s1) (ps : psk n e s s1) (hQ : ∀ s', sto s s' j e n D P l r → stf j s s' → Q s') : C_settle3_55 (311 + 3 * j) (e : Int) s1 Q := by
  have n80 := hB.2.1
  refine ⟨fun z => by rw [show cgf s1 (311 + 3 * j) 1 = 1 from f1] at z; omega, fun _ => ?_⟩
  obtain ⟨lo, hi, mi, ot, hfq⟩ := hf
  refine giveOwn_b hj hB hD he hP ha hq q1 q2 a1 (fun s2 K _ eK B2 K2 o2 k2 g2 => hQ s2 ⟨⟨lo, hi, mi, ot, fq_co hfq g2 (fun k => by unfold goF; omega)⟩, fun e' h1 h2 P hP => k2 e' h1 h2 P (ps e' h1 h2 P hP), Or.inr ⟨⟨by rw [g2.1 _ _ (by unfold goF; omega), f1]; decide, by rw [g2.1 _ _ (by unfold goF; omega), hq]; exact q1⟩, n + 1, K, by omega, B2, K2, Or.inr ⟨a, q, by omega, eK, h1, h2⟩⟩⟩ (gfr_trans g (gfr_mono g2 (fun c f e => by unfold goF at e; unfold stF; omega) (fun c e => by unfold goR at e; unfold stR; omega)))) (fun s2 _ B2 P2 o2 k2 g2 => hQ s2 ⟨⟨lo, hi, mi, ot, fq_co hfq g2 (fun k => by unfold goF; omega)⟩, fun e' h1 h2 P hP => k2 e' h1 h2 P (ps e' h1 h2 P hP), Or.inr ⟨⟨by rw [g2.1 _ _ (by unfold goF; omega), f1]; decide, by rw [g2.1 _ _ (by unfold goF; omega), hq]; exact q1⟩, n, P, Nat.le_refl _, B2, P2, Or.inl (fun x => rfl)⟩⟩ (gfr_trans g (gfr_mono g2 (fun c f e => by unfold goF at e; unfold stF; omega) (fun c e => by unfold goR at e; unfold stR; omega))))
theorem settle_b {s : im_S} {j e n d lo hi mi ot : Nat} {D : Int} {P : List Int} {l r : Rat} {Q : im_S → Prop} (hj : j < 80) (hB : BI s n D) (hD : D ≤ 80) (he : e < n) (hP : ply s (86 + 2 * e) P) (hd : s.1 (86 + 2 * e) 0 = (d : Int)) (hp : pat P) (hu : lfU s j P l r) (hf : fq s lo hi mi ot) (ho : big s 553 1) (hQ : ∀ s', sto s s' j e n D P l r → stf j s s' → Q s') : C_settle3 (311 + 3 * j) (e : Int) s Q := by
  obtain ⟨c, b, rt, el, er, f0, sg⟩ := hu
  obtain ⟨b1, b2, cb, rb, lp, lf⟩ := rt
  have n80 := hB.2.1
  have hP1 : pdb P (d + 1) := by have := hP.2.2.2.1; rw [hd, show ((d : Int) + 1).toNat = d + 1 by omega] at this; exact this
  have L0 : pgt P d ≠ 0 := by have := hP.2.2.2.2 (by omega); rw [hd, Int.toNat_natCast] at this; exact this
  intro s1 e1
  rw [Int.toNat_natCast]
  have f1 : gfr (fun c f => c = 311 + 3 * j ∧ f = 0) (fun _ => False) s s1 := by subst e1; exact gfr_pf (gfr_refl _ _ _) ⟨rfl, rfl⟩
  have g1 : stf j s s1 := gfr_mono f1 (fun c f e => by unfold stF; omega) (fun c e => e.elim)
  have o1 : s1.1 (311 + 3 * j) 0 = (e : Int) := by subst e1; exact cpf_same _ _ _ _
  have B1 : BI s1 n D := BI_co hB f1 (fun e he => by omega) (fun e he z => z) (by omega) (dI_co hB.2.2.2.2 f1 (by omega) (by omega))
  have P1 : ply s1 (86 + 2 * e) P := ply_fr hP f1 (by omega) (fun z => z)
  have d1 : s1.1 (86 + 2 * e) 0 = (d : Int) := by rw [f1.1 _ _ (by omega)]; exact hd
  have r1 : rst s1 j c b := ⟨by rw [f1.1 _ _ (by omega)]; exact rb, big_g lf f1 (by omega) (by omega) (fun z => z)⟩
  have k1 : psk n e s s1 := fun e' h1 h2 P hP => ply_fr hP f1 (by omega) (fun z => z)
  have cbd1 : cbd c b := by
    have e33 : (2 : Int) ^ (b + 33).toNat = 2 * 2 ^ (b + 32).toNat := by rw [← p2s]; congr 1; omega
    have := p2p (b + 32).toNat
    refine ⟨b1, by omega, ?_, ?_⟩ <;> rw [e33] <;> omega
  have fq1 : fq s1 lo hi mi ot := fq_co hf f1 (fun k => by omega)
  have one1 : big s1 553 1 := big_g ho f1 (by omega) (by omega) (fun z => z)
  have sg1 : pev P (xv c b) * pev P (xv (c + 1) b) < 0 := by rw [← el, ← er]; exact sg
  refine tighten_b hj P1 (by omega) (by omega) d1 (pat_b hp) r1 cbd1 (by rw [f1.1 _ _ (by omega)]; exact f0) (by rw [f1.1 _ _ (by omega), lp]; decide) (by rw [f1.1 _ _ (by omega), lp]; decide) fq1 one1 sg1 (fun s2 c2 b2' lo' hi' mi' ot' r2 cw2 bb2 _ b640 l21 l22 fq2 g2 to2 fin2 => ?_)
  have gg2 : stf j s s2 := gfr_trans g1 (gfr_mono g2 (fun c f e => by unfold tgF at e; unfold stF; omega) (fun c e => by unfold tgR at e; unfold stR; omega))
  have B2 : BI s2 n D := BI_co B1 g2 (fun e he => by unfold tgF; omega) (fun e he => by unfold tgR; omega) (by unfold tgF; omega) (dI_co B1.2.2.2.2 g2 (by unfold tgF; omega) (by unfold tgF; omega))
  have P2 : ply s2 (86 + 2 * e) P := ply_fr P1 g2 (by unfold tgF; omega) (by unfold tgR; omega)
  have d2 : s2.1 (86 + 2 * e) 0 = (d : Int) := by rw [g2.1 _ _ (by unfold tgF; omega)]; exact d1
  have k2 : psk n e s s2 := fun e' h1 h2 P hP => ply_fr (k1 e' h1 h2 P hP) g2 (by unfold tgF; omega) (by unfold tgR; omega)
  have o2 : s2.1 (311 + 3 * j) 0 = (e : Int) := by rw [g2.1 _ _ (by unfold tgF; omega)]; exact o1
  refine ⟨fun z => ?_, fun z => ?_⟩
  · -- no zero was met
    have z' : s2.1 (311 + 3 * j) 1 = 0 := z
    have b32 := fin2 (by rw [f1.1 _ _ (by omega)]; exact lp) z'
    obtain ⟨_, cbd2, sg2, in1, in2⟩ : s2.1 (311 + 3 * j) 1 = 0 ∧ cbd c2 b2' ∧ pev P (xv c2 b2') * pev P (xv (c2 + 1) b2') < 0 ∧ xv c b ≤ xv c2 b2' ∧ xv (c2 + 1) b2' ≤ xv (c + 1) b := by
      rcases to2 with q | q
      · rw [z'] at q; exact absurd q.1 (by decide)
      · exact q
    refine readParts_b (fun s3 w1 w2 w3 w4 f3 => ?_)
    have gg3 : stf j s s3 := gfr_trans gg2 (gfr_mono f3 (fun c f e => by unfold stF; omega) (fun c e => by unfold stR; omega))
    have B3 : BI s3 n D := BI_co B2 f3 (fun e he => by omega) (fun e he => by omega) (by omega) (dI_co B2.2.2.2.2 f3 (by omega) (by omega))
    have P3 : ply s3 (86 + 2 * e) P := ply_fr P2 f3 (by omega) (by omega)
    have d3 : s3.1 (86 + 2 * e) 0 = (d : Int) := by rw [f3.1 _ _ (by omega)]; exact d2
    have k3 : psk n e s s3 := fun e' h1 h2 P hP => ply_fr (k2 e' h1 h2 P hP) f3 (by omega) (by omega)
    have r3 : rst s3 j c2 b2' := rst_co r2 f3 (by omega) (by omega) (by omega) (by omega)
    have fq3 : fq s3 lo' hi' mi' ot' := fq_co fq2 f3 (fun k => by omega)
    refine tryFraction_b hj P3 (by omega) (by omega) d3 hp r3 cbd2 (by omega) w1 w2 w3 w4 (fun s4 q1 q2 q3 f4 => ?_) (fun s4 a q q1 q2 q3 q4 q5 q6 q7 q8 f4 => ?_)
    · have gg4 : stf j s s4 := gfr_trans gg3 (gfr_mono f4 (fun c f e => by unfold tfF at e; unfold stF; omega) (fun c e => by unfold tfW at e; unfold stR; omega))
      have f40 : s4.1 (311 + 3 * j) 1 = 0 := by rw [q1, f3.1 _ _ (by omega)]; exact z'
      refine ⟨fun _ => hQ s4 ⟨⟨lo', hi', mi', ot', fq_co fq3 f4 (fun k => by unfold tfF; omega)⟩, fun e' h1 h2 P hP => ply_fr (k3 e' h1 h2 P hP) f4 (by unfold tfF; omega) (by unfold tfW; omega), Or.inl ⟨⟨f40, ?_, ?_, ?_, c2, b2', rst_co r3 f4 (by unfold tfF; omega) (by unfold tfF; omega) (by unfold tfF; omega) (by unfold tfW; omega), cbd2, by omega, sg2, by rw [el]; exact in1, by rw [er]; exact in2⟩, ?_, ply_fr P3 f4 (by unfold tfF; omega) (by unfold tfW; omega)⟩⟩ gg4, fun w => absurd f40 w⟩
      · rw [f4.1 _ _ (by unfold tfF; omega), f3.1 _ _ (by omega)]; exact o2
      · rw [f4.1 _ _ (by unfold tfF; omega), f3.1 _ _ (by omega)]; exact l21
      · rw [f4.1 _ _ (by unfold tfF; omega), f3.1 _ _ (by omega)]; exact l22
      · exact BI_co B3 f4 (fun e he => by unfold tfF; omega) (fun e he => by unfold tfW; omega) (by unfold tfF; omega) (dI_co B3.2.2.2.2 f4 (by unfold tfF; omega) (by unfold tfF; omega))
    · have gg4 : stf j s s4 := gfr_trans gg3 (gfr_mono f4 (fun c f e => by unfold tfF at e; unfold stF; omega) (fun c e => by unfold tfW at e; unfold stR; omega))
      have B4 := BI_co B3 f4 (fun e he => by unfold tfF; omega) (fun e he => by unfold tfW; omega) (by unfold tfF; omega) (dI_co B3.2.2.2.2 f4 (by unfold tfF; omega) (by unfold tfF; omega))
      exact sto_own hj B4 hD he (ply_fr P3 f4 (by unfold tfF; omega) (by unfold tfW; omega)) ⟨lo', hi', mi', ot', fq_co fq3 f4 (fun k => by unfold tfF; omega)⟩ q1 q2 q3 q4 q5 q6 (by rw [el]; grind) (by rw [er]; grind) gg4 (fun e' h1 h2 P hP => ply_fr (k3 e' h1 h2 P hP) f4 (by unfold tfF; omega) (by unfold tfW; omega)) hQ
  · -- a zero
    obtain ⟨z1, z2, z3, z4⟩ : s2.1 (311 + 3 * j) 1 = 1 ∧ pev P (xv c2 b2') = 0 ∧ xv c b ≤ xv c2 b2' ∧ xv c2 b2' ≤ xv (c + 1) b := by
      rcases to2 with q | q
      · exact q
      · exact absurd q.1 z
    refine readBinary_b hj r2 cw2 (by omega) b640 hp hP1 L0 z2 (fun s3 a q q1 q2 q3 q4 q5 q6 q7 q8 f3 => ?_)
    have gg3 : stf j s s3 := gfr_trans gg2 (gfr_mono f3 (fun c f e => by unfold rbF at e; unfold stF; omega) (fun c e => by unfold stR; omega))
    have B3 := BI_co B2 f3 (fun e he => by unfold rbF; omega) (fun e he => by omega) (by unfold rbF; omega) (dI_co B2.2.2.2.2 f3 (by unfold rbF; omega) (by unfold rbF; omega))
    have qr : (0 : Rat) < q := by
      have : ((0 : Int) : Rat) < (q : Rat) := Rat.intCast_lt_intCast.2 (by omega)
      exact this
    have az : (a : Rat) / q = xv c2 b2' := by grind
    exact sto_own hj B3 hD he (ply_fr P2 f3 (by unfold rbF; omega) (by omega)) ⟨lo', hi', mi', ot', fq_co fq2 f3 (fun k => by unfold rbF; omega)⟩ q1 q2 q3 q4 (by omega) q6 (by rw [az, el]; exact z3) (by rw [az, er]; exact z4) gg3 (fun e' h1 h2 P hP => ply_fr (k2 e' h1 h2 P hP) f3 (by unfold rbF; omega) (by omega)) hQ
