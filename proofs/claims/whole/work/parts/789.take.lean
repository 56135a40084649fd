/-! take, tighten -/
def rst (s : im_S) (j : Nat) (c b : Int) : Prop := s.1 (311 + 3 * j) 7 = b ∧ big s (311 + 3 * j + 1) c
def cbd (c b : Int) : Prop := -32 ≤ b ∧ b ≤ 640 ∧ -(2 ^ (b + 33).toNat) ≤ c ∧ c + 1 ≤ 2 ^ (b + 33).toNat
def tgF (j c f : Nat) : Prop := (c = 311 + 3 * j ∧ (f = 1 ∨ f = 7 ∨ f = 8)) ∨ (c = 311 + 3 * j + 1 ∧ (f = 1 ∨ f = 2)) ∨ (c = 83 ∧ 13 ≤ f ∧ f ≤ 16) ∨ ((555 ≤ c ∧ c ≤ 575) ∧ (f = 1 ∨ f = 2))
def tgR (j c : Nat) : Prop := c = 311 + 3 * j + 1 + 1 ∨ (556 ≤ c ∧ c ≤ 576)
def tgf (j : Nat) (s s' : im_S) : Prop := gfr (tgF j) (tgR j) s s'
theorem svf_tgf {j v : Nat} {s s' : im_S} (hv : v4 v) (h : svf v s s') : tgf j s s' := by
  unfold v4 at hv
  exact gfr_mono h (fun c f e => by unfold tgF; omega) (fun c e => by unfold tgR; omega)
theorem gjf_tgf {j : Nat} {s s' : im_S} (h : gjf s s') : tgf j s s' := gfr_mono h (fun c f e => by unfold tgF; omega) (fun c e => by unfold tgR; omega)
theorem W24_eq : W24 = 4294967296 ^ 24 := rfl
theorem v4_r {v : Nat} (h : v4 v) : 569 ≤ v ∧ v ≤ 575 := by
  unfold v4 at h; omega
theorem take_b {s : im_S} {j lo hi mi ot : Nat} {c b lp wl wm wo pr ed f9 : Int} {Q : im_S → Prop} (hj : j < 80) (hr : rst s j c b) (hf : fq s lo hi mi ot) (hl : big s lo wl) (hm : big s mi wm) (ho : big s ot wo) (hp : big s 555 pr) (he : big s 557 ed) (pb : (pr.natAbs : Int) < W24) (eb : (ed.natAbs : Int) < W24) (f01 : f9 = 0 ∨ f9 = 1) (l1 : 1 ≤ lp) (l2 : lp ≤ 1000) (b1 : -1000 ≤ b) (b2 : b ≤ 1000)
  (hit : (wm = 0 ∨ wo = 0) → ∀ s' lo' hi' mi' ot', rst s' j (if wm = 0 then pr else ed) (b + lp) → s'.1 (311 + 3 * j) 1 = 1 → s'.1 (311 + 3 * j) 8 = 2 * lp → fq s' lo' hi' mi' ot' → tgf j s s' → Q s')
  (good : wm ≠ 0 → wo ≠ 0 → (f9 = 1 ↔ wo.sign ≠ wl.sign) → ∀ s', rst s' j (if f9 = 1 then pr else ed) (b + lp) → s'.1 (311 + 3 * j) 1 = 0 → s'.1 (311 + 3 * j) 8 = 2 * lp → fq s' (if f9 = 1 then mi else ot) (if f9 = 1 then ot else mi) lo hi → big s' mi wm → big s' ot wo → tgf j s s' → Q s')
  (bad : wm ≠ 0 → wo ≠ 0 → ¬ (f9 = 1 ↔ wo.sign ≠ wl.sign) → ∀ s', (∀ x y, ¬ (x = 311 + 3 * j ∧ y = 8) → s'.1 x y = s.1 x y) → s'.2 = s.2 → s'.1 (311 + 3 * j) 8 = max 1 (lp / 2) → tgf j s s' → Q s') : C_take3 (311 + 3 * j) lp f9 s Q := by
  obtain ⟨r1, r2, r3, r4⟩ := fq_r hf
  obtain ⟨⟨q1, q2, q3, q4⟩, ⟨w1, w2, w3, w4⟩, n1, n2, n3, n4, n5, n6⟩ := hf
  have mm := big_mk hm
  have mo := big_mk ho
  have ml := big_mk hl
  have sz : ∀ w : Int, w.sign = 0 ↔ w = 0 := fun w => Int.sign_eq_zero_iff_zero
  have u1 : 569 ≤ lo ∧ lo ≤ 575 := v4_r w1
  have u2 : 569 ≤ hi ∧ hi ≤ 575 := v4_r w2
  have u3 : 569 ≤ mi ∧ mi ≤ 575 := v4_r w3
  have u4 : 569 ≤ ot ∧ ot ≤ 575 := v4_r w4
  intro v ev g eg
  rw [r3, r4, show cgf s mi 2 = wm.sign from mm, show cgf s ot 2 = wo.sign from mo] at ev
  rw [r4, r1, show cgf s ot 2 = wo.sign from mo, show cgf s lo 2 = wl.sign from ml] at eg
  -- a good step
  have v01 : v = 0 ∨ v = 1 := by
    rw [ev]
    split
    · exact Or.inr rfl
    · split
      · exact Or.inl rfl
      · exact Or.inr rfl
  have go : g ≠ 0 → C_take3_84 (311 + 3 * j) lp f9 v g (w32 (lp * 2)) s Q := by
    intro g0
    intro s1 e1
    refine ⟨fun _ s2 e2 s3 e3 v6 ev6 v8 ev8 => ?_, fun z => absurd z g0⟩
    rw [w32_id (x := lp * 2) (by omega) (by omega)] at e1
    have g1 : tgf j s s1 := by subst e1; exact gfr_pf (gfr_refl _ _ _) (by unfold tgF; omega)
    have b7 : cgf s1 (311 + 3 * j) 7 = b := by subst e1; show (cpf _ _ _ _).1 _ _ = _; rw [cpf_ne (by omega)]; exact hr.1
    rw [b7, w32_id (x := b + lp) (by omega) (by omega)] at e2
    have g3 : tgf j s s3 := by subst e2; subst e3; exact gfr_pf (gfr_pf g1 (by unfold tgF; omega)) (by unfold tgF; omega)
    have same3 : ∀ x y, ¬ (x = 311 + 3 * j) → s3.1 x y = s.1 x y := fun x y h => by subst e3; subst e2; subst e1; rw [cpf_ne (by omega), cpf_ne (by omega), cpf_ne (by omega)]
    have row3 : s3.2 = s.2 := by subst e3; subst e2; subst e1; rfl
    have c3 : ∀ (x : Nat) (w : Int), x ≠ 311 + 3 * j → big s x w → big s3 x w := fun x w h hb => big_co hb (same3 _ _ h) (same3 _ _ h) (by rw [row3])
    have f3 : s3.1 (311 + 3 * j) 1 = v := by subst e3; exact cpf_same _ _ _ _
    have f7 : s3.1 (311 + 3 * j) 7 = b + lp := by subst e3; rw [cpf_ne (by omega)]; subst e2; exact cpf_same _ _ _ _
    have f8 : s3.1 (311 + 3 * j) 8 = lp * 2 := by subst e3; rw [cpf_ne (by omega)]; subst e2; rw [cpf_ne (by omega)]; subst e1; exact cpf_same _ _ _ _
    have r5 : crf s3 83 15 = mi := by unfold crf; rw [same3 _ _ (by omega), q3]; rfl
    rw [r5, show cgf s3 mi 2 = wm.sign by show s3.1 mi 2 = _; rw [same3 _ _ (by omega)]; exact mm] at ev6
    -- the point that is taken
    have pt : ∃ w, big s3 v8 w ∧ (w.natAbs : Int) < W24 ∧ (v8 = 555 ∨ v8 = 557) ∧ (v ≠ 0 → w = if wm = 0 then pr else ed) ∧ (v = 0 → w = if f9 = 1 then pr else ed) := by
      by_cases v0 : v = 0
      · rw [if_pos v0] at ev6
        rcases f01 with q | q
        · rw [ev6, q, if_pos rfl] at ev8
          exact ⟨ed, by rw [ev8]; exact c3 _ _ (by omega) he, eb, Or.inr ev8, fun h => absurd v0 h, fun _ => by rw [if_neg (by omega)]⟩
        · rw [ev6, q, if_neg (by decide)] at ev8
          exact ⟨pr, by rw [ev8]; exact c3 _ _ (by omega) hp, pb, Or.inl ev8, fun h => absurd v0 h, fun _ => by rw [if_pos q]⟩
      · rw [if_neg v0] at ev6
        by_cases m0 : wm = 0
        · rw [if_neg (by rw [sz]; exact fun h => h m0)] at ev6
          rw [ev6, if_neg (by decide)] at ev8
          exact ⟨pr, by rw [ev8]; exact c3 _ _ (by omega) hp, pb, Or.inl ev8, fun _ => by rw [if_pos m0], fun h => absurd h v0⟩
        · rw [if_pos (by rw [sz]; exact m0)] at ev6
          rw [ev6, if_pos rfl] at ev8
          exact ⟨ed, by rw [ev8]; exact c3 _ _ (by omega) he, eb, Or.inr ev8, fun _ => by rw [if_neg m0], fun h => absurd h v0⟩
    obtain ⟨w, hw, wb, v8c, hw1, hw2⟩ := pt
    refine copy_b hw (by omega) (by rw [rm_rtt hj, ← W24_eq]; exact wb) (by rw [gln_rt j hj]; decide) (fun s4 h4 f4 => ?_)
    intro v12 e12 s5 e5 v15 e15 s6 e6 s7 e7 s8 e8
    have g4 : tgf j s s4 := gfr_b g3 f4 (by unfold tgF; omega) (by unfold tgF; omega) (by unfold tgR; omega)
    have same4 : ∀ y, s4.1 83 y = s.1 83 y := fun y => by rw [f4.1 _ _ (by omega), same3 _ _ (by omega)]
    have k13 : crf s4 83 13 = lo := by unfold crf; rw [same4, q1]; rfl
    have k14 : crf s4 83 14 = hi := by unfold crf; rw [same4, q2]; rfl
    have k15 : crf s4 83 15 = mi := by unfold crf; rw [same4, q3]; rfl
    have k16 : crf s4 83 16 = ot := by unfold crf; rw [same4, q4]; rfl
    rw [k16, k15] at e12
    have k15' : crf s5 83 15 = mi := by subst e5; unfold crf; rw [cpf_ne (by omega)]; exact k15
    have k16' : crf s5 83 16 = ot := by subst e5; unfold crf; rw [cpf_ne (by omega)]; exact k16
    rw [k15', k16'] at e15
    rw [k13] at e7
    rw [k14] at e8
    have g8 : tgf j s s8 := by
      subst e5; subst e6; subst e7; subst e8
      exact gfr_pf (gfr_pf (gfr_pf (gfr_pf g4 (by unfold tgF; omega)) (by unfold tgF; omega)) (by unfold tgF; omega)) (by unfold tgF; omega)
    have same8 : ∀ x y, x ≠ 83 → s8.1 x y = s4.1 x y := fun x y h => by
      subst e5; subst e6; subst e7; subst e8
      rw [cpf_ne (by omega), cpf_ne (by omega), cpf_ne (by omega), cpf_ne (by omega)]
    have row8 : s8.2 = s4.2 := by subst e5; subst e6; subst e7; subst e8; rfl
    have v12' : v12 = if f9 = 1 then mi else ot := by
      rw [e12]
      rcases f01 with q | q
      · rw [if_pos q, if_neg (by omega)]
      · rw [if_neg (by omega), if_pos q]
    have v15' : v15 = if f9 = 1 then ot else mi := by
      rw [e15]
      rcases f01 with q | q
      · rw [if_pos q, if_neg (by omega)]
      · rw [if_neg (by omega), if_pos q]
    have fq8 : fq s8 v12 v15 lo hi := by
      refine ⟨⟨?_, ?_, ?_, ?_⟩, ?_⟩
      · subst e5; subst e6; subst e7; subst e8
        rw [cpf_ne (by omega), cpf_ne (by omega), cpf_ne (by omega), cpf_same]
      · subst e5; subst e6; subst e7; subst e8
        rw [cpf_ne (by omega), cpf_ne (by omega), cpf_same]
      · subst e5; subst e6; subst e7; subst e8
        rw [cpf_ne (by omega), cpf_same]
      · subst e8; rw [cpf_same]
      · rw [v12', v15']
        rcases f01 with q | q
        · rw [if_neg (by omega), if_neg (by omega)]
          exact ⟨⟨w4, w3, w1, w2⟩, Ne.symm n6, Ne.symm n3, Ne.symm n5, Ne.symm n2, Ne.symm n4, n1⟩
        · rw [if_pos q, if_pos q]
          exact ⟨⟨w3, w4, w1, w2⟩, n6, Ne.symm n2, Ne.symm n4, Ne.symm n3, Ne.symm n5, n1⟩
    have rs8 : rst s8 j w (b + lp) := ⟨by rw [same8 _ _ (by omega), f4.1 _ _ (by omega)]; exact f7, big_co h4 (same8 _ _ (by omega)) (same8 _ _ (by omega)) (by rw [row8])⟩
    have l8 : s8.1 (311 + 3 * j) 8 = 2 * lp := by rw [same8 _ _ (by omega), f4.1 _ _ (by omega), f8]; omega
    have fr8 : s8.1 (311 + 3 * j) 1 = v := by rw [same8 _ _ (by omega), f4.1 _ _ (by omega)]; exact f3
    have cv : ∀ (x : Nat) (y : Int), (569 ≤ x ∧ x ≤ 575) → big s x y → big s8 x y := fun x y hx hb => by
      have h3 := c3 x y (by omega) hb
      have h4' := big_fr h3 f4 (by omega)
      exact big_co h4' (same8 _ _ (by omega)) (same8 _ _ (by omega)) (by rw [row8])
    by_cases v0 : v = 0
    · rw [hw2 v0] at rs8
      have wm0 : wm ≠ 0 := fun h => by rw [if_pos (by rw [sz]; exact h)] at ev; omega
      rw [if_neg (by rw [sz]; exact wm0)] at ev
      have wo0 : wo ≠ 0 := fun h => by rw [if_neg (by rw [sz]; exact fun k => k h)] at ev; omega
      rw [if_neg (fun h => h v0)] at eg
      have iff : f9 = 1 ↔ wo.sign ≠ wl.sign := by
        by_cases es : wo.sign = wl.sign
        · rw [if_pos es] at eg
          rcases f01 with q | q
          · exact ⟨fun h => by omega, fun h => absurd es h⟩
          · rw [if_pos (by omega)] at eg; omega
        · rw [if_neg es] at eg
          rcases f01 with q | q
          · rw [if_pos (by omega)] at eg; omega
          · exact ⟨fun _ => es, fun _ => q⟩
      rw [v12', v15'] at fq8
      exact good wm0 wo0 iff s8 rs8 (by rw [fr8]; exact v0) l8 fq8 (cv _ _ u3 hm) (cv _ _ u4 ho) g8
    · have v1 : v = 1 := by
        rcases v01 with q | q
        · exact absurd q v0
        · exact q
      rw [hw1 v0] at rs8
      refine hit ?_ s8 _ _ _ _ rs8 (by rw [fr8]; exact v1) l8 fq8 g8
      by_cases m0 : wm = 0
      · exact Or.inl m0
      · rw [if_neg (by rw [sz]; exact m0)] at ev
        refine Or.inr (Classical.byContradiction fun o0 => ?_)
        rw [if_pos (by rw [sz]; exact o0)] at ev
        omega
  refine ⟨fun g0 => max_J ?_, fun g0 => go g0⟩
  intro s1 e1
  refine ⟨fun z => absurd g0 z, fun _ => ?_⟩
  have v0 : v = 0 := Classical.byContradiction fun h => by rw [if_pos h] at eg; omega
  have wm0 : wm ≠ 0 := fun h => by rw [if_pos (by rw [sz]; exact h)] at ev; omega
  rw [if_neg (by rw [sz]; exact wm0)] at ev
  have wo0 : wo ≠ 0 := fun h => by rw [if_neg (by rw [sz]; exact fun k => k h)] at ev; omega
  rw [if_neg (fun h => h v0)] at eg
  have niff : ¬ (f9 = 1 ↔ wo.sign ≠ wl.sign) := fun iff => by
    by_cases es : wo.sign = wl.sign
    · rw [if_pos es] at eg
      have : f9 ≠ 1 := fun h => iff.1 h es
      rw [if_neg (by omega)] at eg
      omega
    · rw [if_neg es] at eg
      have : f9 = 1 := iff.2 es
      rw [if_neg (by omega)] at eg
      omega
  have ed2 : divI lp 2 = lp / 2 := by
    rw [divI_eq (by omega) (by omega) (by decide) (by decide), Int.tdiv_eq_ediv_of_nonneg (by omega)]
  rw [ed2] at e1
  subst e1
  exact bad wm0 wo0 niff _ (fun x y h => cpf_ne h) rfl (cpf_same _ _ _ _) (gfr_pf (gfr_refl _ _ _) (by unfold tgF; omega))
