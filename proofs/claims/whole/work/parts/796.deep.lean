/-! compareDeeply, compareQuickly -/
/-- a root that is a fraction, or lies well in its piece -/
def rgo (s : im_S) (n i : Nat) : Prop := lfF s i ∨ ∃ e P l r, e < n ∧ ply s (86 + 2 * e) P ∧ pat P ∧ lfS s i e P l r
theorem rgo_co {F : Nat → Nat → Prop} {R : Nat → Prop} {s s' : im_S} {n i : Nat} (h : rgo s n i) (f : gfr F R s s') (h1 : ∀ k, ¬ F (311 + 3 * i) k) (h2 : ∀ k, ¬ F (311 + 3 * i + 1) k) (h3 : ¬ R (311 + 3 * i + 1 + 1)) (h4 : ∀ e, e < n → ¬ F (86 + 2 * e) 0) (h5 : ∀ e, e < n → ¬ R (86 + 2 * e + 1)) : rgo s' n i := by
  rcases h with h | ⟨e, P, l, r, a1, a2, a3, a4⟩
  · exact Or.inl (lfF_co h f h1)
  · exact Or.inr ⟨e, P, l, r, a1, ply_fr a2 f (h4 e a1) (h5 e a1), a3, lfS_co a4 f h1 h2 h3⟩
def cdF (N c f : Nat) : Prop := (311 ≤ c ∧ c < 311 + 3 * N ∧ ((c % 3 = 2 ∧ (f = 1 ∨ f = 7 ∨ f = 8)) ∨ (c % 3 = 0 ∧ (f = 1 ∨ f = 2)))) ∨ (c = 83 ∧ 13 ≤ f ∧ f ≤ 16) ∨ (555 ≤ c ∧ c ≤ 575 ∧ (f = 1 ∨ f = 2))
def cdR (N c : Nat) : Prop := (311 ≤ c ∧ c < 311 + 3 * N ∧ c % 3 = 1) ∨ (556 ≤ c ∧ c ≤ 576)
def cdf (N : Nat) (s s' : im_S) : Prop := gfr (cdF N) (cdR N) s s'
/-- only numbers to reckon with have changed -/
def wkf (s s' : im_S) : Prop := gfr (fun c f => 555 ≤ c ∧ c ≤ 575 ∧ (f = 1 ∨ f = 2)) (fun c => 556 ≤ c ∧ c ≤ 576) s s'
theorem wkf_b {s s' s2 : im_S} {a : Nat} (h : wkf s s') (hb : bfr a s' s2) (h1 : 555 ≤ a) (h2 : a ≤ 575) : wkf s s2 := gfr_b h hb (by omega) (by omega) (by omega)
theorem wkf_cdf {N : Nat} {s s' : im_S} (h : wkf s s') : cdf N s s' := gfr_mono h (fun c f e => by unfold cdF; omega) (fun c e => by unfold cdR; omega)
theorem tgf_cdf {N j : Nat} {s s' : im_S} (h : tgf j s s') (hj : j < N) : cdf N s s' := gfr_mono h (fun c f e => by unfold tgF at e; unfold cdF; omega) (fun c e => by unfold tgR at e; unfold cdR; omega)
theorem tighten_fr {r p : Nat} {wt : Int} {s : im_S} {Q : im_S → Prop} (h : s.1 r 1 ≠ 0) (hQ : Q s) : C_tighten3 r p wt s Q := min_J ⟨fun _ => hQ, fun z => absurd z h⟩
/-- no zero at a binary point well within -/
theorem no_hit {P : List Int} {d : Nat} {c b c' b' : Int} (hp : pat P) (hP : pdb P (d + 1)) (hL : pgt P d ≠ 0) (b32 : 32 ≤ b) (bb : b ≤ b') (sg : sgn P (xv c b) (xv (c + 1) b)) (h0 : pev P (xv c' b') = 0) (h1 : xv c b ≤ xv c' b') (h2 : xv c' b' ≤ xv (c + 1) b) : False := by
  obtain ⟨e, p, e1, e2, e3⟩ := dyad b'.toNat c'
  have hz := xv_dy (c := c') (p := p) (b := b') (e := e) (by omega) e2
  have e29 := zero_e hp hP hL e3 hz h0
  have n1 : xv c b ≠ xv c' b' := fun z => by
    unfold sgn at sg
    rw [z, h0, Rat.zero_mul] at sg
    grind
  have n2 : xv c' b' ≠ xv (c + 1) b := fun z => by
    unfold sgn at sg
    rw [← z, h0, Rat.mul_zero] at sg
    grind
  have ev : xv c' b' = xv (p * 2 ^ (b.toNat - e)) b := by
    have x1 := xv_pow p (e : Int) (b.toNat - e)
    rw [show (e : Int) + ((b.toNat - e : Nat) : Int) = b by omega] at x1
    rw [x1]
    have x2 := xv_pow p (e : Int) (b'.toNat - e)
    rw [← e2, show (e : Int) + ((b'.toNat - e : Nat) : Int) = b' by omega] at x2
    exact x2
  rw [ev] at h1 h2 n1 n2
  generalize p * 2 ^ (b.toNat - e) = t at h1 h2 n1 n2
  rcases Int.lt_trichotomy t c with q | q | q
  · have := xv_le b (show t + 1 ≤ c by omega)
    have := xv_lt t b
    grind
  · subst q; exact n1 rfl
  · rcases Int.lt_trichotomy t (c + 1) with w | w | w
    · omega
    · subst w; exact n2 rfl
    · have := xv_le b (show c + 1 + 1 ≤ t by omega)
      have := xv_lt (c + 1) b
      grind
/-- tighten on a root that solve has left -/
theorem tighten_g {s : im_S} {n N i : Nat} {D wt : Int} {Q : im_S → Prop} (hB : BI s n D) (hN : N ≤ 80) (hi : i < N) (hr : ∀ k, k < N → rgo s n k) (hf : ∃ lo hi mi ot, fq s lo hi mi ot) (ho : big s 553 1) (hQ : ∀ s', (∀ k, k < N → rgo s' n k) → BI s' n D → (∃ lo hi mi ot, fq s' lo hi mi ot) → cdf N s s' → Q s') : C_tighten3 (311 + 3 * i) (86 + 2 * (cgf s (311 + 3 * i) 0).toNat) wt s Q := by
  have n80 := hB.2.1
  rcases hr i hi with h | ⟨e, P, l, r, he, hP, hp, hl⟩
  · exact tighten_fr h.1 (hQ s hr hB hf (gfr_refl _ _ _))
  · obtain ⟨f0, ow, l1, l2, c, b, rs, cb, b32, sg, in1, in2⟩ := hl
    obtain ⟨lo, hi', mi, ot, fq0⟩ := hf
    obtain ⟨d, hd⟩ : ∃ d : Nat, s.1 (86 + 2 * e) 0 = (d : Int) := ⟨(s.1 (86 + 2 * e) 0).toNat, by have := dgo_0 hP.2 (pat_0 hp); omega⟩
    have hP1 : pdb P (d + 1) := by have := hP.2.2.2.1; rw [hd, show ((d : Int) + 1).toNat = d + 1 by omega] at this; exact this
    have L0 : pgt P d ≠ 0 := by have := hP.2.2.2.2 (by omega); rw [hd, Int.toNat_natCast] at this; exact this
    rw [show cgf s (311 + 3 * i) 0 = (e : Int) from ow, Int.toNat_natCast]
    refine tighten_b (by omega) hP (by omega) (by omega) hd (pat_b hp) rs cb f0 l1 l2 fq0 ho sg (fun s2 c2 b2 lo2 hi2 mi2 ot2 r2 cw2 bb2 _ b640 l21 l22 fq2 g2 to2 _ => ?_)
    refine hQ s2 (fun k hk => ?_) (BI_co hB g2 (fun e he => by unfold tgF; omega) (fun e he => by unfold tgR; omega) (by unfold tgF; omega) (dI_co hB.2.2.2.2 g2 (by unfold tgF; omega) (by unfold tgF; omega))) ⟨lo2, hi2, mi2, ot2, fq2⟩ (tgf_cdf g2 hi)
    by_cases ck : k = i
    · subst ck
      rcases to2 with ⟨_, z0, z1, z2⟩ | ⟨q1, q2, q3, q4, q5⟩
      · exact (no_hit hp hP1 L0 b32 bb2 sg z0 z1 z2).elim
      · right
        refine ⟨e, P, l, r, he, ply_fr hP g2 (by unfold tgF; omega) (by unfold tgR; omega), hp, q1, ?_, l21, l22, c2, b2, r2, q2, by omega, q3, ?_, ?_⟩
        · rw [g2.1 _ _ (by unfold tgF; omega)]; exact ow
        · grind
        · grind
    · exact rgo_co (hr k hk) g2 (fun k => by unfold tgF; omega) (fun k => by unfold tgF; omega) (by unfold tgR; omega) (fun e he => by unfold tgF; omega) (fun e he => by unfold tgR; omega)
theorem deeply_b {s : im_S} {n N ia ib : Nat} {D : Int} {Q : Int → im_S → Prop} (hB : BI s n D) (hN : N ≤ 80) (ha : ia < N) (hb : ib < N) (hr : ∀ k, k < N → rgo s n k) (hf : ∃ lo hi mi ot, fq s lo hi mi ot) (ho : big s 553 1) (hQ : ∀ z s', (∀ k, k < N → rgo s' n k) → BI s' n D → (∃ lo hi mi ot, fq s' lo hi mi ot) → cdf N s s' → Q z s') : C_compareDeeply3 (311 + 3 * ia) (311 + 3 * ib) s Q := by
  have n80 := hB.2.1
  refine ⟨fun a => (∀ k, k < N → rgo a.2 n k) ∧ BI a.2 n D ∧ (∃ lo hi mi ot, fq a.2 lo hi mi ot) ∧ cdf N s a.2, ⟨hr, hB, hf, gfr_refl _ _ _⟩, ?_⟩
  rintro ⟨x, s1⟩ ⟨r1, B1, f1, g1⟩
  dsimp only at r1 B1 f1 g1 ⊢
  refine ⟨fun _ => hQ _ s1 r1 B1 f1 g1, fun _ v _ wi ew th et => copy_f (fun s2 f2 => shiftUp_f (fun s3 f3 => copy_f (fun s4 f4 => add_f (fun s5 f5 => ?_))))⟩
  have w5 : wkf s1 s5 := wkf_b (wkf_b (wkf_b (wkf_b (gfr_refl _ _ _) f2 (by omega) (by omega)) f3 (by omega) (by omega)) f4 (by omega) (by omega)) f5 (by omega) (by omega)
  have g5 : cdf N s s5 := gfr_trans g1 (wkf_cdf w5)
  have r5 : ∀ k, k < N → rgo s5 n k := fun k hk => rgo_co (r1 k hk) w5 (fun k => by omega) (fun k => by omega) (by omega) (fun e he => by omega) (fun e he => by omega)
  have B5 : BI s5 n D := BI_co B1 w5 (fun e he => by omega) (fun e he => by omega) (by omega) (dI_co B1.2.2.2.2 w5 (by omega) (by omega))
  have f5' : ∃ lo hi mi ot, fq s5 lo hi mi ot := by
    obtain ⟨lo, hi, mi, ot, h⟩ := f1
    exact ⟨lo, hi, mi, ot, fq_co h w5 (fun k => by omega)⟩
  have o5 : big s5 553 1 := big_g ho g5 (by unfold cdF; omega) (by unfold cdF; omega) (by unfold cdR; omega)
  refine ⟨fun _ => bits_f (fun z => ⟨fun _ v _ => hQ _ s5 r5 B5 f5' g5, fun _ => ⟨fun _ => ?_, fun _ v _ => hQ _ s5 r5 B5 f5' g5⟩⟩), fun _ v _ => hQ _ s5 r5 B5 f5' g5⟩
  obtain ⟨iw, hw, hi⟩ : ∃ iw, wi = 311 + 3 * iw ∧ iw < N := by
    rw [ew]
    split
    · exact ⟨ib, rfl, hb⟩
    · exact ⟨ia, rfl, ha⟩
  subst hw
  exact tighten_g B5 hN hi r5 f5' o5 (fun s6 r6 B6 f6 g6 => ⟨r6, B6, f6, gfr_trans g5 g6⟩)
/-! compareQuickly: only numbers to reckon with -/
theorem sideOf_f {r : Nat} {a q : Int} {s : im_S} {Q : Int → im_S → Prop} (hQ : ∀ z s', wkf s s' → Q z s') : C_sideOf3 r a q s Q := by
  refine set_f (fun s1 f1 => shiftUp_f (fun s2 f2 => set_f (fun s3 f3 => setProduct_f (fun s4 f4 => add_f (fun s5 f5 => ?_)))))
  have w5 : wkf s s5 := wkf_b (wkf_b (wkf_b (wkf_b (wkf_b (gfr_refl _ _ _) f1 (by omega) (by omega)) f2 (by omega) (by omega)) f3 (by omega) (by omega)) f4 (by omega) (by omega)) f5 (by omega) (by omega)
  exact ⟨fun _ => add_f (fun s6 f6 v _ => hQ _ s6 (wkf_b w5 f6 (by omega) (by omega))), fun _ => hQ _ s5 w5⟩
theorem lead_f {a : Nat} {s : im_S} {Q : Int → im_S → Prop} (h : ∀ z, Q z s) : C_lead6 a s Q := fun v _ => h v
theorem signAt_f {p : Nat} {a q : Int} {s : im_S} {Q : Int → im_S → Prop} (hf : ∃ lo hi mi ot, fq s lo hi mi ot) (hQ : ∀ z s', wkf s s' → Q z s') : C_signAtFraction3 p a q s Q := by
  obtain ⟨lo, hi, mi, ot, h⟩ := hf
  have u := v4_r h.2.1.2.2.2
  refine set_f (fun s1 f1 => set_f (fun s2 f2 => set_f (fun s3 f3 => lead_f (fun z => ?_))))
  have w3 : wkf s s3 := wkf_b (wkf_b (wkf_b (gfr_refl _ _ _) f1 (by omega) (by omega)) f2 (by omega) (by omega)) f3 (by omega) (by omega)
  have c3 : crf s3 83 16 = ot := (fq_r (fq_co h w3 (fun k => by omega))).2.2.2
  rw [c3]
  refine set_f (fun s4 f4 => ?_)
  refine ⟨fun b => wkf s b.2, wkf_b w3 f4 (by omega) (by omega), ?_⟩
  rintro ⟨x, s5⟩ w5
  dsimp only at w5 ⊢
  have cr : ∀ s', wkf s s' → crf s' 83 16 = ot := fun s' w => (fq_r (fq_co h w (fun k => by omega))).2.2.2
  refine ⟨fun _ => hQ _ s5 w5, fun _ => setProduct_f (fun s6 f6 => ?_)⟩
  have w6 : wkf s s6 := wkf_b w5 f6 (by omega) (by omega)
  rw [cr s6 w6]
  refine copy_f (fun s7 f7 => setProduct_f (fun s8 f8 => copy_f (fun s9 f9 _ => set_f (fun s10 f10 => setProduct_f (fun s11 f11 => ?_)))))
  have w11 : wkf s s11 := wkf_b (wkf_b (wkf_b (wkf_b (wkf_b w6 f7 (by omega) (by omega)) f8 (by omega) (by omega)) f9 (by omega) (by omega)) f10 (by omega) (by omega)) f11 (by omega) (by omega)
  rw [cr s11 w11]
  exact add_f (fun s12 f12 => wkf_b w11 f12 (by omega) (by omega))
theorem compare_f {x y : Int} {s : im_S} {Q : Int → im_S → Prop} (h : ∀ z, Q z s) : C_J13_compare_74951 x y s Q := fun v _ => h v
theorem compareWith_f {r : Nat} {a b c : Int} {s : im_S} {Q : Int → im_S → Prop} (hf : ∃ lo hi mi ot, fq s lo hi mi ot) (hQ : ∀ z s', wkf s s' → Q z s') : C_compareWith3 r a b c s Q := by
  refine ⟨fun _ => ⟨fun _ => ⟨fun _ => ⟨fun _ => sideOf_f (fun z s1 w1 => ⟨fun _ => signAt_f ?_ (fun z2 s2 w2 v _ => hQ _ s2 (gfr_trans w1 w2)), fun _ => hQ _ s1 w1⟩), fun _ => hQ _ s (gfr_refl _ _ _)⟩, fun _ => hQ _ s (gfr_refl _ _ _)⟩, fun _ => compare_f (fun z => hQ _ s (gfr_refl _ _ _))⟩, fun _ => compare_f (fun z => hQ _ s (gfr_refl _ _ _))⟩
  obtain ⟨lo, hi, mi, ot, h⟩ := hf
  exact ⟨lo, hi, mi, ot, fq_co h w1 (fun k => by omega)⟩
theorem quickly_f {a b : Nat} {s : im_S} {Q : Int → im_S → Prop} (hf : ∃ lo hi mi ot, fq s lo hi mi ot) (hQ : ∀ z s', wkf s s' → Q z s') : C_compareQuickly3 a b s Q := ⟨fun _ => ⟨fun _ => ⟨fun _ => compare_f (fun z => hQ _ s (gfr_refl _ _ _)), fun _ => compare_f (fun z => hQ _ s (gfr_refl _ _ _))⟩, fun _ => compareWith_f hf (fun z s1 w1 => hQ _ s1 w1)⟩, fun _ => compareWith_f hf (fun z s1 w1 => hQ _ s1 w1)⟩
