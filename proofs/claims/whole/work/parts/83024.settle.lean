/-! settle BY VALUE -/
/-- the linear piece is split off, or the piece is linear itself -/
def splR (n e : Nat) (p : Nat → List Int) (M : Nat → Nat → Nat) (a q : Int) (n' : Nat) (p' : Nat → List Int) (M' : Nat → Nat → Nat) (o : Nat) : Prop := (n' = n + 1 ∧ o = n ∧ ∃ K : List Int, (∀ x : Rat, pev (p e) x = (q * x - a) * pev K x) ∧ p' = (fun j => if j = n then lnr a q else if j = e then K else p j) ∧ (M' = fun j i => if j = n then M e i else M j i) ∧ ¬ pdb (p e) 2) ∨ (n' = n ∧ o = e ∧ p' = p ∧ M' = M ∧ pdb (p e) 2 ∧ ∃ K : List Int, ∀ x : Rat, pev (p e) x = (q * x - a) * pev K x)
theorem mul_g1 {x y g h : Rat} (h1 : x * h * g < y * g) (h2 : y * g ≤ x * (g * h)) : False := by grind
theorem mul_g2 {x y g h : Rat} (h1 : y * g < x * h * g) (h2 : x * (g * h) ≤ y * g) : False := by grind
def rpf (j : Nat) (s s' : im_S) : Prop := gfr (fun c f => (c = 311 + 3 * j ∧ (f = 4 ∨ f = 5)) ∨ (c = 555 ∧ (f = 1 ∨ f = 2))) (fun c => c = 556) s s'
theorem rp_st {j : Nat} {s s' : im_S} (h : rpf j s s') : stf j s s' := gfr_mono h (fun c f e => by unfold stF; omega) (fun c e => by unfold stR; omega)
theorem rb_st {j : Nat} {s s' : im_S} (h : rbf j s s') : stf j s s' := gfr_mono h (fun c f e => by unfold rbF at e; unfold stF; omega) (fun c e => by unfold stR; omega)
theorem tf_st {j : Nat} {s s' : im_S} (h : tff j s s') : stf j s s' := gfr_mono h (fun c f e => by unfold tfF at e; unfold stF; omega) (fun c e => by unfold tfW at e; unfold stR; omega)
theorem tg_st {j : Nat} {s s' : im_S} (h : tgf j s s') : stf j s s' := gfr_mono h (fun c f e => by unfold tgF at e; unfold stF; omega) (fun c e => by unfold tgR at e; unfold stR; omega)
theorem ow_st {j : Nat} {s s' : im_S} (h : gfr (fun c f => c = 311 + 3 * j ∧ f = 0) (fun _ => False) s s') : stf j s s' := gfr_mono h (fun c f e => by unfold stF; omega) (fun c e => e.elim)
theorem BI_rp {j n : Nat} {D : Int} {s s' : im_S} (h : BI s n D) (f : rpf j s s') : BI s' n D := BI_co h f (fun e he => by omega) (fun e he => by omega) (by omega) (dI_co h.2.2.2.2 f (by omega) (by omega))
theorem BI_rb {j n : Nat} {D : Int} {s s' : im_S} (h : BI s n D) (f : rbf j s s') : BI s' n D := BI_co h f (fun e he => by unfold rbF; omega) (fun e he => by omega) (by unfold rbF; omega) (dI_co h.2.2.2.2 f (by unfold rbF; omega) (by unfold rbF; omega))
theorem BI_tf {j n : Nat} {D : Int} {s s' : im_S} (h : BI s n D) (f : tff j s s') : BI s' n D := BI_co h f (fun e he => by unfold tfF; omega) (fun e he => by unfold tfW; omega) (by unfold tfF; omega) (dI_co h.2.2.2.2 f (by unfold tfF; omega) (by unfold tfF; omega))
theorem BI_tg {j n : Nat} {D : Int} {s s' : im_S} (h : BI s n D) (f : tgf j s s') : BI s' n D := BI_co h f (fun e he => by unfold tgF; omega) (fun e he => by unfold tgR; omega) (by unfold tgF; omega) (dI_co h.2.2.2.2 f (by unfold tgF; omega) (by unfold tgF; omega))
theorem BI_ow {j n : Nat} {D : Int} {s s' : im_S} (h : BI s n D) (f : gfr (fun c f => c = 311 + 3 * j ∧ f = 0) (fun _ => False) s s') : BI s' n D := BI_co h f (fun e he => by omega) (fun e he z => z) (by omega) (dI_co h.2.2.2.2 f (by omega) (by omega))
theorem BF_rp {j n m : Nat} {p : Nat → List Int} {M : Nat → Nat → Nat} {s s' : im_S} (h : BF s n p M m) (f : rpf j s s') (n80 : n ≤ 80) : BF s' n p M m := BF_co h f n80 (fun e he => by omega) (fun e he => by omega) (by omega)
theorem BF_rb {j n m : Nat} {p : Nat → List Int} {M : Nat → Nat → Nat} {s s' : im_S} (h : BF s n p M m) (f : rbf j s s') (n80 : n ≤ 80) : BF s' n p M m := BF_co h f n80 (fun e he => by unfold rbF; omega) (fun e he => by omega) (by omega)
theorem BF_tf {j n m : Nat} {p : Nat → List Int} {M : Nat → Nat → Nat} {s s' : im_S} (h : BF s n p M m) (f : tff j s s') (n80 : n ≤ 80) : BF s' n p M m := BF_co h f n80 (fun e he => by unfold tfF; omega) (fun e he => by unfold tfW; omega) (by unfold tfW; omega)
theorem BF_tg {j n m : Nat} {p : Nat → List Int} {M : Nat → Nat → Nat} {s s' : im_S} (h : BF s n p M m) (f : tgf j s s') (n80 : n ≤ 80) : BF s' n p M m := BF_co h f n80 (fun e he => by unfold tgF; omega) (fun e he => by unfold tgR; omega) (by unfold tgR; omega)
theorem BF_ow {j n m : Nat} {p : Nat → List Int} {M : Nat → Nat → Nat} {s s' : im_S} (h : BF s n p M m) (f : gfr (fun c f => c = 311 + 3 * j ∧ f = 0) (fun _ => False) s s') (n80 : n ≤ 80) : BF s' n p M m := BF_co h f n80 (fun e he => by omega) (fun e he z => z) (fun z => z)
theorem fq_tf {j lo hi mi ot : Nat} {s s' : im_S} (h : fq s lo hi mi ot) (f : tff j s s') : fq s' lo hi mi ot := fq_co h f (fun k => by unfold tfF; omega)
theorem fq_rb {j lo hi mi ot : Nat} {s s' : im_S} (h : fq s lo hi mi ot) (f : rbf j s s') : fq s' lo hi mi ot := fq_co h f (fun k => by unfold rbF; omega)
theorem fq_rp {j lo hi mi ot : Nat} {s s' : im_S} (h : fq s lo hi mi ot) (f : rpf j s s') : fq s' lo hi mi ot := fq_co h f (fun k => by omega)
theorem rst_tf {j : Nat} {c b : Int} {s s' : im_S} (h : rst s j c b) (hj : j < 80) (f : tff j s s') : rst s' j c b := rst_co h f (by unfold tfF; omega) (by unfold tfF; omega) (by unfold tfF; omega) (by unfold tfW; omega)
theorem rst_rp {j : Nat} {c b : Int} {s s' : im_S} (h : rst s j c b) (hj : j < 80) (f : rpf j s s') : rst s' j c b := rst_co h f (by omega) (by omega) (by omega) (by omega)
theorem K_bd {c b : Int} {n : Nat} (b32 : 32 ≤ b) (hn : n = (b - 32).toNat) (x1 : -(2 ^ (b + 30).toNat) ≤ c) (x2 : c + 1 ≤ 2 ^ (b + 30).toNat) : -4611686018427387904 ≤ c / 2 ^ n ∧ c / 2 ^ n < 4611686018427387904 := by
  have e62 : (2 : Int) ^ (b + 30).toNat = 2 ^ n * 4611686018427387904 := by
    rw [show (b + 30).toNat = n + 62 by omega, Int.pow_add]
    rfl
  have pn := p2p n
  rw [e62] at x1 x2
  constructor
  · refine Int.le_ediv_of_mul_le pn ?_
    have : (-4611686018427387904 : Int) * 2 ^ n = -(2 ^ n * 4611686018427387904) := by grind
    omega
  · refine Int.ediv_lt_of_lt_mul pn ?_
    have : (4611686018427387904 : Int) * 2 ^ n = 2 ^ n * 4611686018427387904 := Int.mul_comm _ _
    omega
theorem own_v {s s1 : im_S} {j e n m : Nat} {D a q : Int} {p : Nat → List Int} {M : Nat → Nat → Nat} {K0 : List Int} {Q : im_S → Prop} (hj : j < 80) (hB : BI s1 n D) (hF : BF s1 n p M m) (hD : D ≤ 80) (he : e < n) (hf : ∃ lo hi mi ot, fq s1 lo hi mi ot) (f1 : s1.1 (311 + 3 * j) 1 = 1) (ha : s1.1 (311 + 3 * j) 2 = a) (hq : s1.1 (311 + 3 * j) 3 = q) (h4 : s1.1 (311 + 3 * j) 4 = a / q) (h5 : s1.1 (311 + 3 * j) 5 = a % q) (q1 : 1 ≤ q) (q2 : q ≤ 1000000000) (a1 : a.natAbs ≤ 1000000000) (gc : Int.gcd a q = 1) (hz : ∀ x : Rat, pev (p e) x = (q * x - a) * pev K0 x) (g : stf j s s1) (hQ : ∀ s' n' p' M' o, (∃ lo hi mi ot, fq s' lo hi mi ot) → BI s' n' D → BF s' n' p' M' m → rF s' j o a q → splR n e p M a q n' p' M' o → stf j s s' → Q s') : C_settle3_55 (311 + 3 * j) (e : Int) s1 Q := by
  have n80 := hB.2.1
  refine ⟨fun z => by rw [show cgf s1 (311 + 3 * j) 1 = 1 from f1] at z; omega, fun _ => ?_⟩
  obtain ⟨lo, hi, mi, ot, hfq⟩ := hf
  have fin : ∀ (s2 : im_S) (o : Nat), s2.1 (311 + 3 * j) 0 = (o : Int) → gof j s1 s2 → rF s2 j o a q := fun s2 o ho g2 => ⟨by rw [g2.1 _ _ (by unfold goF; omega)]; exact f1, by rw [g2.1 _ _ (by unfold goF; omega)]; exact ha, by rw [g2.1 _ _ (by unfold goF; omega)]; exact hq, by rw [g2.1 _ _ (by unfold goF; omega)]; exact h4, by rw [g2.1 _ _ (by unfold goF; omega)]; exact h5, ho, q1, q2, a1, gc⟩
  have fr : ∀ s2, gof j s1 s2 → stf j s s2 := fun s2 g2 => gfr_trans g (gfr_mono g2 (fun c f e => by unfold goF at e; unfold stF; omega) (fun c e => by unfold goR at e; unfold stR; omega))
  refine giveOwn_v hj hB hF hD he ha hq q1 q2 (by omega) gc hz (fun s2 K dg eK B2 F2 o2 g2 => hQ s2 (n + 1) _ _ n ⟨lo, hi, mi, ot, fq_co hfq g2 (fun k => by unfold goF; omega)⟩ B2 F2 (fin s2 n o2 g2) (Or.inl ⟨rfl, rfl, K, eK, rfl, rfl, fun z => by
    have P1 := (hF.1 e he).1
    exact P1.2.2.2.2 (by omega) (z _ (by omega))⟩) (fr s2 g2)) (fun s2 dg B2 F2 o2 g2 => hQ s2 n p M e ⟨lo, hi, mi, ot, fq_co hfq g2 (fun k => by unfold goF; omega)⟩ B2 F2 (fin s2 e o2 g2) (Or.inr ⟨rfl, rfl, rfl, rfl, ?_, K0, hz⟩) (fr s2 g2))
  have P1 := (hF.1 e he).1
  exact pdb_mono P1.2.2.2.1 (by omega)
theorem iso_n {F : List Int} {l r : Rat} {t : Int} (h : iso F l r t) : pev F l * pev F r < 0 := by
  obtain ⟨_, ht, hl, hr, _⟩ := h
  refine rsg_n ?_
  rw [rsg_m, hl, hr]
  rcases ht with q | q <;> rw [q] <;> rfl
theorem iso_c {F : List Int} {l r : Rat} {t : Int} (h : iso F l r t) {c : Rat → Int} (hc : cut c) (ht : rtc F c) (hl : c l = 1) (hr : c r = -1) {x : Rat} (x1 : l ≤ x) (x2 : x ≤ r) : c x = t * rsg (pev F x) := by
  rw [ict_u h hc (by rw [hl]; decide) (by rw [hr]; decide) ht x]
  exact ict_in h x1 x2
theorem xv_bd {c b : Int} (b0 : 0 ≤ b) (h1 : -1073741824 ≤ xv c b) (h2 : xv (c + 1) b ≤ 1073741824) : -(2 ^ (b + 30).toNat) ≤ c ∧ c + 1 ≤ 2 ^ (b + 30).toNat := by
  have G := q2p b.toNat
  have xe : ∀ c : Int, xv c b * 2 ^ b.toNat = (c : Rat) := fun c => by
    unfold xv
    rw [if_pos b0]
    exact Rat.div_mul_cancel (by grind)
  have e30 : (2 : Int) ^ (b + 30).toNat = 1073741824 * 2 ^ b.toNat := by
    rw [show (b + 30).toNat = 30 + b.toNat by omega, Int.pow_add]
    rfl
  have m1 := Rat.mul_le_mul_of_nonneg_right h1 (Rat.le_of_lt G)
  have m2 := Rat.mul_le_mul_of_nonneg_right h2 (Rat.le_of_lt G)
  rw [xe] at m1 m2
  rw [e30]
  constructor
  · refine Rat.intCast_le_intCast.1 ?_
    rw [Rat.intCast_neg, Rat.intCast_mul, Rat.intCast_pow]
    show -(1073741824 * 2 ^ b.toNat) ≤ (c : Rat)
    generalize (2 : Rat) ^ b.toNat = g at m1 ⊢
    grind
  · refine Rat.intCast_le_intCast.1 ?_
    rw [Rat.intCast_mul, Rat.intCast_pow]
    exact m2
theorem cell_K {c b K : Int} {n : Nat} (b32 : 32 ≤ b) (hn : n = (b - 32).toNat) (hK : K = c / 2 ^ n) : (K : Rat) / 4294967296 ≤ xv c b ∧ xv (c + 1) b ≤ ((K + 1 : Int) : Rat) / 4294967296 := by
  have pn := p2p n
  have a1 := Int.emod_nonneg c (show (2 : Int) ^ n ≠ 0 by omega)
  have a2 := Int.emod_lt_of_pos c pn
  have a3 := Int.emod_add_mul_ediv c (2 ^ n)
  rw [← hK] at a3
  have G := q2p n
  have eb : (2 : Rat) ^ b.toNat = 2 ^ n * 4294967296 := by
    rw [show b.toNat = n + 32 by omega, rp_ad]
    have : (2 : Rat) ^ 32 = 4294967296 := by
      have e : ((2 ^ 32 : Nat) : Rat) = 2 ^ 32 := by rw [Rat.natCast_pow]; rfl
      rw [← e]; rfl
    rw [this]
  have xe : ∀ c : Int, xv c b * (2 ^ n * 4294967296) = (c : Rat) := fun c => by
    rw [← eb]
    unfold xv
    rw [if_pos (by omega)]
    exact Rat.div_mul_cancel (by have := q2p b.toNat; grind)
  have k1 : (K : Rat) * 2 ^ n ≤ (c : Rat) := by
    have : ((K * 2 ^ n : Int) : Rat) ≤ (c : Rat) := Rat.intCast_le_intCast.2 (by rw [Int.mul_comm]; omega)
    rw [Rat.intCast_mul, Rat.intCast_pow] at this
    exact this
  have k2 : ((c + 1 : Int) : Rat) ≤ ((K + 1 : Int) : Rat) * 2 ^ n := by
    have : ((c + 1 : Int) : Rat) ≤ (((K + 1) * 2 ^ n : Int) : Rat) := Rat.intCast_le_intCast.2 (by rw [Int.add_mul, Int.one_mul, Int.mul_comm K]; omega)
    rw [Rat.intCast_mul, Rat.intCast_pow] at this
    exact this
  rw [← xe c] at k1
  rw [← xe (c + 1)] at k2
  have dv : ∀ y : Rat, y / 4294967296 * 4294967296 = y := fun y => Rat.div_mul_cancel (by decide)
  constructor
  · refine Rat.not_lt.1 fun z => ?_
    have z1 := Rat.mul_lt_mul_of_pos_right z (show (0 : Rat) < 4294967296 by decide)
    rw [dv] at z1
    exact mul_g1 (Rat.mul_lt_mul_of_pos_right z1 G) k1
  · refine Rat.not_lt.1 fun z => ?_
    have z1 := Rat.mul_lt_mul_of_pos_right z (show (0 : Rat) < 4294967296 by decide)
    rw [dv] at z1
    exact mul_g2 (Rat.mul_lt_mul_of_pos_right z1 G) k2
theorem lps_top {P : List Int} {d : Nat} (h : lps P) (hP : pdb P (d + 1)) (L0 : pgt P d ≠ 0) : 0 < pgt P d := by
  obtain ⟨⟨k, k1, k2⟩, _⟩ := h
  have : k = d := by
    rcases Nat.lt_trichotomy k d with q | q | q
    · exact absurd (k1 d (by omega)) L0
    · exact q
    · have := hP k (by omega); omega
  rw [← this]
  exact k2
theorem settle_v {s : im_S} {j e n m lo hi mi ot : Nat} {D : Int} {p : Nat → List Int} {M : Nat → Nat → Nat} {c0 : Rat → Int} {l r : Rat} {Q : im_S → Prop} (hj : j < 80) (hB : BI s n D) (hF : BF s n p M m) (hD : D ≤ 80) (he : e < n) (hu : rU s j (p e) c0 l r) (lb : -1073741824 ≤ l) (ub : r ≤ 1073741824) (hf : fq s lo hi mi ot) (ho : big s 553 1) (hQ0 : ∀ s', (∃ lo hi mi ot, fq s' lo hi mi ot) → BI s' n D → BF s' n p M m → rN s' j e (p e) c0 → stf j s s' → Q s') (hQ1 : ∀ s' a q n' p' M' o, (∃ lo hi mi ot, fq s' lo hi mi ot) → BI s' n' D → BF s' n' p' M' m → rF s' j o a q → splR n e p M a q n' p' M' o → c0 ((a : Rat) / q) = 0 → l ≤ (a : Rat) / q → (a : Rat) / q ≤ r → stf j s s' → Q s') : C_settle3 (311 + 3 * j) (e : Int) s Q := by
  obtain ⟨⟨c, b, rt, el, er⟩, f0, ⟨t, is⟩, cc, ct, cl, cr⟩ := hu
  obtain ⟨b1, b2, cb, rb, lp, lf⟩ := rt
  have n80 := hB.2.1
  obtain ⟨hP, hp, sqp, lpp, _⟩ := hF.1 e he
  obtain ⟨P, eP⟩ : ∃ P, P = p e := ⟨_, rfl⟩
  rw [← eP] at hP hp sqp lpp is ct
  obtain ⟨d, hd⟩ : ∃ d : Nat, s.1 (86 + 2 * e) 0 = (d : Int) := ⟨(s.1 (86 + 2 * e) 0).toNat, by have := dgo_0 hP.2 (pat_0 hp); omega⟩
  have hP1 : pdb P (d + 1) := by have := hP.2.2.2.1; rw [hd, show ((d : Int) + 1).toNat = d + 1 by omega] at this; exact this
  have L0 : pgt P d ≠ 0 := by have := hP.2.2.2.2 (by omega); rw [hd, Int.toNat_natCast] at this; exact this
  have Lp := lps_top lpp hP1 L0
  have sg := iso_n is
  have own : ∀ (s1 : im_S) (a q : Int), BI s1 n D → BF s1 n p M m → (∃ lo hi mi ot, fq s1 lo hi mi ot) → s1.1 (311 + 3 * j) 1 = 1 → s1.1 (311 + 3 * j) 2 = a → s1.1 (311 + 3 * j) 3 = q → s1.1 (311 + 3 * j) 4 = a / q → s1.1 (311 + 3 * j) 5 = a % q → 1 ≤ q → q ≤ 1000000000 → Int.gcd a q = 1 → pev P ((a : Rat) / q) = 0 → l ≤ (a : Rat) / q → (a : Rat) / q ≤ r → stf j s s1 → C_settle3_55 (311 + 3 * j) (e : Int) s1 Q := by
    intro s1 a q B1 F1 fq1 w1 w2 w3 w4 w5 q1 q2 gc z x1 x2 g1
    have qr : (0 : Rat) < q := Rat.intCast_pos.2 (by omega)
    have qx : (q : Rat) * ((a : Rat) / q) = a := by
      have := Rat.div_mul_cancel (a := (a : Rat)) (b := (q : Rat)) (by grind)
      grind
    obtain ⟨_, ab, K0, eK0⟩ := root_fr hp hP1 L0 (by omega) gc qx z
    refine own_v (s := s) hj B1 F1 hD he fq1 w1 w2 w3 w4 w5 q1 q2 ab gc (K0 := K0) (by rw [← eP]; exact eK0) g1 (fun s' n' p' M' o v1 v2 v3 v4 v5 v6 => hQ1 s' a q n' p' M' o v1 v2 v3 v4 v5 ?_ x1 x2 v6)
    rw [iso_c is cc ct cl cr x1 x2, z, show rsg 0 = 0 by decide, Int.mul_zero]
  intro s1 e1
  rw [Int.toNat_natCast]
  have f1 : gfr (fun c f => c = 311 + 3 * j ∧ f = 0) (fun _ => False) s s1 := by subst e1; exact gfr_pf (gfr_refl _ _ _) ⟨rfl, rfl⟩
  have g1 : stf j s s1 := ow_st f1
  have o1 : s1.1 (311 + 3 * j) 0 = (e : Int) := by subst e1; exact cpf_same _ _ _ _
  have B1 : BI s1 n D := BI_ow hB f1
  have P1 : ply s1 (86 + 2 * e) P := ply_fr hP f1 (by omega) (fun z => z)
  have F1 : BF s1 n p M m := BF_ow hF f1 n80
  have d1 : s1.1 (86 + 2 * e) 0 = (d : Int) := by rw [f1.1 _ _ (by omega)]; exact hd
  have r1 : rst s1 j c b := ⟨by rw [f1.1 _ _ (by omega)]; exact rb, big_g lf f1 (by omega) (by omega) (fun z => z)⟩
  have cbd1 : cbd c b := by
    have e33 : (2 : Int) ^ (b + 33).toNat = 2 * 2 ^ (b + 32).toNat := by rw [← p2s]; congr 1; omega
    have := p2p (b + 32).toNat
    refine ⟨b1, by omega, ?_, ?_⟩ <;> rw [e33] <;> omega
  have fq1 : fq s1 lo hi mi ot := fq_co hf f1 (fun k => by omega)
  have one1 : big s1 553 1 := big_g ho f1 (by omega) (by omega) (fun z => z)
  have sg1 : pev P (xv c b) * pev P (xv (c + 1) b) < 0 := by rw [← el, ← er]; exact sg
  refine tighten_b hj P1 (by omega) (by omega) d1 (pat_b hp) r1 cbd1 (by rw [f1.1 _ _ (by omega)]; exact f0) (by rw [f1.1 _ _ (by omega), lp]; decide) (by rw [f1.1 _ _ (by omega), lp]; decide) fq1 one1 sg1 (fun s2 c2 b2' lo' hi' mi' ot' r2 cw2 bb2 _ b640 l21 l22 fq2 g2 to2 fin2 => ?_)
  have gg2 : stf j s s2 := gfr_trans g1 (tg_st g2)
  have B2 : BI s2 n D := BI_tg B1 g2
  have P2 : ply s2 (86 + 2 * e) P := ply_fr P1 g2 (by unfold tgF; omega) (by unfold tgR; omega)
  have d2 : s2.1 (86 + 2 * e) 0 = (d : Int) := by rw [g2.1 _ _ (by unfold tgF; omega)]; exact d1
  have F2 : BF s2 n p M m := BF_tg F1 g2 n80
  have one2 : big s2 553 1 := tgf_553 g2 hj one1
  have o2 : s2.1 (311 + 3 * j) 0 = (e : Int) := by rw [g2.1 _ _ (by unfold tgF; omega)]; exact o1
  refine ⟨fun z => ?_, fun z => ?_⟩
  · -- no zero was met
    have z' : s2.1 (311 + 3 * j) 1 = 0 := z
    have b32 := fin2 (by rw [f1.1 _ _ (by omega)]; exact lp) z'
    obtain ⟨_, cbd2, sg2, in1, in2⟩ : s2.1 (311 + 3 * j) 1 = 0 ∧ cbd c2 b2' ∧ pev P (xv c2 b2') * pev P (xv (c2 + 1) b2') < 0 ∧ xv c b ≤ xv c2 b2' ∧ xv (c2 + 1) b2' ≤ xv (c + 1) b := by
      rcases to2 with q | q
      · rw [z'] at q; exact absurd q.1 (by decide)
      · exact q
    have in1' : l ≤ xv c2 b2' := by rw [el]; exact in1
    have in2' : xv (c2 + 1) b2' ≤ r := by rw [er]; exact in2
    have is2 := iso_sub is in1' in2' (xv_lt c2 b2') sg2
    have b32' : 32 ≤ b2' := by omega
    obtain ⟨x1, x2⟩ := xv_bd (c := c2) (b := b2') (by omega) (by grind) (by grind)
    have c0l : c0 (xv c2 b2') = 1 := by
      rw [iso_c is cc ct cl cr in1' (by have := xv_lt c2 b2'; grind), is2.2.2.1]
      rcases is2.2.1 with q | q <;> rw [q] <;> rfl
    have c0r : c0 (xv (c2 + 1) b2') = -1 := by
      rw [iso_c is cc ct cl cr (by have := xv_lt c2 b2'; grind) in2', is2.2.2.2.1]
      rcases is2.2.1 with q | q <;> rw [q] <;> rfl
    refine readParts_v hj one2 r2 b32' b640 x1 x2 (fun s3 w4 w5 f3 => ?_)
    have gg3 : stf j s s3 := gfr_trans gg2 (rp_st f3)
    have B3 : BI s3 n D := BI_rp B2 f3
    have F3 : BF s3 n p M m := BF_rp F2 f3 n80
    have P3 : ply s3 (86 + 2 * e) P := ply_fr P2 f3 (by omega) (by omega)
    have d3 : s3.1 (86 + 2 * e) 0 = (d : Int) := by rw [f3.1 _ _ (by omega)]; exact d2
    have r3 : rst s3 j c2 b2' := rst_rp r2 hj f3
    have fq3 : fq s3 lo' hi' mi' ot' := fq_rp fq2 f3
    obtain ⟨n9, hn9⟩ : ∃ n9, n9 = (b2' - 32).toNat := ⟨_, rfl⟩
    obtain ⟨K, hK⟩ : ∃ K, K = c2 / 2 ^ n9 := ⟨_, rfl⟩
    rw [← hn9, ← hK] at w4 w5
    obtain ⟨kc1, kc2⟩ := cell_K b32' hn9 hK
    have Kb := K_bd b32' hn9 x1 x2
    rw [← hK] at Kb
    obtain ⟨K1, K2⟩ := Kb
    refine tryFraction_v hj P3 (by omega) (by omega) d3 hp Lp r3 cbd2 b32' hn9 hK K1 K2 w4 w5 (fun s4 no q1 f4 => ?_) (fun s4 a q q1 q2 q3 q4 q5 q6 q7 q8 q9 z x3 x4 f4 => ?_)
    · have gg4 : stf j s s4 := gfr_trans gg3 (tf_st f4)
      have f40 : s4.1 (311 + 3 * j) 1 = 0 := by rw [q1, f3.1 _ _ (by omega)]; exact z'
      refine ⟨fun _ => hQ0 s4 ⟨lo', hi', mi', ot', fq_tf fq3 f4⟩ (BI_tf B3 f4) (BF_tf F3 f4 n80) ⟨f40, ?_, ⟨?_, ?_⟩, ⟨cc, by rw [← eP]; exact ct, fun x zx => ?_⟩, ⟨c2, b2', t, rst_tf r3 hj f4, cbd2, b32', by rw [← eP]; exact is2, c0l, c0r⟩, K, ⟨K1, K2, by rw [q1]; exact w4, by rw [q1]; exact w5⟩, cut_le1 cc c0l kc1, cut_ge1 cc c0r kc2⟩ gg4, fun w => absurd f40 w⟩
      · rw [q1, f3.1 _ _ (by omega)]; exact o2
      · rw [q1, f3.1 _ _ (by omega)]; exact l21
      · rw [q1, f3.1 _ _ (by omega)]; exact l22
      · have y1 : xv c2 b2' < x := cnt_le cc c0l (by rw [zx]; decide)
        have y2 : x < xv (c2 + 1) b2' := cnt_ge cc (by rw [zx]; decide) c0r
        exact no x y1 y2 (rtc_q0 cc zx ct)
    · have gg4 : stf j s s4 := gfr_trans gg3 (tf_st f4)
      exact own s4 a q (BI_tf B3 f4) (BF_tf F3 f4 n80) ⟨lo', hi', mi', ot', fq_tf fq3 f4⟩ q1 q2 q3 q4 q5 q6 q7 q9 z (by grind) (by grind) gg4
  · -- a zero
    obtain ⟨z1, z2, z3, z4⟩ : s2.1 (311 + 3 * j) 1 = 1 ∧ pev P (xv c2 b2') = 0 ∧ xv c b ≤ xv c2 b2' ∧ xv c2 b2' ≤ xv (c + 1) b := by
      rcases to2 with q | q
      · exact q
      · exact absurd q.1 z
    refine readBinary_v hj r2 cw2 (by omega) b640 hp hP1 L0 z2 (fun s3 a q q1 q2 q3 q4 q5 q6 q7 q8 q9 q10 f3 => ?_)
    have gg3 : stf j s s3 := gfr_trans gg2 (rb_st f3)
    have B3 : BI s3 n D := BI_rb B2 f3
    have F3 : BF s3 n p M m := BF_rb F2 f3 n80
    have qr : (0 : Rat) < q := Rat.intCast_pos.2 (by omega)
    have az : (a : Rat) / q = xv c2 b2' := by grind
    exact own s3 a q B3 F3 ⟨lo', hi', mi', ot', fq_rb fq2 f3⟩ q1 q2 q3 q9 q10 q4 (by omega) q7 (by rw [az]; exact z2) (by rw [az, el]; exact z3) (by rw [az, er]; exact z4) gg3
