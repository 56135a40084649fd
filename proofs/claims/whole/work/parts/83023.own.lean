/-! giveOwnPiece BY VALUE -/
theorem lps_lin {a q : Int} (h : 0 < q) (g : Int.gcd a q = 1) : lps (lnr a q) := ⟨⟨1, fun k hk => by
  match k with
  | 0 => omega
  | 1 => omega
  | k + 2 => rfl, h⟩, prm_lin g⟩
theorem giveOwn_v {s : im_S} {j e n m : Nat} {D a q : Int} {p : Nat → List Int} {M : Nat → Nat → Nat} {K0 : List Int} {Q : im_S → Prop} (hj : j < 80) (hB : BI s n D) (hF : BF s n p M m) (hD : D ≤ 80) (he : e < n) (ha : s.1 (311 + 3 * j) 2 = a) (hq : s.1 (311 + 3 * j) 3 = q) (q1 : 1 ≤ q) (q2 : q ≤ 1000000000) (a1 : a.natAbs ≤ 4611686018427387904) (gc : Int.gcd a q = 1) (hz : ∀ x : Rat, pev (p e) x = (q * x - a) * pev K0 x) (hQ1 : ∀ s' K, 1 < s.1 (86 + 2 * e) 0 → (∀ x : Rat, pev (p e) x = (q * x - a) * pev K x) → BI s' (n + 1) D → BF s' (n + 1) (fun j => if j = n then lnr a q else if j = e then K else p j) (fun j i => if j = n then M e i else M j i) m → s'.1 (311 + 3 * j) 0 = (n : Int) → gof j s s' → Q s') (hQ0 : ∀ s', s.1 (86 + 2 * e) 0 ≤ 1 → BI s' n D → BF s' n p M m → s'.1 (311 + 3 * j) 0 = (e : Int) → gof j s s' → Q s') : C_giveOwnPiece3 (311 + 3 * j) (e : Int) s Q := by
  have n80 := hB.2.1
  obtain ⟨hP, pp, _, _⟩ := hF.1 e he
  intro s1 e1
  rw [Int.toNat_natCast]
  have g1 : gof j s s1 := by subst e1; exact gfr_pf (gfr_refl _ _ _) (by unfold goF; omega)
  have f1 : gfr (fun c f => c = 311 + 3 * j ∧ f = 0) (fun _ => False) s s1 := by subst e1; exact gfr_pf (gfr_refl _ _ _) ⟨rfl, rfl⟩
  have B1 : BI s1 n D := BI_co hB f1 (fun e he => by omega) (fun e he z => z) (by omega) (dI_co hB.2.2.2.2 f1 (by omega) (by omega))
  have F1 : BF s1 n p M m := BF_co hF f1 n80 (fun e he => by omega) (fun e he z => z) (fun z => z)
  have o1 : s1.1 (311 + 3 * j) 0 = (e : Int) := by subst e1; exact cpf_same _ _ _ _
  have d1 : s1.1 (86 + 2 * e) 0 = s.1 (86 + 2 * e) 0 := f1.1 _ _ (by omega)
  refine ⟨fun c => hQ0 s1 ?_ B1 F1 o1 g1, fun c => ?_⟩
  · rw [← d1]; exact c
  · have c' : 1 < s1.1 (86 + 2 * e) 0 := by have : ¬ s1.1 (86 + 2 * e) 0 ≤ 1 := c; omega
    rw [show cgf s1 (311 + 3 * j) 3 = q by show s1.1 _ _ = _; rw [f1.1 _ _ (by omega)]; exact hq, show cgf s1 (311 + 3 * j) 2 = a by show s1.1 _ _ = _; rw [f1.1 _ _ (by omega)]; exact ha, w64_id (x := -a) (by omega) (by omega)]
    refine setLinear_b (fun s2 h2 f2 => ?_)
    have g2 : gof j s s2 := gfr_trans g1 (gfr_mono f2 (fun c f e => by unfold goF; omega) (fun c e => by unfold goR; omega))
    have B2 : BI s2 n D := BI_co B1 f2 (fun e he => by omega) (fun e he => by omega) (by omega) (dI_co B1.2.2.2.2 f2 (by omega) (by omega))
    have F2 : BF s2 n p M m := BF_co F1 f2 n80 (fun e he => by omega) (fun e he => by omega) (by omega)
    have P2 : ply s2 (86 + 2 * e) (p e) := (F2.1 e he).1
    have dl : s2.1 551 0 = 1 := by
      refine dgo_u h2.2 ⟨by omega, by omega, fun k hk => ?_, fun _ => by show q ≠ 0; omega⟩
      match k with
      | 0 => exact absurd hk (by decide)
      | 1 => exact absurd hk (by decide)
      | k + 2 => rfl
    have d2 : s2.1 (86 + 2 * e) 0 = s1.1 (86 + 2 * e) 0 := f2.1 _ _ (by omega)
    have w63l : w63 [-a, q] := fun k => by
      match k with
      | 0 => show _ ≤ -a ∧ -a ≤ _; omega
      | 1 => show _ ≤ q ∧ q ≤ _; omega
      | k + 2 => show _ ≤ (0 : Int) ∧ (0 : Int) ≤ _; omega
    refine splitOff_v B2 h2 (by unfold opc; omega) (by omega) w63l he (by omega) (by omega) hD (fun s3 P' K hP' dv eK B3 K3 G3 f3 kp3 rj rk s4 e4 => ?_) (fun s3 P' hP' nd f3 s4 e4 => ?_)
    · have g3 : gof j s s3 := gfr_trans g2 (gfr_mono f3 (fun c f e => by unfold goF; omega) (fun c e => by unfold goR; omega))
      have f4 : gfr (fun c f => c = 311 + 3 * j ∧ f = 0) (fun _ => False) s3 s4 := by subst e4; exact gfr_pf (gfr_refl _ _ _) ⟨rfl, rfl⟩
      obtain ⟨ev, F3⟩ := split_BF (G := lnr a q) F2 he hP' eK (lps_lin (by omega) gc) K3 G3 kp3 rj rk
      have n81 := B3.2.1
      exact hQ1 s4 K (by omega) (fun x => by rw [ev x, lnr_ev]) (BI_co B3 f4 (fun e he => by omega) (fun e he z => z) (by omega) (dI_co B3.2.2.2.2 f4 (by omega) (by omega))) (BF_co F3 f4 n81 (fun e he => by omega) (fun e he z => z) (fun z => z)) (by subst e4; exact cpf_same _ _ _ _) (gfr_trans g3 (gfr_mono f4 (fun c f e => by unfold goF; omega) (fun c e => e.elim)))
    · exfalso
      obtain ⟨d, hd⟩ : ∃ d : Nat, s2.1 (86 + 2 * e) 0 = (d : Int) := ⟨(s2.1 (86 + 2 * e) 0).toNat, by omega⟩
      have pd : pdb (p e) (d + 1) := by have := P2.2.2.2.1; rw [hd, show ((d : Int) + 1).toNat = d + 1 by omega] at this; exact this
      have d8 : d ≤ 8 := by have := P2.2.2.1; omega
      obtain ⟨K, h1, h2⟩ := dvs_lin pp d8 pd (show 0 < q by omega) hz
      exact nd ⟨K, fun x => by rw [pev_eq (ply_u hP' P2) x]; exact h1 x, h2⟩
/-! ISOLATING INTERVALS, NARROWED, AND WITH A LINEAR FACTOR TAKEN OUT -/
theorem iso_sub {F : List Int} {l r l' r' : Rat} {t : Int} (h : iso F l r t) (h1 : l ≤ l') (h2 : r' ≤ r) (h3 : l' < r') (hn : pev F l' * pev F r' < 0) : iso F l' r' t := by
  obtain ⟨lr, ht, hl, hr, hp⟩ := h
  have pr := rsg_neg hn
  rw [rsg_m] at pr
  have a := hp l' r' h1 h3 h2
  have s1 := rsg_3 (pev F l')
  have s2 := rsg_3 (pev F r')
  have both : rsg (pev F l') = t ∧ rsg (pev F r') = -t := by
    by_cases c : rsg (pev F r') = -t
    · refine ⟨?_, c⟩
      rw [c] at pr
      rcases ht with q | q <;> subst q <;> rcases s1 with w | w | w <;> rw [w] at pr <;> first | exact w | (exfalso; revert pr; decide)
    · have b := a c
      rw [b] at pr
      refine absurd ?_ c
      rcases ht with q | q <;> subst q <;> rcases s2 with w | w | w <;> rw [w] at pr <;> first | exact w | (exfalso; revert pr; decide)
  exact ⟨h3, ht, both.1, both.2, fun x y a b c d => hp x y (Rat.le_trans h1 a) b (Rat.le_trans c h2) d⟩
theorem iso_lin {P K : List Int} {a q : Int} {l r : Rat} {t : Int} (q0 : 0 < q) (e : ∀ x : Rat, pev P x = (q * x - a) * pev K x) (hz : (a : Rat) / q ≤ l ∨ r ≤ (a : Rat) / q) (h : iso P l r t) : ∃ t' : Int, iso K l r t' := by
  obtain ⟨lr, ht, hl, hr, hp⟩ := h
  have qr : (0 : Rat) < q := Rat.intCast_pos.2 q0
  have qx : (q : Rat) * ((a : Rat) / q) = a := by
    have := Rat.div_mul_cancel (a := (a : Rat)) (b := (q : Rat)) (by grind)
    grind
  obtain ⟨z, hz'⟩ : ∃ z, z = (a : Rat) / q := ⟨_, rfl⟩
  rw [← hz'] at hz qx
  have hn : ∀ x : Rat, pev P x ≠ 0 → (q : Rat) * x - a ≠ 0 := fun x h w => h (by rw [e x, w, Rat.zero_mul])
  have nl : pev P l ≠ 0 := fun w => by rw [w, show rsg 0 = 0 by decide] at hl; omega
  have nr : pev P r ≠ 0 := fun w => by rw [w, show rsg 0 = 0 by decide] at hr; omega
  rcases hz with c | c
  · -- the zero is on the left
    have zl : z < l := by
      rcases Rat.le_iff_lt_or_eq.1 c with w | w
      · exact w
      · exact absurd (by rw [← w, qx]; grind) (hn l nl)
    have sg : ∀ x : Rat, l ≤ x → rsg (pev P x) = rsg (pev K x) := fun x hx => by
      have : 0 < (q : Rat) * x - a := by
        have := Rat.mul_lt_mul_of_pos_left (show z < x by grind) qr
        grind
      rw [e x, rsg_m, rsg_pos this, Int.one_mul]
    exact ⟨t, lr, ht, by rw [← sg l Rat.le_refl]; exact hl, by rw [← sg r (Rat.le_of_lt lr)]; exact hr, fun x y a b c d => by
      rw [← sg x a]
      exact hp x y a b c (by rw [sg y (by grind)]; exact d)⟩
  · have zr : r < z := by
      rcases Rat.le_iff_lt_or_eq.1 c with w | w
      · exact w
      · exact absurd (by rw [w, qx]; grind) (hn r nr)
    have sg : ∀ x : Rat, x ≤ r → rsg (pev P x) = - rsg (pev K x) := fun x hx => by
      have : (q : Rat) * x - a < 0 := by
        have := Rat.mul_lt_mul_of_pos_left (show x < z by grind) qr
        grind
      rw [e x, rsg_m, rsg_neg this]
      omega
    refine ⟨-t, lr, by omega, ?_, ?_, fun x y a b c d => ?_⟩
    · have := sg l (Rat.le_of_lt lr); omega
    · have := sg r Rat.le_refl; omega
    · have s1 := sg y c
      have s2 := sg x (by grind)
      have := hp x y a b c (by omega)
      omega
theorem rtc_lin {P K : List Int} {a q : Int} (q0 : 0 < q) (e : ∀ x : Rat, pev P x = (q * x - a) * pev K x) (nK : nzp K) {c : Rat → Int} (hc : cut c) (hn : c ((a : Rat) / q) ≠ 0) (h : rtc P c) : rtc K c := by
  have qr : (0 : Rat) < q := Rat.intCast_pos.2 q0
  have qx : (q : Rat) * ((a : Rat) / q) = a := by
    have := Rat.div_mul_cancel (a := (a : Rat)) (b := (q : Rat)) (by grind)
    grind
  rcases (rtc_mul hc (nzp_lin (p := a) q0) nK (fun x => by rw [e x, lnf_ev])).1 h with ⟨w, _⟩ | ⟨_, w⟩
  · exact absurd (lin_turn q0 qx hc w) hn
  · exact w
/-! WHAT IS KEPT OF A ROOT -/
/-- a fraction -/
def rF (s : im_S) (j : Nat) (o : Nat) (a q : Int) : Prop := s.1 (311 + 3 * j) 1 = 1 ∧ s.1 (311 + 3 * j) 2 = a ∧ s.1 (311 + 3 * j) 3 = q ∧ s.1 (311 + 3 * j) 4 = a / q ∧ s.1 (311 + 3 * j) 5 = a % q ∧ s.1 (311 + 3 * j) 0 = (o : Int) ∧ 1 ≤ q ∧ q ≤ 1000000000 ∧ a.natAbs ≤ 1000000000 ∧ Int.gcd a q = 1
/-- no fraction, not settled yet -/
def rU (s : im_S) (j : Nat) (P : List Int) (c0 : Rat → Int) (l r : Rat) : Prop := (∃ c b, rt0 s j c b ∧ l = xv c b ∧ r = xv (c + 1) b) ∧ s.1 (311 + 3 * j) 1 = 0 ∧ (∃ t, iso P l r t) ∧ cut c0 ∧ rtc P c0 ∧ c0 l = 1 ∧ c0 r = -1
/-- the whole part and 32 bits behind it: K over 2 ^ 32 -/
def whp (s : im_S) (j : Nat) (K : Int) : Prop := -4611686018427387904 ≤ K ∧ K < 4611686018427387904 ∧ s.1 (311 + 3 * j) 4 = K / 4294967296 ∧ s.1 (311 + 3 * j) 5 = K % 4294967296
/-- no fraction, settled -/
def rN (s : im_S) (j e : Nat) (P : List Int) (c0 : Rat → Int) : Prop := s.1 (311 + 3 * j) 1 = 0 ∧ s.1 (311 + 3 * j) 0 = (e : Int) ∧ (1 ≤ s.1 (311 + 3 * j) 8 ∧ s.1 (311 + 3 * j) 8 ≤ 2000) ∧ (cut c0 ∧ rtc P c0 ∧ ∀ x : Rat, c0 x ≠ 0) ∧ (∃ c b t, rst s j c b ∧ cbd c b ∧ 32 ≤ b ∧ iso P (xv c b) (xv (c + 1) b) t ∧ c0 (xv c b) = 1 ∧ c0 (xv (c + 1) b) = -1) ∧ ∃ K, whp s j K ∧ c0 ((K : Rat) / 4294967296) = 1 ∧ c0 (((K + 1 : Int) : Rat) / 4294967296) = -1
