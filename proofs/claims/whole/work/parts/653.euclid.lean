/-! EUCLID'S SCHEME -/
def lnz (P : List Int) : Prop := ∀ n, P.length = n + 1 → pgt P n ≠ 0
/-- divides, but for a number -/
def qd (H F : List Int) : Prop := ∃ (c : Int) (K : List Int), c ≠ 0 ∧ ∀ x : Rat, c * pev F x = pev H x * pev K x
theorem qd_rfl (H : List Int) : qd H H := ⟨1, [1], by decide, fun x => by
  show ((1 : Int) : Rat) * pev H x = pev H x * (((1 : Int) : Rat) + x * 0)
  rw [rat_i1]; grind⟩
theorem qd_nil (H : List Int) : qd H [] := ⟨1, [], by decide, fun x => by
  show ((1 : Int) : Rat) * 0 = pev H x * 0
  grind⟩
theorem qd_comb {E X Y R q : List Int} {al be : Int} (h1 : qd E Y) (h2 : qd E R) (ha : al ≠ 0) (h : ∀ x : Rat, al * pev X x = pev q x * pev Y x + be * pev R x) : qd E X := by
  obtain ⟨c1, K1, c10, e1⟩ := h1
  obtain ⟨c2, K2, c20, e2⟩ := h2
  refine ⟨c1 * c2 * al, padd (psm c2 (pmul q K1)) (psm (c1 * be) K2), Int.mul_ne_zero (Int.mul_ne_zero c10 c20) ha, fun x => ?_⟩
  have a := e1 x
  have b := e2 x
  have c := h x
  rw [padd_ev, psm_ev, psm_ev, pmul_ev, Rat.intCast_mul, Rat.intCast_mul, Rat.intCast_mul]
  grind
theorem qd_trans {E F G : List Int} (h1 : qd E F) (h2 : qd F G) : qd E G := by
  obtain ⟨c1, K1, c10, e1⟩ := h1
  obtain ⟨c2, K2, c20, e2⟩ := h2
  refine ⟨c1 * c2, pmul K1 K2, Int.mul_ne_zero c10 c20, fun x => ?_⟩
  have a := e1 x
  have b := e2 x
  rw [pmul_ev, Rat.intCast_mul]
  grind
theorem pdb_mul0 {P Q : List Int} (hQ : pdb Q 0) : pdb (pmul P Q) 0 := fun k _ => pev_zero (fun x => by
  rw [pmul_ev, pev_eq (R := []) (fun k => hQ k (by omega)) x]
  show pev P x * 0 = 0
  grind) k
/-- the scheme begun with A and B has come to X and Y -/
def eu (A B X Y : List Int) : Prop := 1 ≤ X.length ∧ lnz X ∧ lnz Y ∧ prm1 X ∧ (Y ≠ [] → prm1 Y) ∧ Y.length ≤ X.length ∧ X.length ≤ A.length ∧ Y.length ≤ B.length ∧ B.length ≤ A.length ∧ (∀ E, qd E X → qd E Y → qd E A ∧ qd E B) ∧ ∃ (u' v' u v : List Int) (c' c d : Int), c' ≠ 0 ∧ c ≠ 0 ∧ d ≠ 0 ∧ (∀ t : Rat, c' * pev X t = pev u' t * pev A t + pev v' t * pev B t) ∧ (∀ t : Rat, c * pev Y t = pev u t * pev A t + pev v t * pev B t) ∧ (∀ t : Rat, pev u' t * pev v t - pev u t * pev v' t = d) ∧ pdb v (A.length - X.length + 1) ∧ pgt v (A.length - X.length) ≠ 0 ∧ pdb u (B.length + 1 - X.length) ∧ pdb v' (A.length - Y.length) ∧ pdb u' (B.length + 1 - Y.length)
theorem pev_c1 (t : Rat) : pev [1] t = 1 := by
  show ((1 : Int) : Rat) + t * 0 = 1
  rw [rat_i1]; grind
theorem eu_init {A B : List Int} (hA : 1 ≤ A.length) (hA2 : lnz A) (hB2 : lnz B) (hA3 : prm1 A) (hB3 : prm1 B) (hB : 1 ≤ B.length) (h : B.length ≤ A.length) : eu A B A B := by
  refine ⟨hA, hA2, hB2, hA3, fun _ => hB3, h, Nat.le_refl _, Nat.le_refl _, h, fun E a b => ⟨a, b⟩, [1], [], [], [1], 1, 1, 1, by decide, by decide, by decide, fun t => ?_, fun t => ?_, fun t => ?_, ?_, ?_, ?_, ?_, ?_⟩
  · rw [pev_c1, rat_i1]
    show 1 * pev A t = 1 * pev A t + 0 * pev B t
    grind
  · rw [pev_c1, rat_i1]
    show 1 * pev B t = 0 * pev A t + 1 * pev B t
    grind
  · rw [pev_c1, rat_i1]
    show (1 : Rat) * 1 - 0 * 0 = 1
    grind
  · exact pdb_mono (pdb_len [1]) (by show 1 ≤ _; omega)
  · rw [Nat.sub_self]; decide
  · exact pdb_mono (pdb_len []) (Nat.zero_le _)
  · exact pdb_mono (pdb_len []) (Nat.zero_le _)
  · exact pdb_mono (pdb_len [1]) (by show 1 ≤ _; omega)
theorem rr_top {X Y q R : List Int} {al be : Int} {x y : Nat} (hX : X.length = x + 1) (hY : Y.length = y + 1) (hyx : y ≤ x) (hR : R.length ≤ y) (hq : q.length ≤ x - y + 1) (h : ∀ t : Rat, al * pev X t = pev q t * pev Y t + be * pev R t) (ha : al ≠ 0) (hx0 : pgt X x ≠ 0) : pgt q (x - y) ≠ 0 := by
  intro e
  have z : pgt (psm al X) x = pgt (padd (pmul q Y) (psm be R)) x := pev_inj (fun t => by
    rw [psm_ev, padd_ev, pmul_ev, psm_ev]; exact h t) x
  rw [psm_gt, padd_gt, psm_gt, pgt_hi R x (by omega), Int.mul_zero, Int.add_zero] at z
  have w := pdb_top (P := q) (Q := Y) (m := x - y) (n := y) (pdb_mono (pdb_len q) hq) (pdb_mono (pdb_len Y) (by omega))
  rw [show x - y + y = x by omega, e, Int.zero_mul] at w
  rw [w] at z
  rcases Int.mul_eq_zero.1 z with q | q
  · exact ha q
  · exact hx0 q
theorem eu_step {A B X Y R : List Int} (h : eu A B X Y) (hY : 1 ≤ Y.length) (hr : rr X Y R) : R.length < Y.length ∧ eu A B Y R := by
  obtain ⟨h1, h2, h3, h4, h5, h6, h7, h8, h9, h10, u', v', u, v, c', c, d, e1, e2, e3, e4, e5, e6, e7, e8, e9, e10, e11⟩ := h
  have hYn : Y ≠ [] := fun q => by rw [q] at hY; exact absurd hY (by decide)
  rcases hr with q | ⟨_, r1, r2, al, be, q, a0, b0, ql, rq⟩
  · omega
  refine ⟨r1, hY, h3, r2.1, h5 hYn, fun z => r2.2 z, by omega, by omega, by omega, h9, fun E z1 z2 => h10 E (qd_comb z1 z2 (by omega) rq) z1, u, v, padd (psm (c * al) u') (psm (-c') (pmul q u)), padd (psm (c * al) v') (psm (-c') (pmul q v)), c, be * c * c', -(c * al * d), e2, Int.mul_ne_zero (Int.mul_ne_zero (by omega) e2) e1, ?_, e5, fun t => ?_, fun t => ?_, ?_, ?_, ?_, ?_, ?_⟩
  · have := Int.mul_ne_zero (Int.mul_ne_zero e2 (show al ≠ 0 by omega)) e3
    omega
  · have w1 := e4 t
    have w2 := e5 t
    have w3 := rq t
    rw [padd_ev, psm_ev, psm_ev, pmul_ev, padd_ev, psm_ev, psm_ev, pmul_ev, Rat.intCast_mul, Rat.intCast_mul, Rat.intCast_mul, Rat.intCast_neg]
    grind
  · have w1 := e6 t
    rw [padd_ev, psm_ev, psm_ev, pmul_ev, padd_ev, psm_ev, psm_ev, pmul_ev, Rat.intCast_neg, Rat.intCast_neg, Rat.intCast_mul, Rat.intCast_mul]
    grind
  · refine pdb_add (pdb_sm (pdb_mono e10 (by omega))) (pdb_sm (pdb_mono (pdb_mul (pdb_mono (pdb_len q) ql) e7) (by omega)))
  · obtain ⟨x, hx⟩ : ∃ x, X.length = x + 1 := ⟨X.length - 1, by omega⟩
    obtain ⟨y, hy⟩ : ∃ y, Y.length = y + 1 := ⟨Y.length - 1, by omega⟩
    rw [padd_gt, psm_gt, psm_gt, e10 _ (Nat.le_refl _), Int.mul_zero, Int.zero_add]
    have w := pdb_top (P := q) (Q := v) (m := x - y) (n := A.length - X.length) (pdb_mono (pdb_len q) (by omega)) e7
    rw [show A.length - Y.length = x - y + (A.length - X.length) by omega, w]
    have t1 := rr_top hx hy (by omega) (by omega) (by omega) rq (by omega) (h2 x hx)
    have t2 := Int.mul_ne_zero t1 e8
    intro z
    rcases Int.mul_eq_zero.1 z with s | s
    · exact e1 (by omega)
    · exact t2 s
  · refine pdb_add (pdb_sm e11) (pdb_sm ?_)
    by_cases c2 : X.length ≤ B.length
    · exact pdb_mono (pdb_mul (pdb_mono (pdb_len q) ql) e9) (by omega)
    · exact pdb_mono (pdb_mul0 (pdb_mono e9 (by omega))) (Nat.zero_le _)
  · exact pdb_mono e7 (by omega)
  · exact pdb_mono e9 (by omega)
theorem pw_nn {m n H : Nat} (h : m ≤ n) (H1 : 1 ≤ H) (hn : 1 ≤ n) : (m * H) ^ m ≤ (n * H) ^ n := by
  have a : (m * H) ^ m ≤ (n * H) ^ m := Nat.pow_le_pow_left (Nat.mul_le_mul_right _ h) m
  have b : (n * H) ^ m ≤ (n * H) ^ n := Nat.pow_le_pow_right (Nat.mul_pos hn H1) h
  omega
theorem eu_bound {A B X Y R : List Int} {H : Nat} (hA : lnz A) (hB : lnz B) (HA : pab A H) (HB : pab B H) (H1 : 1 ≤ H) (h : eu A B X Y) (hY : 1 ≤ Y.length) (hr : rr X Y R) (hR : R ≠ []) : pab R (((A.length + B.length - 2 * R.length) * H) ^ (A.length + B.length - 2 * R.length)) := by
  have l1 := (eu_step h hY hr).1
  have h2 := (eu_step h hY hr).2
  have q7 := h.2.2.2.2.2.2.1
  have q8 := h.2.2.2.2.2.2.2.1
  have q6 := h.2.2.2.2.2.1
  obtain ⟨p1, p2, p3, p4, p5, p6, p7, p8, p9, p10, u', v', u, v, c', c, d, e1, e2, e3, e4, e5, e6, e7, e8, e9, e10, e11⟩ := h2
  obtain ⟨a, ha⟩ : ∃ a, A.length = a + 1 := ⟨A.length - 1, by omega⟩
  obtain ⟨b, hb⟩ : ∃ b, B.length = b + 1 := ⟨B.length - 1, by omega⟩
  obtain ⟨y, hy⟩ : ∃ y, Y.length = y + 1 := ⟨Y.length - 1, by omega⟩
  intro k
  have R1 : 1 ≤ R.length := by
    rcases Nat.eq_zero_or_pos R.length with q | q
    · exact absurd (List.eq_nil_of_length_eq_zero q) hR
    · exact q
  have w := rem_bound (A := A) (B := B) (Y := R) (u' := u') (v' := v') (u := u) (v := v) (a := a) (b := b) (x := y) (H := H) (c := c) (d := d) (pdb_mono (pdb_len A) (by omega)) (hA a ha) (pdb_mono (pdb_len B) (by omega)) (hB b hb) HA HB H1 (by omega) (by omega) (pdb_mono (pdb_len R) (by omega)) (p5 hR) e2 e3 e5 e6 (pdb_mono e7 (by omega)) (by rw [show a - y = A.length - Y.length by omega]; exact e8) (pdb_mono e9 (by omega)) k
  refine Nat.le_trans w (pw_nn ?_ H1 ?_)
  · omega
  · omega
