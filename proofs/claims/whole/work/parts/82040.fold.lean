/-! foldRest BY VALUE -/
theorem dvd_pm {G K : List Int} {y : Int} (h : ∀ k, y ∣ pgt K k) (i : Nat) : y ∣ pgt (pmul G K) i := by
  have ex : ∀ k, ∃ z : Int, pgt K k = y * z := h
  obtain ⟨z, hz⟩ := Classical.axiomOfChoice ex
  have eK : ∀ x : Rat, pev K x = pev (psm y (pmk K.length z)) x := fun x => pev_eq (fun k => by
    rw [psm_gt, pmk_gt]
    by_cases c : k < K.length
    · rw [if_pos c]; exact hz k
    · rw [if_neg c, pgt_hi K k (by omega), Int.mul_zero]) x
  have e2 : pgt (pmul G K) i = pgt (psm y (pmul G (pmk K.length z))) i := pev_inj (fun x => by
    rw [pmul_ev, eK x, psm_ev, psm_ev, pmul_ev]
    grind) i
  rw [e2, psm_gt]
  exact Int.dvd_mul_right _ _
theorem lps_r {P G K : List Int} (hP : lps P) (hG : lps G) (e : ∀ x : Rat, pev P x = pev G x * pev K x) : lps K := by
  obtain ⟨⟨d, d1, d2⟩, pP⟩ := hP
  obtain ⟨⟨g, g1, g2⟩, _⟩ := hG
  have nK : nzp K := by
    refine Classical.byContradiction fun z => ?_
    have z' : ∀ k, pgt K k = 0 := fun k => Classical.byContradiction fun w => z ⟨k, w⟩
    have : pgt P d = 0 := pev_zero (fun x => by rw [e x, pev_eq (R := []) z' x]; show _ * (0 : Rat) = 0; rw [Rat.mul_zero]) d
    omega
  obtain ⟨k, k1, k2⟩ := top_ex nK
  obtain ⟨t1, t2⟩ := top_pr e d1 g1 (by omega) k1 k2
  have ed : g + k = d := by
    refine Nat.le_antisymm t1 (Nat.not_lt.1 fun q => ?_)
    have : pgt P d = 0 := by
      rw [show pgt P d = pgt (pmul G K) d from pev_inj (fun x => by rw [e x, pmul_ev]) d, pdb_mul g1 k1 d (by omega)]
    omega
  refine ⟨⟨k, k1, ?_⟩, fun y hy => pP y (fun i => ?_)⟩
  rotate_left
  · rw [show pgt P i = pgt (pmul G K) i from pev_inj (fun x => by rw [e x, pmul_ev]) i]
    exact dvd_pm hy i
  rw [ed] at t2
  rw [t2] at d2
  refine Int.not_le.1 fun z => ?_
  have := Int.mul_nonpos_of_nonneg_of_nonpos (Int.le_of_lt g2) z
  omega
def BF (s : im_S) (n : Nat) (p : Nat → List Int) (M : Nat → Nat → Nat) (m : Nat) : Prop := (∀ e, e < n → ply s (86 + 2 * e) (p e) ∧ pat (p e) ∧ sqf (p e) ∧ lps (p e) ∧ ∃ i, i < 10 ∧ 1 ≤ M e i) ∧ (∀ e e', e < n → e' < n → e ≠ e' → cop (p e) (p e')) ∧ ∀ e i, e < n → i < 10 → s.2 246 (10 * e + i) = (M e i : Int) ∧ M e i ≤ m
theorem BF_co {F : Nat → Nat → Prop} {R : Nat → Prop} {s s' : im_S} {n : Nat} {p : Nat → List Int} {M : Nat → Nat → Nat} {m : Nat} (h : BF s n p M m) (f : gfr F R s s') (n80 : n ≤ 80) (h1 : ∀ e, e < 80 → ¬ F (86 + 2 * e) 0) (h2 : ∀ e, e < 80 → ¬ R (86 + 2 * e + 1)) (h3 : ¬ R 246) : BF s' n p M m := by
  obtain ⟨a, b, c⟩ := h
  exact ⟨fun e he => ⟨ply_fr (a e he).1 f (h1 e (by omega)) (h2 e (by omega)), (a e he).2⟩, b, fun e i he hi => by rw [f.2 _ h3]; exact c e i he hi⟩
/-- the products are as they were, but for the atom a, whose product has the rest's share -/
def rlM (a : Nat) (p : Nat → List Int) (M : Nat → Nat → Nat) (n : Nat) (R : List Int) (p1 : Nat → List Int) (M1 : Nat → Nat → Nat) (n1 : Nat) (R1 : List Int) : Prop := (∀ i, i < 10 → i ≠ a → ∀ x : Rat, PRd p1 (fun e => M1 e i) x n1 = PRd p (fun e => M e i) x n) ∧ ∃ c d : Int, c ≠ 0 ∧ d ≠ 0 ∧ ∀ x : Rat, (c : Rat) * (PRd p1 (fun e => M1 e a) x n1 * pev R1 x) = (d : Rat) * (PRd p (fun e => M e a) x n * pev R x)
def FI (s : im_S) (n m : Nat) (D : Int) (a : Nat) (p : Nat → List Int) (M : Nat → Nat → Nat) (R : List Int) (e : Nat) (s' : im_S) : Prop := ∃ n1 p1 M1 R1, n ≤ n1 ∧ BI s' n1 D ∧ BF s' n1 p1 M1 (m + e) ∧ ply s' 265 R1 ∧ pat R1 ∧ (sqf R1 ∧ lps R1) ∧ dsp s' n1 + s'.1 265 0 ≤ D ∧ flf s s' ∧ s'.1 247 3 ≠ s'.1 247 4 ∧ (∀ j, j < n1 → (j < e ∨ n ≤ j) → cop (p1 j) R1) ∧ rlM a p M n R p1 M1 n1 R1
theorem cop_k {A B B' : List Int} {k : Int} (hk : k ≠ 0) (h : cop A B) (e : ∀ x : Rat, pev B' x = (k : Rat) * pev B x) : cop A B' := by
  obtain ⟨c, u, v, c0, h⟩ := h
  refine ⟨c * k, psm k u, v, Int.mul_ne_zero c0 hk, fun x => ?_⟩
  rw [Rat.intCast_mul, psm_ev, e x, h x]; grind
theorem cop_l {A B A' : List Int} {k : Int} (hk : k ≠ 0) (h : cop A B) (e : ∀ x : Rat, pev A' x = (k : Rat) * pev A x) : cop A' B := cop_sym (cop_k hk (cop_sym h) e)
theorem fold_99v {s s3 : im_S} {n n1 m a e j0 : Nat} {D l2 : Int} {p p1 : Nat → List Int} {M M1 : Nat → Nat → Nat} {R R1 G : List Int} {k : Int} {K7 : Int × im_S → Prop} {Q : im_S → Prop} (ha : a < 10) (nn : n ≤ n1) (hB : BI s3 n1 D) (hF : BF s3 n1 p1 M1 (m + e)) (hm : m + e ≤ 1000000) (hR : ply s3 265 R1) (pR : pat R1) (sR : sqf R1 ∧ lps R1) (hs : dsp s3 n1 + s3.1 265 0 ≤ D) (fl : flf s s3) (ne : s3.1 247 3 ≠ s3.1 247 4) (hG : ply s3 263 G) (wG : w63 G) (gn : ∃ k, pgt G k ≠ 0) (lG : lps G) (dv : dvs R1 G) (hj : j0 < n1) (k0 : k ≠ 0) (hk : ∀ x : Rat, pev (p1 j0) x = (k : Rat) * pev G x) (hcp : ∀ K : List Int, (∀ x : Rat, pev R1 x = pev G x * pev K x) → ∀ j, j < n1 → (j < e + 1 ∨ n ≤ j) → cop (p1 j) K) (hr : rlM a p M n R p1 M1 n1 R1) (hK : ∀ s', FI s n m D a p M R (e + 1) s' → K7 (w32 ((e : Int) + 1), s')) : C_foldRest0v_99 K7 (a : Int) l2 (e : Int) (j0 : Int) s3 Q := by
  have n80 := hB.2.1
  intro cI _ s4 e4
  have ix : w32 (w32 ((j0 : Int) * 10) + (a : Int)) = ((10 * j0 + a : Nat) : Int) := by
    rw [w32_id (x := (j0 : Int) * 10) (by omega) (by omega), w32_id (by omega) (by omega)]; omega
  rw [ix] at e4 cI
  have vo : cga s3 246 ((10 * j0 + a : Nat) : Int) = (M1 j0 a : Int) := by
    show s3.2 246 _ = _
    rw [Int.toNat_natCast]
    exact (hF.2.2 j0 a hj ha).1
  have f4 : gfr (fun _ _ => False) (fun c => c = 246) s3 s4 := by subst e4; exact gfr_pa (gfr_refl _ _ _) rfl
  have B4 : BI s4 n1 D := BI_co hB f4 (fun _ _ z => z) (fun e he => by omega) (fun z => z) (dI_co hB.2.2.2.2 f4 (fun z => z) (fun z => z))
  have R4 : ply s4 265 R1 := ply_fr hR f4 (fun z => z) (by omega)
  have G4 : ply s4 263 G := ply_fr hG f4 (fun z => z) (by omega)
  refine divide_b R4 G4 (by decide) (by decide) (by decide) (by decide) (pat_58 pR) wG (fun _ _ s5 K k5 e5 f5 => ?_) (fun nd s5 f5 => ?_)
  · have K5 : BI s5 n1 D := BI_co B4 f5 (fun e he => by omega) (fun e he => by omega) (by omega) (dI_co B4.2.2.2.2 f5 (by omega) (by omega))
    refine copy6_b k5 (by decide) (fun s6 h6 f6 => hK s6 ⟨n1, p1, fun j i => if j = j0 ∧ i = a then M1 j i + 1 else M1 j i, K, nn, ?_, ?_, h6, pat_r pR e5, ?_, ?_, ?_, ?_, hcp K e5, ?_⟩)
    · exact BI_co K5 f6 (fun e he => by omega) (fun e he => by omega) (by omega) (dI_co K5.2.2.2.2 f6 (by omega) (by omega))
    · have F6 : ∀ j i, j < n1 → i < 10 → s6.2 246 (10 * j + i) = s4.2 246 (10 * j + i) := fun j i _ _ => by rw [f6.2 _ (by omega), f5.2 _ (by omega)]
      refine ⟨fun j hj9 => ⟨ply_fr (ply_fr (ply_fr (hF.1 j hj9).1 f4 (fun z => z) (by omega)) f5 (by omega) (by omega)) f6 (by omega) (by omega), (hF.1 j hj9).2.1, (hF.1 j hj9).2.2.1, (hF.1 j hj9).2.2.2.1, by
        obtain ⟨i, i1, i2⟩ := (hF.1 j hj9).2.2.2.2
        refine ⟨i, i1, ?_⟩
        dsimp only
        split <;> omega⟩, hF.2.1, fun j i hj9 hi => ?_⟩
      show s6.2 246 (10 * j + i) = ((if j = j0 ∧ i = a then M1 j i + 1 else M1 j i : Nat) : Int) ∧ (if j = j0 ∧ i = a then M1 j i + 1 else M1 j i) ≤ m + (e + 1)
      rw [F6 j i hj9 hi, e4, cpa_at9, Int.toNat_natCast]
      have old := hF.2.2 j i hj9 hi
      by_cases q : j = j0 ∧ i = a
      · obtain ⟨q1, q2⟩ := q
        subst q1; subst q2
        rw [if_pos rfl, if_pos ⟨rfl, rfl⟩, vo]
        rw [w32_id (by omega) (by omega)]
        exact ⟨by omega, by omega⟩
      · rw [if_neg (fun z => q ⟨by omega, by omega⟩), if_neg q]
        exact ⟨old.1, by omega⟩
    · exact ⟨sqf_dv ⟨1, G, by decide, fun x => by rw [e5 x, rat_i1]; grind⟩ sR.1, lps_r sR.2 lG e5⟩
    · have d6 := dgo_mul hR.2 hG.2 h6.2 e5 (pat_0 pR)
      have g0 := dgo_0 hG.2 gn
      have ed : dsp s6 n1 = dsp s3 n1 := by
        rw [dsp_co (s := s5) (fun e he => f6.1 _ _ (by omega)), dsp_co (s := s4) (fun e he => f5.1 _ _ (by omega)), dsp_co (s := s3) (fun e he => f4.1 _ _ (fun z => z))]
      rw [ed]; omega
    · exact gfr_trans fl (gfr_trans (gfr_mono f4 (fun c k e => e.elim) (fun c e => by omega)) (gfr_trans (gfr_mono f5 (fun c k e => by omega) (fun c e => by omega)) (gfr_mono f6 (fun c k e => by omega) (fun c e => by omega))))
    · rw [f6.1 _ _ (by omega), f6.1 _ _ (by omega), f5.1 _ _ (by omega), f5.1 _ _ (by omega), f4.1 _ _ (fun z => z), f4.1 _ _ (fun z => z)]; exact ne
    · obtain ⟨r1, c, d, c0, d0, r2⟩ := hr
      refine ⟨fun i hi ia x => ?_, c, d * k, c0, Int.mul_ne_zero d0 k0, fun x => ?_⟩
      · rw [← r1 i hi ia x]
        exact PRd_co (fun j _ => ⟨rfl, if_neg (fun z => ia z.2)⟩)
      · have inc := PRd_inc (p := p1) (m := fun j => M1 j a) (m' := fun j => if j = j0 ∧ a = a then M1 j a + 1 else M1 j a) (x := x) hj (if_pos ⟨rfl, rfl⟩) (fun j _ h => if_neg (fun z => h z.1))
        rw [inc, hk x, Rat.intCast_mul]
        have := r2 x
        rw [e5 x] at this
        grind
  · exfalso
    rcases nd with q | q
    · exact q dv
    · obtain ⟨k, hk⟩ := gn
      exact hk (q k)
