/-! THE FINDER: the value at a point -/
def v4 (v : Nat) : Prop := v = 569 ∨ v = 571 ∨ v = 573 ∨ v = 575
set_option maxRecDepth 100000 in
theorem gln_v : gln 570 = 196 ∧ gln 572 = 196 ∧ gln 574 = 196 ∧ gln 576 = 196 ∧ gln 564 = 196 ∧ gln 566 = 196 ∧ gln 562 = 24 ∧ gln 556 = 24 ∧ gln 558 = 24 ∧ gln 560 = 24 ∧ gln 568 = 24 := by decide +kernel
theorem gln_v4 {v : Nat} (h : v4 v) : gln (v + 1) = 196 := by
  have g := gln_v
  rcases h with h | h | h | h <;> subst h
  · exact g.1
  · exact g.2.1
  · exact g.2.2.1
  · exact g.2.2.2.1
def W24 : Int := 4294967296 ^ 24
def W196 : Int := 4294967296 ^ 196
theorem rm_v4 {v : Nat} (h : v4 v) : (4294967296 : Int) ^ rm9 v = W196 := by unfold rm9 W196; rw [gln_v4 h]; rfl
theorem rm563 : (4294967296 : Int) ^ rm9 563 = W196 := by unfold rm9 W196; rw [gln_v.2.2.2.2.1]; rfl
theorem rm565 : (4294967296 : Int) ^ rm9 565 = W196 := by unfold rm9 W196; rw [gln_v.2.2.2.2.2.1]; rfl
theorem rm561 : (4294967296 : Int) ^ rm9 561 = W24 := by unfold rm9 W24; rw [gln_v.2.2.2.2.2.2.1]; rfl
theorem rm555 : (4294967296 : Int) ^ rm9 555 = W24 := by unfold rm9 W24; rw [gln_v.2.2.2.2.2.2.2.1]; rfl
theorem rm557 : (4294967296 : Int) ^ rm9 557 = W24 := by unfold rm9 W24; rw [gln_v.2.2.2.2.2.2.2.2.1]; rfl
theorem rm559 : (4294967296 : Int) ^ rm9 559 = W24 := by unfold rm9 W24; rw [gln_v.2.2.2.2.2.2.2.2.2.1]; rfl
theorem rm567 : (4294967296 : Int) ^ rm9 567 = W24 := by unfold rm9 W24; rw [gln_v.2.2.2.2.2.2.2.2.2.2]; rfl
def Y6 : Nat := 2 ^ 680
def sz8 : Bool := decide (((9 * (15482880000000000 * Y6 ^ 8) : Nat) : Int) < W196) && decide (((8 * (15482880000000000 * Y6 ^ 7) : Nat) : Int) < 4294967296 ^ 152) && decide (((Y6 : Nat) : Int) < 4294967296 ^ 22) && decide (((Y6 * 4 : Nat) : Int) < W24)
theorem sz8_t : sz8 = true := by decide +kernel
theorem sz8_1 : ((9 * (15482880000000000 * Y6 ^ 8) : Nat) : Int) < W196 := by
  have h := sz8_t
  simp only [sz8, Bool.and_eq_true, decide_eq_true_eq] at h
  exact h.1.1.1
theorem sz8_2 : ((8 * (15482880000000000 * Y6 ^ 7) : Nat) : Int) < 4294967296 ^ 152 := by
  have h := sz8_t
  simp only [sz8, Bool.and_eq_true, decide_eq_true_eq] at h
  exact h.1.1.2
theorem sz8_3 : ((Y6 : Nat) : Int) < 4294967296 ^ 22 := by
  have h := sz8_t
  simp only [sz8, Bool.and_eq_true, decide_eq_true_eq] at h
  exact h.1.2
theorem sz8_4 : ((Y6 * 4 : Nat) : Int) < W24 := by
  have h := sz8_t
  simp only [sz8, Bool.and_eq_true, decide_eq_true_eq] at h
  exact h.2
/-- Horner's scheme with powers of two -/
def hrn (P : List Int) (pt : Int) (B d : Nat) : Nat → Int
  | 0 => pgt P d
  | k + 1 => hrn P pt B d k * pt + pgt P (d - (k + 1)) * 2 ^ (B * (k + 1))
theorem hrn_bd {P : List Int} {pt : Int} {B d : Nat} (bP : pab P 15482880000000000) (hp : pt.natAbs ≤ Y6) (hB : B ≤ 680) : ∀ k, (hrn P pt B d k).natAbs ≤ (k + 1) * (15482880000000000 * Y6 ^ k)
  | 0 => by
    have := bP d
    show (pgt P d).natAbs ≤ _
    rw [Nat.pow_zero]; omega
  | k + 1 => by
    have ih := hrn_bd (d := d) bP hp hB k
    have a := bP (d - (k + 1))
    have p2 : (2 : Nat) ^ (B * (k + 1)) ≤ Y6 ^ (k + 1) := by
      rw [Nat.pow_mul]
      exact Nat.pow_le_pow_left (Nat.pow_le_pow_right (by decide) hB) _
    have t1 : (hrn P pt B d k * pt).natAbs ≤ (k + 1) * (15482880000000000 * Y6 ^ k) * Y6 := by
      rw [Int.natAbs_mul]; exact Nat.mul_le_mul ih hp
    have t2 : (pgt P (d - (k + 1)) * 2 ^ (B * (k + 1))).natAbs ≤ 15482880000000000 * Y6 ^ (k + 1) := by
      rw [Int.natAbs_mul, Int.natAbs_pow]; exact Nat.mul_le_mul a p2
    have e1 : (k + 1) * (15482880000000000 * Y6 ^ k) * Y6 = (k + 1) * (15482880000000000 * Y6 ^ (k + 1)) := by rw [Nat.pow_succ]; grind
    have e2 : (k + 1 + 1) * (15482880000000000 * Y6 ^ (k + 1)) = (k + 1) * (15482880000000000 * Y6 ^ (k + 1)) + 15482880000000000 * Y6 ^ (k + 1) := Nat.succ_mul _ _
    show (hrn P pt B d k * pt + pgt P (d - (k + 1)) * 2 ^ (B * (k + 1))).natAbs ≤ _
    rw [e1] at t1
    generalize 15482880000000000 * Y6 ^ (k + 1) = Z at t1 t2 e2 ⊢
    generalize (k + 1) * Z = Z2 at t1 e2
    omega
theorem y6mono {k n : Nat} (h : k ≤ n) : (k + 1) * (15482880000000000 * Y6 ^ k) ≤ (n + 1) * (15482880000000000 * Y6 ^ n) := by
  have : Y6 ^ k ≤ Y6 ^ n := Nat.pow_le_pow_right (Nat.pow_pos (by decide)) h
  exact Nat.mul_le_mul (by omega) (Nat.mul_le_mul_left _ this)
theorem y6m {k n m : Nat} (h : k ≤ n) (hm : n + 1 = m) : (k + 1) * (15482880000000000 * Y6 ^ k) ≤ m * (15482880000000000 * Y6 ^ n) := by
  subst hm; exact y6mono h
theorem hrn_ev {P : List Int} {pt : Int} {B d : Nat} : ∀ k, k ≤ d → (hrn P pt B d k : Rat) = (2 ^ B) ^ k * pev (pmk (k + 1) (fun j => pgt P (d - k + j))) ((pt : Rat) / 2 ^ B)
  | 0, _ => by
    show (pgt P d : Rat) = _ * ((pgt P (d - 0 + 0) : Rat) + _ * 0)
    rw [Nat.sub_zero, Nat.add_zero]; grind
  | k + 1, h => by
    have ih := hrn_ev (P := P) (pt := pt) (B := B) (d := d) k (by omega)
    have p := q2p B
    show ((hrn P pt B d k * pt + pgt P (d - (k + 1)) * 2 ^ (B * (k + 1)) : Int) : Rat) = _
    rw [pev_mks, pmk_co (f := fun j => pgt P (d - (k + 1) + (j + 1))) (g := fun j => pgt P (d - k + j)) (fun j _ => by rw [show d - (k + 1) + (j + 1) = d - k + j by omega]), Nat.add_zero, Rat.intCast_add, Rat.intCast_mul, Rat.intCast_mul, Rat.intCast_pow, ih]
    have e2 : ((2 : Int) : Rat) = 2 := rfl
    have e3 : (2 : Rat) ^ (B * (k + 1)) = (2 ^ B) ^ (k + 1) := by
      have : ∀ m : Nat, (2 : Rat) ^ (B * m) = (2 ^ B) ^ m := by
        intro m
        induction m with
        | zero => rfl
        | succ m ih => rw [Nat.mul_succ, rp_ad, ih, Rat.pow_succ]
      exact this _
    rw [e2, e3, Rat.pow_succ]
    grind
def svf (v : Nat) (s s' : im_S) : Prop := gfr (fun c f => (c = v ∨ c = 561 ∨ c = 563 ∨ c = 565) ∧ (f = 1 ∨ f = 2)) (fun c => c = v + 1 ∨ c = 562 ∨ c = 564 ∨ c = 566) s s'
theorem setValue_b {s : im_S} {v p a d : Nat} {P : List Int} {at9 b : Int} {Q : im_S → Prop} (hv : v4 v) (hP : ply s p P) (p1 : 86 ≤ p) (p2 : p < 246) (hd : s.1 p 0 = (d : Int)) (bP : pab P 15482880000000000) (ha : big s a at9) (a1 : a = 555 ∨ a = 557 ∨ (311 ≤ a ∧ a < 551)) (b1 : -32 ≤ b) (b2 : b ≤ 640) (hat : (at9.natAbs : Int) ≤ 2 ^ (b + 36).toNat) (hQ : ∀ s' w, big s' v w → (∃ ka : Rat, 0 < ka ∧ (w : Rat) = ka * pev P (xv at9 b)) → svf v s s' → Q s') : C_setValue3 v p a b s Q := by
  have d8 : d ≤ 8 := by have := hP.2.2.1; omega
  have hP1 : pdb P (d + 1) := by have := hP.2.2.2.1; rw [hd, show ((d : Int) + 1).toNat = d + 1 by omega] at this; exact this
  have v1 : v = 569 ∨ v = 571 ∨ v = 573 ∨ v = 575 := hv
  have gv := gln_v
  have gvv := gln_v4 hv
  obtain ⟨B, hB⟩ : ∃ B : Nat, B = b.toNat := ⟨_, rfl⟩
  obtain ⟨pt, hpt⟩ : ∃ pt, pt = at9 * 2 ^ (-b).toNat := ⟨_, rfl⟩
  have ptA : (pt.natAbs : Int) = (at9.natAbs : Int) * 2 ^ (-b).toNat := by
    rw [hpt, Int.natAbs_mul, Int.natCast_mul, Int.natAbs_pow, Int.natCast_pow]; rfl
  have ptb : pt.natAbs ≤ Y6 := by
    have h1 : (at9.natAbs : Int) * 2 ^ (-b).toNat ≤ 2 ^ (b + 36).toNat * 2 ^ (-b).toNat := Int.mul_le_mul_of_nonneg_right hat (Int.le_of_lt (p2p _))
    rw [← Int.pow_add] at h1
    have h2 : (2 : Int) ^ ((b + 36).toNat + (-b).toNat) ≤ 2 ^ 680 := p2mono (by omega)
    have h3 : ((Y6 : Nat) : Int) = 2 ^ 680 := by unfold Y6; rw [Int.natCast_pow]; rfl
    rw [← h3] at h2
    omega
  have xat : (pt : Rat) / 2 ^ B = xv at9 b := by
    rw [hpt, hB, Rat.intCast_mul, Rat.intCast_pow]
    have e2 : ((2 : Int) : Rat) = 2 := rfl
    rw [e2]
    unfold xv
    have p1 := q2p b.toNat
    by_cases h : 0 ≤ b
    · rw [if_pos h, show (-b).toNat = 0 by omega]; grind
    · rw [if_neg h, show b.toNat = 0 by omega]; grind
  have s4 := sz8_4
  have atb : (at9.natAbs : Int) ≤ ((Y6 : Nat) : Int) := by
    have := p2p (-b).toNat
    have h0 : (at9.natAbs : Int) * 1 ≤ (at9.natAbs : Int) * 2 ^ (-b).toNat := Int.mul_le_mul_of_nonneg_left (by omega) (by omega)
    omega
  refine copy_b ha (by omega) (by rw [rm561]; omega) (by rw [gv.2.2.2.2.2.2.1]; decide) (fun s1 h1 f1 => ?_)
  have g1 : svf v s s1 := gfr_b (gfr_refl _ _ _) f1 (by omega) (by omega) (by omega)
  have eb : w32 (-b) = -b := w32_id (by omega) (by omega)
  rw [eb]
  refine shiftUp_b h1 (by omega) (by rw [gv.2.2.2.2.2.2.1]; decide) (by rw [gv.2.2.2.2.2.2.1]; decide) (by rw [rm561, ← ptA]; omega) (fun s2 h2 f2 => ?_)
  rw [← hpt] at h2
  have g2 : svf v s s2 := gfr_b g1 f2 (by omega) (by omega) (by omega)
  have hP2 : ply s2 p P := ply_fr hP g2 (by omega) (by omega)
  have hd2 : s2.1 p 0 = (d : Int) := by rw [g2.1 _ _ (by omega)]; exact hd
  refine lead6_b hP2 ?_
  have eL : ldc (s2.1 p 0) P = pgt P d := by unfold ldc; rw [hd2, if_pos (by omega), Int.toNat_natCast]
  rw [eL]
  have bL := bP d
  refine set_b ⟨by omega, by omega⟩ (by omega) (by omega) (fun s3 h3 f3 => ?_)
  have g3 : svf v s s3 := gfr_b g2 f3 (by omega) (by omega) (by omega)
  have hd3 : cgf s3 p 0 = (d : Int) := by show s3.1 p 0 = _; rw [g3.1 _ _ (by omega)]; exact hd
  rw [hd3, w32_id (x := (d : Int) - 1) (by omega) (by omega)]
  have pt3 : big s3 561 pt := big_fr h2 f3 (by omega)
  refine ⟨fun q => ∃ k : Nat, k ≤ d ∧ q.1 = (d : Int) - 1 - k ∧ big q.2 v (hrn P pt B d k) ∧ big q.2 561 pt ∧ svf v s q.2, ⟨0, by omega, by dsimp only; omega, h3, pt3, g3⟩, ?_⟩
  rintro ⟨x, s4'⟩ ⟨k, kd, ex, h4, pt4, g4⟩
  dsimp only at ex h4 pt4 g4 ⊢
  refine ⟨fun c => ?_, fun c => ?_⟩
  · have : k = d := by omega
    subst this
    refine hQ s4' _ h4 ⟨(2 ^ B) ^ k, rp_pos (q2p B) k, ?_⟩ g4
    rw [hrn_ev k (Nat.le_refl _), xat]
    congr 1
    rw [pmk_co (g := pgt P) (fun j _ => by rw [Nat.sub_self, Nat.zero_add]), pdb_ev hP1]
  · have hb := hrn_bd (d := d) bP ptb (show B ≤ 680 by omega) k
    have hb2 := y6m (show k ≤ 7 by omega) (show 7 + 1 = 8 from rfl)
    have s2 := sz8_2
    have s1 := sz8_1
    have s3 := sz8_3
    have hbk := hrn_bd (d := d) bP ptb (show B ≤ 680 by omega) (k + 1)
    have hbk2 := y6m (show k + 1 ≤ 8 by omega) (show 8 + 1 = 9 from rfl)
    have q1 : ((hrn P pt B d k).natAbs : Int) < 4294967296 ^ 152 := Int.lt_of_le_of_lt (Int.ofNat_le.2 (Nat.le_trans hb hb2)) s2
    have q2 : (pt.natAbs : Int) < 4294967296 ^ 22 := Int.lt_of_le_of_lt (Int.ofNat_le.2 ptb) s3
    clear s2 s3
    refine setProduct_b h4 pt4 (by omega) (by omega) (by rw [gv.2.2.2.2.2.1]; decide) 152 22 q1 q2 (by rw [gv.2.2.2.2.2.1]; decide) (fun s5 h5 f5 => ?_)
    have g5 : svf v s s5 := gfr_b g4 f5 (by omega) (by omega) (by omega)
    have hmul : (hrn P pt B d k * pt).natAbs ≤ 9 * (15482880000000000 * Y6 ^ 8) := by
      rw [Int.natAbs_mul]
      have a : (hrn P pt B d k).natAbs * pt.natAbs ≤ (k + 1) * (15482880000000000 * Y6 ^ k) * Y6 := Nat.mul_le_mul hb ptb
      have e1 : (k + 1) * (15482880000000000 * Y6 ^ k) * Y6 = (k + 1) * (15482880000000000 * Y6 ^ (k + 1)) := by rw [Nat.pow_succ]; grind
      have e2 : (k + 1) * (15482880000000000 * Y6 ^ (k + 1)) ≤ (k + 1 + 1) * (15482880000000000 * Y6 ^ (k + 1)) := Nat.mul_le_mul_right _ (by omega)
      omega
    refine copy_b h5 (by omega) (by rw [rm_v4 hv]; omega) (by omega) (fun s6 h6 f6 => ?_)
    have g6 : svf v s s6 := gfr_b g5 f6 (by omega) (by omega) (by omega)
    have pt6 : big s6 561 pt := big_fr (big_fr pt4 f5 (by omega)) f6 (by omega)
    obtain ⟨i, hi⟩ : ∃ i : Nat, x = (i : Int) := ⟨x.toNat, by omega⟩
    subst hi
    have ik : i = d - (k + 1) := by omega
    have hP6 : ply s6 p P := ply_fr hP g6 (by omega) (by omega)
    have ev : cga s6 (p + 1) (i : Int) = pgt P i := by
      show s6.2 (p + 1) ((i : Nat) : Int).toNat = _
      rw [Int.toNat_natCast]
      exact hP6.1 i (by omega)
    have ei : w32 ((i : Int) + -1) = (d : Int) - 1 - ((k + 1 : Nat) : Int) := by rw [w32_id (by omega) (by omega)]; omega
    intro _
    rw [ev]
    refine ⟨fun z => ⟨k + 1, by omega, ei, ?_, pt6, g6⟩, fun z _ => ?_⟩
    · show big s6 v (hrn P pt B d k * pt + pgt P (d - (k + 1)) * 2 ^ (B * (k + 1)))
      rw [← ik, z, Int.zero_mul, Int.add_zero]; exact h6
    · have bi := bP i
      refine set_b ⟨by omega, by omega⟩ (by omega) (by rw [gv.2.2.2.2.1]; decide) (fun s7 h7 f7 => ?_)
      have g7 : svf v s s7 := gfr_b g6 f7 (by omega) (by omega) (by omega)
      have hd7 : cgf s7 p 0 = (d : Int) := by show s7.1 p 0 = _; rw [g7.1 _ _ (by omega)]; exact hd
      have e1 : w32 (cgf s7 p 0 - (i : Int)) = ((k + 1 : Nat) : Int) := by rw [hd7, w32_id (by omega) (by omega)]; omega
      have bnd : b * ((k + 1 : Nat) : Int) ≤ 640 * ((k + 1 : Nat) : Int) := Int.mul_le_mul_of_nonneg_right b2 (by omega)
      have bnd2 : -32 * ((k + 1 : Nat) : Int) ≤ b * ((k + 1 : Nat) : Int) := Int.mul_le_mul_of_nonneg_right b1 (by omega)
      have e2 : w32 (b * w32 (cgf s7 p 0 - (i : Int))) = b * ((k + 1 : Nat) : Int) := by rw [e1, w32_id (by omega) (by omega)]
      have e3 : (b * ((k + 1 : Nat) : Int)).toNat = B * (k + 1) := by
        rw [hB]
        by_cases hb0 : 0 ≤ b
        · rw [show b = ((b.toNat : Nat) : Int) by omega, ← Int.natCast_mul, Int.toNat_natCast, Int.toNat_natCast]
        · have : b * ((k + 1 : Nat) : Int) ≤ 0 := Int.mul_nonpos_of_nonpos_of_nonneg (by omega) (by omega)
          rw [show b.toNat = 0 by omega, Nat.zero_mul]; omega
      rw [e2]
      have tA : ((pgt P i).natAbs : Int) * 2 ^ (b * ((k + 1 : Nat) : Int)).toNat = ((pgt P i * 2 ^ (B * (k + 1))).natAbs : Int) := by
        rw [e3, Int.natAbs_mul, Int.natCast_mul, Int.natAbs_pow, Int.natCast_pow]; rfl
      have tb : (pgt P i * 2 ^ (B * (k + 1))).natAbs ≤ 15482880000000000 * Y6 ^ (k + 1) := by
        rw [Int.natAbs_mul, Int.natAbs_pow]
        refine Nat.mul_le_mul bi ?_
        rw [Nat.pow_mul]
        exact Nat.pow_le_pow_left (Nat.pow_le_pow_right (by decide) (show B ≤ 680 by omega)) _
      have tb2 : 1 * (15482880000000000 * Y6 ^ (k + 1)) ≤ (k + 1 + 1) * (15482880000000000 * Y6 ^ (k + 1)) := Nat.mul_le_mul_right _ (by omega)
      refine shiftUp_b h7 (by omega) (by rw [gv.2.2.2.2.1]; decide) (by rw [gv.2.2.2.2.1]; decide) (by rw [rm563, tA]; omega) (fun s8 h8 f8 => ?_)
      have g8 : svf v s s8 := gfr_b g7 f8 (by omega) (by omega) (by omega)
      rw [e3] at h8
      have h68 : big s8 v (hrn P pt B d k * pt) := big_fr (big_fr h6 f7 (by omega)) f8 (by omega)
      have sum : (hrn P pt B d k * pt).natAbs + (pgt P i * 2 ^ (B * (k + 1))).natAbs ≤ 9 * (15482880000000000 * Y6 ^ 8) := by
        have a : (hrn P pt B d k * pt).natAbs ≤ (k + 1) * (15482880000000000 * Y6 ^ (k + 1)) := by
          rw [Int.natAbs_mul]
          have a : (hrn P pt B d k).natAbs * pt.natAbs ≤ (k + 1) * (15482880000000000 * Y6 ^ k) * Y6 := Nat.mul_le_mul hb ptb
          have e1 : (k + 1) * (15482880000000000 * Y6 ^ k) * Y6 = (k + 1) * (15482880000000000 * Y6 ^ (k + 1)) := by rw [Nat.pow_succ]; grind
          omega
        have e2 : (k + 1 + 1) * (15482880000000000 * Y6 ^ (k + 1)) = (k + 1) * (15482880000000000 * Y6 ^ (k + 1)) + 15482880000000000 * Y6 ^ (k + 1) := Nat.succ_mul _ _
        omega
      refine add_b h68 h8 (by omega) (by omega) (Or.inl rfl) (by rw [rm_v4 hv]; omega) (fun s9 h9 f9 => ⟨k + 1, by omega, ei, ?_, ?_, ?_⟩)
      · show big s9 v (hrn P pt B d k * pt + pgt P (d - (k + 1)) * 2 ^ (B * (k + 1)))
        rw [← ik]
        rw [Int.one_mul] at h9
        exact h9
      · exact big_fr (big_fr (big_fr pt6 f7 (by omega)) f8 (by omega)) f9 (by omega)
      · exact gfr_b g8 f9 (by omega) (by omega) (by omega)
