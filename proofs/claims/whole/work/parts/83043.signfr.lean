/-! THE SIGN OF A PIECE AT A FRACTION, BY VALUE -/
def Z62 : Nat := 4611686018427387904
def szZ : Bool := decide (((9 * (15482880000000000 * Z62 ^ 8) : Nat) : Int) < W196) && decide (((8 * (15482880000000000 * Z62 ^ 7) : Nat) : Int) < 4294967296 ^ 16) && decide (((Z62 ^ 8 : Nat) : Int) < 4294967296 ^ 16) && decide ((4294967296 : Int) ^ 16 < W24) && decide (((Z62 : Nat) : Int) < 4294967296 ^ 2)
theorem szZ_t : szZ = true := by decide +kernel
theorem szZ_a : ((9 * (15482880000000000 * Z62 ^ 8) : Nat) : Int) < W196 ∧ ((8 * (15482880000000000 * Z62 ^ 7) : Nat) : Int) < 4294967296 ^ 16 ∧ ((Z62 ^ 8 : Nat) : Int) < 4294967296 ^ 16 ∧ (4294967296 : Int) ^ 16 < W24 ∧ ((Z62 : Nat) : Int) < 4294967296 ^ 2 := by
  have h := szZ_t
  simp only [szZ, Bool.and_eq_true, decide_eq_true_eq] at h
  exact ⟨h.1.1.1.1, h.1.1.1.2, h.1.1.2, h.1.2, h.2⟩
def hor (P : List Int) (a q : Int) (d : Nat) : Nat → Int
  | 0 => pgt P d
  | k + 1 => hor P a q d k * a + pgt P (d - (k + 1)) * q ^ (k + 1)
theorem hor_m {P : List Int} {a q : Int} {d k : Nat} (ha : a.natAbs ≤ Z62) (ih : (hor P a q d k).natAbs ≤ (k + 1) * (15482880000000000 * Z62 ^ k)) : (hor P a q d k * a).natAbs ≤ (k + 1) * (15482880000000000 * Z62 ^ (k + 1)) := by
  rw [Int.natAbs_mul, Nat.pow_succ]
  have := Nat.mul_le_mul ih ha
  grind
theorem pw_bd {q : Int} {k : Nat} (hq : q.natAbs ≤ Z62) : (q ^ k).natAbs ≤ Z62 ^ k := by
  rw [Int.natAbs_pow]; exact Nat.pow_le_pow_left hq _
theorem hor_t {P : List Int} {q : Int} {i k : Nat} (bP : pab P 15482880000000000) (hq : q.natAbs ≤ Z62) : (pgt P i * q ^ k).natAbs ≤ 15482880000000000 * Z62 ^ k := by
  rw [Int.natAbs_mul]; exact Nat.mul_le_mul (bP i) (pw_bd hq)
theorem hor_bd {P : List Int} {a q : Int} {d : Nat} (bP : pab P 15482880000000000) (ha : a.natAbs ≤ Z62) (hq : q.natAbs ≤ Z62) : ∀ k, (hor P a q d k).natAbs ≤ (k + 1) * (15482880000000000 * Z62 ^ k)
  | 0 => by
    have := bP d
    show (pgt P d).natAbs ≤ _
    rw [Nat.pow_zero]; omega
  | k + 1 => by
    have t1 := hor_m ha (hor_bd (d := d) bP ha hq k)
    have t2 := hor_t (i := d - (k + 1)) (k := k + 1) bP hq
    have e2 : (k + 1 + 1) * (15482880000000000 * Z62 ^ (k + 1)) = (k + 1) * (15482880000000000 * Z62 ^ (k + 1)) + 15482880000000000 * Z62 ^ (k + 1) := Nat.succ_mul _ _
    show (hor P a q d k * a + pgt P (d - (k + 1)) * q ^ (k + 1)).natAbs ≤ _
    generalize 15482880000000000 * Z62 ^ (k + 1) = Z at t1 t2 e2 ⊢
    generalize (k + 1) * Z = Z2 at t1 e2
    omega
theorem zmono {k n m : Nat} (h : k ≤ n) (hm : n + 1 = m) : (k + 1) * (15482880000000000 * Z62 ^ k) ≤ m * (15482880000000000 * Z62 ^ n) := by
  subst hm
  have : Z62 ^ k ≤ Z62 ^ n := Nat.pow_le_pow_right (by decide) h
  exact Nat.mul_le_mul (by omega) (Nat.mul_le_mul_left _ this)
theorem hor_ev {P : List Int} {a q : Int} {d : Nat} (q0 : 0 < q) : ∀ k, k ≤ d → (hor P a q d k : Rat) = (q : Rat) ^ k * pev (pmk (k + 1) (fun j => pgt P (d - k + j))) ((a : Rat) / q)
  | 0, _ => by
    show (pgt P d : Rat) = _ * ((pgt P (d - 0 + 0) : Rat) + _ * 0)
    rw [Nat.sub_zero, Nat.add_zero]; grind
  | k + 1, h => by
    have ih := hor_ev (P := P) (a := a) (d := d) q0 k (by omega)
    have p : (0 : Rat) < q := Rat.intCast_pos.2 q0
    show ((hor P a q d k * a + pgt P (d - (k + 1)) * q ^ (k + 1) : Int) : Rat) = _
    rw [pev_mks, pmk_co (f := fun j => pgt P (d - (k + 1) + (j + 1))) (g := fun j => pgt P (d - k + j)) (fun j _ => by rw [show d - (k + 1) + (j + 1) = d - k + j by omega]), Nat.add_zero, Rat.intCast_add, Rat.intCast_mul, Rat.intCast_mul, Rat.intCast_pow, ih, Rat.pow_succ]
    grind
theorem sign_rg {w : Int} {ka y : Rat} (hk : 0 < ka) (e : (w : Rat) = ka * y) : w.sign = rsg y := by
  have h := rsg_mul (x := y) hk
  rw [← e] at h
  rw [← h]
  rcases Int.lt_trichotomy w 0 with c | c | c
  · rw [Int.sign_eq_neg_one_of_neg c, rsg_neg (Rat.intCast_neg_iff.2 c)]
  · subst c; rfl
  · rw [Int.sign_eq_one_of_pos c, rsg_pos (Rat.intCast_pos.2 c)]
theorem signAtF_v {s : im_S} {p d : Nat} {P : List Int} {a q : Int} {Q : Int → im_S → Prop} (hf : ∃ lo hi mi ot, fq s lo hi mi ot) (hP : ply s p P) (p1 : 86 ≤ p) (p2 : p < 246) (hd : s.1 p 0 = (d : Int)) (bP : pab P 15482880000000000) (ha : a.natAbs ≤ Z62) (q1 : 1 ≤ q) (hq : q.natAbs ≤ Z62) (hQ : ∀ s', wkf s s' → Q (rsg (pev P ((a : Rat) / q))) s') : C_signAtFraction3 p a q s Q := by
  obtain ⟨lo, hi, mi, ot, hfq⟩ := hf
  have v := hfq.2.1.2.2.2
  have v1 : ot = 569 ∨ ot = 571 ∨ ot = 573 ∨ ot = 575 := v
  have u := v4_r v
  have d8 : d ≤ 8 := by have := hP.2.2.1; omega
  have hP1 : pdb P (d + 1) := by have := hP.2.2.2.1; rw [hd, show ((d : Int) + 1).toNat = d + 1 by omega] at this; exact this
  have gv := gln_v
  have gvv := gln_v4 v
  have aB : a.natAbs ≤ 4611686018427387904 := ha
  have qB : q.natAbs ≤ 4611686018427387904 := hq
  have cr : ∀ s', wkf s s' → crf s' 83 16 = ot := fun s' w => (fq_r (fq_co hfq w (fun k => by omega))).2.2.2
  refine set_b ⟨by omega, by omega⟩ (by omega) (by rw [gv.2.2.2.2.2.2.1]; decide) (fun s1 h1 f1 => ?_)
  refine set_b ⟨by omega, by omega⟩ (by omega) (by rw [gv.2.2.2.2.2.2.2.1]; decide) (fun s2 h2 f2 => ?_)
  refine set_b ⟨by omega, by omega⟩ (by omega) (by rw [gv.2.2.2.2.2.2.2.2.2.2]; decide) (fun s3 h3 f3 => ?_)
  have w3 : wkf s s3 := wkf_b (wkf_b (wkf_b (gfr_refl _ _ _) f1 (by omega) (by omega)) f2 (by omega) (by omega)) f3 (by omega) (by omega)
  have hP3 : ply s3 p P := ply_fr hP w3 (by omega) (by omega)
  have hd3 : s3.1 p 0 = (d : Int) := by rw [w3.1 _ _ (by omega)]; exact hd
  refine lead6_b hP3 ?_
  have eL : ldc (s3.1 p 0) P = pgt P d := by unfold ldc; rw [hd3, if_pos (by omega), Int.toNat_natCast]
  rw [eL, cr s3 w3]
  have bL := bP d
  refine set_b ⟨by omega, by omega⟩ (by omega) (by omega) (fun s4 h4 f4 => ?_)
  have w4 : wkf s s4 := wkf_b w3 f4 (by omega) (by omega)
  have hd4 : cgf s4 p 0 = (d : Int) := by show s4.1 p 0 = _; rw [w4.1 _ _ (by omega)]; exact hd
  rw [hd4, w32_id (x := (d : Int) - 1) (by omega) (by omega)]
  refine ⟨fun z => ∃ k : Nat, k ≤ d ∧ z.1 = (d : Int) - 1 - k ∧ big z.2 ot (hor P a q d k) ∧ big z.2 561 a ∧ big z.2 555 q ∧ big z.2 567 (q ^ k) ∧ wkf s z.2, ⟨0, by omega, by dsimp only; omega, h4, big_fr (big_fr (big_fr h1 f2 (by omega)) f3 (by omega)) f4 (by omega), big_fr (big_fr h2 f3 (by omega)) f4 (by omega), by dsimp only; rw [Int.pow_zero]; exact big_fr h3 f4 (by omega), w4⟩, ?_⟩
  rintro ⟨x, s5⟩ ⟨k, kd, ex, h5, a5, q5, p5, w5⟩
  dsimp only at ex h5 a5 q5 p5 w5 ⊢
  unfold C_signAtFraction3_44
  rw [cr s5 w5]
  refine ⟨fun c => ?_, fun c => ?_⟩
  · have : k = d := by omega
    subst this
    rw [show cgf s5 ot 2 = (hor P a q k k).sign from big_mk h5]
    have e := hor_ev (P := P) (a := a) (d := k) (q := q) (by omega) k (Nat.le_refl _)
    rw [pmk_co (g := pgt P) (fun j _ => by rw [Nat.sub_self, Nat.zero_add]), pdb_ev hP1] at e
    rw [sign_rg (rp_pos (Rat.intCast_pos.2 (show 0 < q by omega)) k) e]
    exact hQ s5 w5
  · obtain ⟨z1, z2, z3, z4, z5⟩ := szZ_a
    have hb := hor_bd (d := d) bP ha hq k
    have hb2 := zmono (show k ≤ 7 by omega) (show 7 + 1 = 8 from rfl)
    have hm := hor_m ha hb
    have hm2 := zmono (show k + 1 ≤ 8 by omega) (show 8 + 1 = 9 from rfl)
    have hs : (k + 1 + 1) * (15482880000000000 * Z62 ^ (k + 1)) = (k + 1) * (15482880000000000 * Z62 ^ (k + 1)) + 15482880000000000 * Z62 ^ (k + 1) := Nat.succ_mul _ _
    have b1 : ((hor P a q d k).natAbs : Int) < 4294967296 ^ 16 := Int.lt_of_le_of_lt (Int.ofNat_le.2 (Nat.le_trans hb hb2)) z2
    have b2 : (a.natAbs : Int) < 4294967296 ^ 2 := Int.lt_of_le_of_lt (Int.ofNat_le.2 ha) z5
    have b3 : (q.natAbs : Int) < 4294967296 ^ 2 := Int.lt_of_le_of_lt (Int.ofNat_le.2 hq) z5
    have pw : ∀ j, j ≤ 8 → ((q ^ j).natAbs : Int) < 4294967296 ^ 16 := fun j hj => Int.lt_of_le_of_lt (Int.ofNat_le.2 (Nat.le_trans (pw_bd hq) (Nat.pow_le_pow_right (by decide) hj))) z3
    have m9 : (hor P a q d k * a).natAbs ≤ 9 * (15482880000000000 * Z62 ^ 8) := by omega
    have m9' : ((hor P a q d k * a).natAbs : Int) < W196 := Int.lt_of_le_of_lt (Int.ofNat_le.2 m9) z1
    refine setProduct_b h5 a5 (by omega) (by decide) (by rw [gv.2.2.2.2.2.1]; decide) 16 2 b1 b2 (by rw [gv.2.2.2.2.2.1]; decide) (fun s6 h6 f6 => ?_)
    have w6 : wkf s s6 := wkf_b w5 f6 (by omega) (by omega)
    rw [cr s6 w6]
    refine copy_b h6 (by omega) (by rw [rm_v4 v]; exact m9') (by omega) (fun s7 h7 f7 => ?_)
    have w7 : wkf s s7 := wkf_b w6 f7 (by omega) (by omega)
    have p7 := big_fr (big_fr p5 f6 (by omega)) f7 (by omega)
    have q7 := big_fr (big_fr q5 f6 (by omega)) f7 (by omega)
    refine setProduct_b p7 q7 (by decide) (by decide) (by rw [gv.2.2.2.2.2.1]; decide) 16 2 (pw k (by omega)) b3 (by rw [gv.2.2.2.2.2.1]; decide) (fun s8 h8 f8 => ?_)
    rw [← Int.pow_succ] at h8
    refine copy_b h8 (by decide) (by rw [rm567]; exact Int.lt_trans (pw (k + 1) (by omega)) z4) (by rw [gv.2.2.2.2.2.2.2.2.2.2]; decide) (fun s9 h9 f9 => ?_)
    have w9 : wkf s s9 := wkf_b (wkf_b w7 f8 (by omega) (by omega)) f9 (by omega) (by omega)
    obtain ⟨i, hi⟩ : ∃ i : Nat, x = (i : Int) := ⟨x.toNat, by omega⟩
    subst hi
    have ik : i = d - (k + 1) := by omega
    have hP9 : ply s9 p P := ply_fr hP w9 (by omega) (by omega)
    have ev : cga s9 (p + 1) (i : Int) = pgt P i := by
      show s9.2 (p + 1) ((i : Nat) : Int).toNat = _
      rw [Int.toNat_natCast]
      exact hP9.1 i (by omega)
    have ei : w32 ((i : Int) + -1) = (d : Int) - 1 - ((k + 1 : Nat) : Int) := by rw [w32_id (by omega) (by omega)]; omega
    intro _
    rw [ev]
    have bi := bP i
    refine set_b ⟨by omega, by omega⟩ (by omega) (by rw [gv.2.2.2.2.1]; decide) (fun s10 h10 f10 => ?_)
    have p10 := big_fr h9 f10 (by omega)
    have e2 : (4294967296 : Int) ^ 2 = 18446744073709551616 := by decide
    refine setProduct_b p10 h10 (by decide) (by decide) (by rw [gv.2.2.2.2.2.1]; decide) 16 2 (pw (k + 1) (by omega)) (by rw [e2]; omega) (by rw [gv.2.2.2.2.2.1]; decide) (fun s11 h11 f11 => ?_)
    have w11 : wkf s s11 := wkf_b (wkf_b w9 f10 (by omega) (by omega)) f11 (by omega) (by omega)
    rw [cr s11 w11]
    have o11 := big_fr (big_fr (big_fr (big_fr h7 f8 (by omega)) f9 (by omega)) f10 (by omega)) f11 (by omega)
    have ht := hor_t (i := i) (k := k + 1) bP hq
    rw [Int.mul_comm] at ht
    have sum : (hor P a q d k * a).natAbs + (q ^ (k + 1) * pgt P i).natAbs ≤ 9 * (15482880000000000 * Z62 ^ 8) := by omega
    refine add_b o11 h11 (by omega) (by omega) (Or.inl rfl) (by rw [rm_v4 v]; exact Int.lt_of_le_of_lt (by rw [← Int.natCast_add]; exact Int.ofNat_le.2 sum) z1) (fun s12 h12 f12 => ⟨k + 1, by omega, ei, ?_, ?_, ?_, ?_, ?_⟩)
    · show big s12 ot (hor P a q d k * a + pgt P (d - (k + 1)) * q ^ (k + 1))
      rw [← ik]
      rw [Int.one_mul, Int.mul_comm (q ^ (k + 1))] at h12
      exact h12
    · exact big_fr (big_fr (big_fr (big_fr (big_fr (big_fr (big_fr a5 f6 (by omega)) f7 (by omega)) f8 (by omega)) f9 (by omega)) f10 (by omega)) f11 (by omega)) f12 (by omega)
    · exact big_fr (big_fr (big_fr (big_fr (big_fr q7 f8 (by omega)) f9 (by omega)) f10 (by omega)) f11 (by omega)) f12 (by omega)
    · exact big_fr (big_fr p10 f11 (by omega)) f12 (by omega)
    · exact wkf_b w11 f12 (by omega) (by omega)
