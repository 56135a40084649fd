/-! THE CLASS'S QUESTIONS BY CUTS -/
def CVl (s : im_S) (A : Nat → List Int) (m N n : Nat) (p : Nat → List Int) (M : Nat → Nat → Nat) (cs : Nat → Rat → Int) (oc : Nat → Nat) : Prop := N ≤ 80 ∧ LIV s N n 6480 80 p M cs ∧ s.1 1 4 = (N : Int) ∧ (∀ k, k < N → oc k < N ∧ s.2 577 k = (oc k : Int)) ∧ (∀ k k', k < k' → k' < N → lft9 (cs (oc k)) (cs (oc k'))) ∧ (∀ j, j < N → ∃ k, k < N ∧ oc k = j) ∧ SYS A m n p M ∧ ∀ j, m ≤ j → j < 10 → ∀ e, e < n → M e j = 0
/-- what questions write: the finder's work, and the row of simple fractions -/
def qwf (s s' : im_S) : Prop := gfr (fun c f => 555 ≤ c ∧ c ≤ 575 ∧ (f = 1 ∨ f = 2)) (fun c => (556 ≤ c ∧ c ≤ 576) ∨ c = 580 ∨ c = 581) s s'
theorem qwf_wk {s s' : im_S} (h : wkf s s') : qwf s s' := gfr_mono h (fun c f e => e) (fun c e => by omega)
theorem CVl_q {s s' : im_S} {A : Nat → List Int} {m N n : Nat} {p : Nat → List Int} {M : Nat → Nat → Nat} {cs : Nat → Rat → Int} {oc : Nat → Nat} (h : CVl s A m N n p M cs oc) (w : qwf s s') : CVl s' A m N n p M cs oc := by
  obtain ⟨h1, ⟨I, F, R, ⟨lo, hi, mi, ot, f⟩, o⟩, h3, h4, h5⟩ := h
  have n80 := I.2.1
  refine ⟨h1, ⟨BI_co I w (fun e he => by omega) (fun e he => by omega) (by omega) (dI_co I.2.2.2.2 w (by omega) (by omega)), BF_co F w n80 (fun e he => by omega) (fun e he => by omega) (by omega), RTP_mv R (fun j hj => w.1 _ _ (by omega)) (fun j o hj _ q => rdt_co q w (fun k _ => by omega) (fun k => by omega) (by omega)), ⟨lo, hi, mi, ot, fq_co f w (fun k => by omega)⟩, big_g o w (by omega) (by omega) (by omega)⟩, by rw [w.1 _ _ (by omega)]; exact h3, fun k hk => by rw [w.2 577 (by omega)]; exact h4 k hk, h5⟩
theorem CVl_wk {s s' : im_S} {A : Nat → List Int} {m N n : Nat} {p : Nat → List Int} {M : Nat → Nat → Nat} {cs : Nat → Rat → Int} {oc : Nat → Nat} (h : CVl s A m N n p M cs oc) (w : wkf s s') : CVl s' A m N n p M cs oc := CVl_q h (qwf_wk w)
theorem CV_at {s : im_S} {A : Nat → List Int} {m N n k : Nat} {p : Nat → List Int} {M : Nat → Nat → Nat} {cs : Nat → Rat → Int} {oc : Nat → Nat} (h : CVl s A m N n p M cs oc) (hk : k < N) : oc k < N ∧ s.2 577 k = (oc k : Int) ∧ cut (cs (oc k)) ∧ ∃ o, o < n ∧ s.1 (311 + 3 * oc k) 0 = (o : Int) ∧ rtc (p o) (cs (oc k)) ∧ rdt s (oc k) o (p o) (cs (oc k)) := by
  obtain ⟨o1, o2⟩ := h.2.2.2.1 k hk
  obtain ⟨a, o, b1, _, b3, b4, b5⟩ := h.2.1.2.2.1.1 (oc k) o1
  exact ⟨o1, o2, a, o, b1, b3, b4, b5⟩
theorem rootAt_v {s : im_S} {k j : Nat} {Q : Nat → im_S → Prop} (k80 : k < 80) (row : s.2 577 k = (j : Int)) (hQ : Q (311 + 3 * j) s) : C_rootAt4 (k : Int) s Q := by
  unfold C_rootAt4
  refine min_J (max_J (fun _ => ?_))
  rw [show max 0 (min (k : Int) 79) = (k : Int) by omega, show cga s 577 (k : Int) = (j : Int) by show s.2 577 ((k : Nat) : Int).toNat = _; rw [Int.toNat_natCast]; exact row, Int.toNat_natCast]
  exact hQ
theorem half_I {u t : Nat} (hu : u ≤ 80) (ht : t ≤ 80) : divI (w32 ((u : Int) + (t : Int))) 2 = (((u + t) / 2 : Nat) : Int) := by
  rw [w32_id (by omega) (by omega), divI_eq (by omega) (by omega) (by omega) (by omega), Int.tdiv_eq_ediv_of_nonneg (by omega)]
  omega
theorem locate_v {s : im_S} {A : Nat → List Int} {m N n : Nat} {p : Nat → List Int} {M : Nat → Nat → Nat} {cs : Nat → Rat → Int} {oc : Nat → Nat} {W r q : Int} {x : Rat} {Q : Int → im_S → Prop} (h : CVl s A m N n p M cs oc) (q1 : 1 ≤ q) (q2 : q ≤ 2147483647) (r0 : 0 ≤ r) (rq : r < q) (hx : (q : Rat) * x = ((W * q + r : Int) : Rat)) (hQ : ∀ (v : Int) (s' : im_S), wkf s s' → clq (fun k => cs (oc k)) N x v → Q v s') : C_locate4 W r q s Q := by
  have N80 := h.1
  have hris := h.2.2.2.2.1
  have hcut : ∀ k, k < N → cut (cs (oc k)) := fun k hk => (CV_at h hk).2.2.1
  unfold C_locate4
  rw [show cgf s 1 4 = (N : Int) from h.2.2.1]
  refine ⟨fun a => ∃ u t : Nat, a.1 = (u : Int) ∧ a.2.1 = (t : Int) ∧ u ≤ t ∧ t ≤ N ∧ wkf s a.2.2 ∧ (∀ j, j < u → cs (oc j) x = -1) ∧ ∀ j, t ≤ j → j < N → cs (oc j) x = 1, ⟨0, N, rfl, rfl, by omega, Nat.le_refl _, gfr_refl _ _ _, fun j hj => by omega, fun j j1 j2 => by omega⟩, ?_⟩
  rintro ⟨l7, l8, s2⟩ ⟨u, t, i1, i2, ut, tN, w2, i5, i6⟩
  dsimp only at i1 i2 w2 ⊢
  subst i1
  subst i2
  refine ⟨fun c => ?_, fun c => ?_⟩
  · rw [w32_id (by omega) (by omega)]
    have : u = t := by omega
    subst this
    exact hQ _ s2 w2 (Or.inr ⟨u, tN, rfl, i5, i6⟩)
  · have h2 := CVl_wk h w2
    rw [half_I (by omega) (by omega)]
    obtain ⟨k, hk⟩ : ∃ k, k = (u + t) / 2 := ⟨_, rfl⟩
    rw [← hk]
    obtain ⟨o1, o2, cc, o, b1, b2, b3, b4⟩ := CV_at h2 (k := k) (by omega)
    refine rootAt_v (by omega) o2 ?_
    refine compareWith_v (by omega) h2.2.1.1 h2.2.1.2.1 b1 h2.2.1.2.2.2.1 cc b4 q1 q2 r0 rq hx (fun s3 w3 => ?_)
    have w23 : wkf s s3 := gfr_trans w2 w3
    refine ⟨fun z v1 e1 v2 e2 => ?_, fun z => ?_⟩
    · by_cases c0 : 0 ≤ cs (oc k) x
      · rw [if_pos c0] at e1 e2
        have k1 : cs (oc k) x = 1 := by rcases cc.1 x with w | w | w <;> omega
        refine ⟨u, k, by (try dsimp only); omega, by (try dsimp only); omega, by omega, by omega, w23, i5, fun j j1 j2 => ?_⟩
        by_cases ej : j = k
        · rw [ej]; exact k1
        · exact lft9_l cc (hcut j j2) (hris k j (by omega) j2) (by omega)
      · rw [if_neg c0] at e1 e2
        rw [w32_id (by omega) (by omega)] at e1
        have k1 : cs (oc k) x = -1 := by rcases cc.1 x with w | w | w <;> omega
        refine ⟨k + 1, t, by (try dsimp only); omega, by (try dsimp only); omega, by omega, tN, w23, fun j hj => ?_, i6⟩
        by_cases ej : j = k
        · rw [ej]; exact k1
        · exact lft9_r (hcut j (by omega)) cc (hris j k (by omega) (by omega)) (by omega)
    · rw [w32_id (x := 2 * (k : Int)) (by omega) (by omega), w32_id (by omega) (by omega)]
      exact hQ _ s3 w23 (Or.inl ⟨k, by omega, z, rfl⟩)
theorem xorI_s {x y : Int} (hx : iR x) (hy : iR y) : (0 ≤ xorI x y) ↔ ((0 ≤ x) ↔ (0 ≤ y)) := by
  have nn : ∀ w : Int32, 0 ≤ w.toInt ↔ w.toBitVec.msb = false := fun w => by
    rw [← Int32.toInt_toBitVec]
    have := BitVec.toInt_neg_iff (x := w.toBitVec)
    rw [BitVec.msb_eq_toInt]
    simp
  have ex : (Int32.ofInt x).toInt = x := im_bm hx.1 hx.2
  have ey : (Int32.ofInt y).toInt = y := im_bm hy.1 hy.2
  have e : xorI x y = (Int32.ofInt x ^^^ Int32.ofInt y).toInt := rfl
  have e2 : (Int32.ofInt x ^^^ Int32.ofInt y).toBitVec = (Int32.ofInt x).toBitVec ^^^ (Int32.ofInt y).toBitVec := rfl
  rw [e, nn, e2, BitVec.msb_xor]
  have hx' := nn (Int32.ofInt x)
  have hy' := nn (Int32.ofInt y)
  rw [ex] at hx'
  rw [ey] at hy'
  rw [hx', hy']
  cases (Int32.ofInt x).toBitVec.msb <;> cases (Int32.ofInt y).toBitVec.msb <;> simp
theorem remI_eq {x y : Int} (x0 : -2147483647 ≤ x) (x1 : x ≤ 2147483647) (y0 : -2147483648 ≤ y) (y1 : y ≤ 2147483647) : remI x y = x.tmod y := by
  have e1 : (Int32.ofInt x / Int32.ofInt y).toInt = x.tdiv y := divI_eq x0 x1 y0 y1
  have e3 : Int32.ofInt x - Int32.ofInt x / Int32.ofInt y * Int32.ofInt y = Int32.ofInt (x - x.tdiv y * y) := by
    rw [Int32.ofInt_sub, Int32.ofInt_mul, ← e1, Int32.ofInt_toInt]
  have m : x - x.tdiv y * y = x.tmod y := by
    have := Int.mul_tdiv_add_tmod x y
    rw [Int.mul_comm] at this; omega
  have : (x.tmod y).natAbs ≤ x.natAbs := by rw [Int.natAbs_tmod]; exact Nat.mod_le _ _
  show (Int32.ofInt x - Int32.ofInt x / Int32.ofInt y * Int32.ofInt y).toInt = _
  rw [e3, m, im_bm (by omega) (by omega)]
theorem floorDivI_v {x y : Int} {s : im_S} {Q : Int → im_S → Prop} (x0 : -1000000000 ≤ x) (x1 : x ≤ 1000000000) (y0 : 0 < y) (y1 : y ≤ 1000000000) (hQ : Q (x / y) s) : C_J9_floorDiv_7cf53 x y s Q := by
  have ed := divI_eq (x := x) (y := y) (by omega) (by omega) (by omega) (by omega)
  have xs := xorI_s (x := x) (y := y) ⟨by omega, by omega⟩ ⟨by omega, by omega⟩
  have te := Int.tdiv_eq_ediv (a := x) (b := y)
  have nb : (x.tdiv y * y).natAbs ≤ x.natAbs := by
    rw [Int.natAbs_mul, Int.natAbs_tdiv]
    exact Nat.div_mul_le_self _ _
  have em := Int.emod_nonneg x (show y ≠ 0 by omega)
  have ei := Int.emod_add_mul_ediv x y
  refine ⟨fun c => ?_, fun c => ⟨fun z => ?_, fun z => ?_⟩⟩
  · have x0 : 0 ≤ x := (xs.1 c).2 (by omega)
    show Q (divI x y) s
    rw [ed, Int.tdiv_eq_ediv_of_nonneg x0]
    exact hQ
  · show Q (divI x y) s
    rw [ed] at z ⊢
    rw [w32_id (by omega) (by omega)] at z
    have : x / y = x.tdiv y := by
      have h : x / y = x.tdiv y * y / y := by rw [z]
      rw [h, Int.mul_ediv_cancel _ (by omega)]
    rw [← this]
    exact hQ
  · have x0 : x < 0 := Int.not_le.1 fun q => c (xs.2 ⟨fun _ => by omega, fun _ => q⟩)
    rw [ed] at z ⊢
    rw [w32_id (by omega) (by omega)] at z
    have nd : ¬ y ∣ x := fun q => z (Int.tdiv_mul_cancel q)
    rw [if_neg (fun q => by rcases q with q | q; omega; exact nd q), Int.sign_eq_one_of_pos y0] at te
    have db : (x.tdiv y).natAbs ≤ x.natAbs := by rw [Int.natAbs_tdiv]; exact Nat.div_le_self _ _
    rw [te] at db ⊢
    rw [w32_id (by omega) (by omega), show x / y + 1 - 1 = x / y by omega]
    exact hQ
theorem floorModI_v {x y : Int} {s : im_S} {Q : Int → im_S → Prop} (x0 : -1000000000 ≤ x) (x1 : x ≤ 1000000000) (y0 : 0 < y) (y1 : y ≤ 1000000000) (hQ : Q (x % y) s) : C_J9_floorMod_7cf53 x y s Q := by
  have er := remI_eq (x := x) (y := y) (by omega) (by omega) (by omega) (by omega)
  have xs := xorI_s (x := x) (y := y) ⟨by omega, by omega⟩ ⟨by omega, by omega⟩
  have b1 := Int.tmod_lt_of_pos x y0
  have b2 := Int.lt_tmod_of_pos x y0
  have em := Int.emod_nonneg x (show y ≠ 0 by omega)
  have el := Int.emod_lt_of_pos x y0
  have key : x % y = if 0 ≤ x.tmod y then x.tmod y else x.tmod y + y := by
    have e := Int.mul_tdiv_add_tmod x y
    have e2 : x % y = (x.tmod y + y * x.tdiv y) % y := by rw [Int.add_comm, e]
    rw [e2, Int.add_mul_emod_self_left]
    split
    · exact Int.emod_eq_of_lt (by assumption) b1
    · rw [← Int.add_emod_right, Int.emod_eq_of_lt (by omega) (by omega)]
  refine ⟨fun c => ?_, fun c => ⟨fun z => ?_, fun z => ?_⟩⟩
  · have x0 : 0 ≤ x := (xs.1 c).2 (by omega)
    show Q (remI x y) s
    rw [er, Int.tmod_eq_emod_of_nonneg x0]
    exact hQ
  · show Q (remI x y) s
    rw [er] at z ⊢
    rw [z, if_pos (Int.le_refl _)] at key
    rw [z, ← key]
    exact hQ
  · have x0 : x < 0 := Int.not_le.1 fun q => c (xs.2 ⟨fun _ => by omega, fun _ => q⟩)
    rw [er] at z ⊢
    have neg : x.tmod y ≤ 0 := by
      obtain ⟨u, hu⟩ : ∃ u, x = -u := ⟨-x, by omega⟩
      rw [hu, Int.neg_tmod, Int.tmod_eq_emod_of_nonneg (by omega)]
      have := Int.emod_nonneg u (show y ≠ 0 by omega)
      omega
    rw [if_neg (by omega)] at key
    rw [w32_id (by omega) (by omega), ← key]
    exact hQ
theorem cellOf9_v {l1 l2 : Int} {s : im_S} {A : Nat → List Int} {m N n : Nat} {p : Nat → List Int} {M : Nat → Nat → Nat} {cs : Nat → Rat → Int} {oc : Nat → Nat} {Q : Int → im_S → Prop} (h : s.1 0 3 ≠ 0 → CVl s A m N n p M cs oc) (hQ : ∀ (v : Int) (s' : im_S), wkf s s' → caQ (s.1 0 3 ≠ 0) l1 l2 (fun k => cs (oc k)) N v → Q v s') : C_cellOf9 l1 l2 s Q := by
  refine ⟨fun z => hQ _ s (gfr_refl _ _ _) (Or.inl ⟨Or.inl (fun w => w z), rfl⟩), fun z v ev => ?_⟩
  have z' : s.1 0 3 ≠ 0 := z
  by_cases c1 : l2 < 1
  · rw [if_pos c1] at ev
    exact ⟨fun w => absurd ev w, fun _ => hQ _ s (gfr_refl _ _ _) (Or.inl ⟨Or.inr (Or.inl c1), rfl⟩)⟩
  rw [if_neg c1] at ev
  by_cases c2 : 1000000000 < l2
  · rw [if_pos c2] at ev
    exact ⟨fun w => absurd ev w, fun _ => hQ _ s (gfr_refl _ _ _) (Or.inl ⟨Or.inr (Or.inr (Or.inl c2)), rfl⟩)⟩
  rw [if_neg c2] at ev
  by_cases c3 : l1 < -1000000000
  · rw [if_pos c3] at ev
    exact ⟨fun w => absurd ev w, fun _ => hQ _ s (gfr_refl _ _ _) (Or.inl ⟨Or.inr (Or.inr (Or.inr (Or.inl c3))), rfl⟩)⟩
  rw [if_neg c3] at ev
  by_cases c4 : 1000000000 < l1
  · rw [if_pos c4] at ev
    exact ⟨fun w => absurd ev w, fun _ => hQ _ s (gfr_refl _ _ _) (Or.inl ⟨Or.inr (Or.inr (Or.inr (Or.inr c4))), rfl⟩)⟩
  rw [if_neg c4] at ev
  refine ⟨fun _ => ?_, fun w => by omega⟩
  have q0 : (0 : Rat) < (l2 : Rat) := Rat.intCast_pos.2 (by omega)
  refine floorDivI_v (by omega) (by omega) (by omega) (by omega) (floorModI_v (by omega) (by omega) (by omega) (by omega) ?_)
  refine locate_v (x := (l1 : Rat) / (l2 : Rat)) (h z') (by omega) (by omega) (Int.emod_nonneg _ (by omega)) (Int.emod_lt_of_pos _ (by omega)) ?_ (fun v s' w c => hQ v s' w (Or.inr ⟨⟨z', by omega, by omega, by omega, by omega⟩, c⟩))
  rw [Int.mul_comm, Int.mul_ediv_add_emod, Rat.mul_comm, Rat.div_mul_cancel (by grind)]
/-- the floor of a root -/
theorem scaledFloor_v {s : im_S} {j o n mm : Nat} {D : Int} {p : Nat → List Int} {M : Nat → Nat → Nat} {c0 : Rat → Int} {sc : Int} {Q : Int → im_S → Prop} (hj : j < 80) (hB : BI s n D) (hF : BF s n p M mm) (ho : o < n) (hf : ∃ lo hi mi ot, fq s lo hi mi ot) (hc : cut c0) (hR : rdt s j o (p o) c0) (s1 : 1 ≤ sc) (s2 : sc ≤ 100000000) (hQ : ∀ (v : Int) (s' : im_S), wkf s s' → flc c0 sc v → Q v s') : C_scaledFloor3 (311 + 3 * j) sc s Q := by
  have sc0 : (0 : Rat) < (sc : Rat) := Rat.intCast_pos.2 (by omega)
  have hR0 := hR
  rcases hR with ⟨a, q, ⟨f1, f2, f3, f4, f5, f6, q1, q9, a9, g⟩, z⟩ | ⟨⟨k1, k2, k3, ⟨_, k4, k5⟩, _, K, ⟨w1, w2, w3, w4⟩, w5, w6⟩, _⟩
  · refine ⟨fun c => ?_, fun _ => ?_⟩
    · exfalso
      unfold cgf at c
      omega
    · have r0 := Int.emod_nonneg a (show q ≠ 0 by omega)
      have r1 := Int.emod_lt_of_pos a (show 0 < q by omega)
      have ee := Int.mul_ediv_add_emod a q
      have m1 : a % q * sc ≤ 1000000000 * 100000000 := Int.mul_le_mul (by omega) s2 (by omega) (by decide)
      have m0 : 0 ≤ a % q * sc := Int.mul_nonneg r0 (by omega)
      have d1 : (a / q).natAbs ≤ 1000000000 := by
        have := Int.natAbs_ediv_le_natAbs a q
        omega
      have m2 : (a / q * sc).natAbs ≤ 1000000000 * 100000000 := by
        rw [Int.natAbs_mul]
        exact Nat.mul_le_mul d1 (by omega)
      have dv : a % q * sc / q ≤ a % q * sc := Int.ediv_le_self _ m0
      have dv0 : 0 ≤ a % q * sc / q := Int.ediv_nonneg m0 (by omega)
      unfold cgf
      rw [f3, f4, f5, w64_id (x := a / q * sc) (by omega) (by omega), w64_id (x := a % q * sc) (by omega) (by omega), divJ_eq ⟨by omega, by omega⟩ ⟨by omega, by omega⟩ (by omega), Int.tdiv_eq_ediv_of_nonneg m0, w64_id (by omega) (by omega)]
      refine hQ _ s (gfr_refl _ _ _) ?_
      have q0 : (0 : Rat) < (q : Rat) := Rat.intCast_pos.2 (by omega)
      have lo := Int.ediv_mul_le (a % q * sc) (show q ≠ 0 by omega)
      have hi := Int.lt_ediv_add_one_mul_self (a % q * sc) (show 0 < q by omega)
      generalize a % q * sc / q = v at *
      have key : (a / q * sc + v) * q ≤ a * sc ∧ a * sc < (a / q * sc + v + 1) * q := by
        have e : a * sc = (a / q * sc) * q + a % q * sc := by
          have e0 : a * sc = (q * (a / q) + a % q) * sc := by rw [ee]
          rw [e0, Int.add_mul]
          congr 1
          rw [Int.mul_comm q (a / q), Int.mul_assoc, Int.mul_comm q sc, ← Int.mul_assoc]
        generalize a / q * sc = w at *
        generalize a % q * sc = t at *
        rw [e, Int.add_mul, show (w + v + 1) * q = w * q + (v + 1) * q by grind]
        omega
      have cx : ∀ x : Rat, c0 x = rsg ((a : Rat) / q - x) := fun x => cut_q hc z x
      have e1 : (a : Rat) / q * q = (a : Rat) := Rat.div_mul_cancel (by grind)
      obtain ⟨key1, key2⟩ := key
      have y1 := Rat.intCast_le_intCast.2 key1
      have y2 := Rat.intCast_lt_intCast.2 key2
      rw [Rat.intCast_mul, Rat.intCast_mul] at y1 y2
      constructor
      · rw [cx]
        intro w
        have w' := rsg_n w
        have e2 : ((a / q * sc + v : Int) : Rat) / (sc : Rat) * (sc : Rat) = ((a / q * sc + v : Int) : Rat) := Rat.div_mul_cancel (by grind)
        generalize ((a / q * sc + v : Int) : Rat) / (sc : Rat) = X at *
        generalize (a : Rat) / (q : Rat) = Y at *
        rw [← e1, ← e2] at y1
        have := Rat.mul_pos (show 0 < X - Y by grind) (Rat.mul_pos sc0 q0)
        grind
      · rw [cx]
        refine rsg_neg ?_
        have e2 : ((a / q * sc + v + 1 : Int) : Rat) / (sc : Rat) * (sc : Rat) = ((a / q * sc + v + 1 : Int) : Rat) := Rat.div_mul_cancel (by grind)
        generalize ((a / q * sc + v + 1 : Int) : Rat) / (sc : Rat) = X at *
        generalize (a : Rat) / (q : Rat) = Y at *
        rw [← e1, ← e2] at y2
        refine Rat.not_le.1 fun w => ?_
        have := Rat.mul_nonneg (show 0 ≤ Y - X by grind) (Rat.le_of_lt (Rat.mul_pos sc0 q0))
        grind
  · refine ⟨fun _ => ?_, fun c => absurd k1 c⟩
    obtain ⟨W, hW⟩ : ∃ W, W = K / 4294967296 := ⟨_, rfl⟩
    obtain ⟨P, hP⟩ : ∃ P, P = K % 4294967296 := ⟨_, rfl⟩
    have P0 : 0 ≤ P ∧ P < 4294967296 := by omega
    have KW : K = W * 4294967296 + P := by omega
    have m0 : 0 ≤ P * sc := Int.mul_nonneg P0.1 (by omega)
    have m1 : P * sc ≤ 4294967295 * 100000000 := Int.mul_le_mul (by omega) s2 (by omega) (by decide)
    obtain ⟨R, hR⟩ : ∃ R, R = P * sc / 4294967296 := ⟨_, rfl⟩
    have R1 : R * 4294967296 ≤ P * sc ∧ P * sc < (R + 1) * 4294967296 := by omega
    have R0 : 0 ≤ R ∧ R < sc := by
      refine ⟨by omega, ?_⟩
      have : P * sc ≤ 4294967295 * sc := Int.mul_le_mul_of_nonneg_right (by omega) (by omega)
      omega
    have ush : ushJ (w64 (P * sc)) 32 = R := by
      rw [w64_id (by omega) (by omega), ushJ_32, Int.emod_eq_of_lt m0 (by omega), hR]
    have W1 : W.natAbs ≤ 1073741825 := by omega
    have ms : (W * sc).natAbs ≤ 1073741825 * 100000000 := by
      rw [Int.natAbs_mul]
      exact Nat.mul_le_mul W1 (by omega)
    unfold cgf
    rw [w3, w4, ← hW, ← hP, ush, w64_id (x := R + 1) (by omega) (by omega)]
    -- the four numbers
    have big : (0 : Rat) < 4294967296 := by decide
    have lowR : ∀ v : Int, v * 4294967296 ≤ K * sc → c0 ((v : Rat) / (sc : Rat)) = 1 := fun v hv => by
      refine cut_le1 hc w5 ?_
      have y := Rat.intCast_le_intCast.2 hv
      rw [Rat.intCast_mul, Rat.intCast_mul] at y
      have e1 : (v : Rat) / (sc : Rat) * (sc : Rat) = (v : Rat) := Rat.div_mul_cancel (by grind)
      have e2 : (K : Rat) / 4294967296 * 4294967296 = (K : Rat) := Rat.div_mul_cancel (by decide)
      have e3 : ((4294967296 : Int) : Rat) = 4294967296 := rfl
      rw [e3] at y
      generalize (v : Rat) / (sc : Rat) = X at *
      generalize (K : Rat) / 4294967296 = Y at *
      rw [← e1, ← e2] at y
      refine Rat.not_lt.1 fun w => ?_
      have := Rat.mul_pos (show 0 < X - Y by grind) (Rat.mul_pos sc0 big)
      grind
    have hiR : ∀ v : Int, (K + 1) * sc ≤ v * 4294967296 → c0 ((v : Rat) / (sc : Rat)) = -1 := fun v hv => by
      refine cut_ge1 hc w6 ?_
      have y := Rat.intCast_le_intCast.2 hv
      rw [Rat.intCast_mul, Rat.intCast_mul] at y
      have e1 : (v : Rat) / (sc : Rat) * (sc : Rat) = (v : Rat) := Rat.div_mul_cancel (by grind)
      have e2 : ((K + 1 : Int) : Rat) / 4294967296 * 4294967296 = ((K + 1 : Int) : Rat) := Rat.div_mul_cancel (by decide)
      have e3 : ((4294967296 : Int) : Rat) = 4294967296 := rfl
      rw [e3] at y
      generalize (v : Rat) / (sc : Rat) = X at *
      generalize ((K + 1 : Int) : Rat) / 4294967296 = Y at *
      rw [← e1, ← e2] at y
      refine Rat.not_lt.1 fun w => ?_
      have := Rat.mul_pos (show 0 < Y - X by grind) (Rat.mul_pos sc0 big)
      grind
    have eKs : K * sc = W * sc * 4294967296 + P * sc := by rw [KW]; grind
    have lo0 : c0 (((W * sc + R : Int) : Rat) / (sc : Rat)) = 1 := lowR _ (by rw [eKs, Int.add_mul]; omega)
    have hi2 : c0 (((W * sc + R + 1 + 1 : Int) : Rat) / (sc : Rat)) = -1 := hiR _ (by
      rw [Int.add_mul, Int.one_mul, eKs, show (W * sc + R + 1 + 1) * 4294967296 = W * sc * 4294967296 + (R + 1 + 1) * 4294967296 by grind]
      omega)
    refine ⟨fun c => ?_, fun c => ?_⟩
    · unfold C_scaledFloor3_69 cgf
      rw [w3, ← hW, w64_id (x := W * sc) (by omega) (by omega), w64_id (by omega) (by omega)]
      refine hQ _ s (gfr_refl _ _ _) ⟨by rw [lo0]; decide, hiR _ ?_⟩
      have : R + 1 = sc := by omega
      have e : W * sc + R + 1 = (W + 1) * sc := by rw [Int.add_mul, Int.one_mul]; omega
      rw [e, show (W + 1) * sc * 4294967296 = (W * 4294967296 + 4294967296) * sc by grind]
      exact Int.mul_le_mul_of_nonneg_right (by omega) (by omega)
    · refine compareWith_v (x := ((W * sc + (R + 1) : Int) : Rat) / (sc : Rat)) hj hB hF ho hf hc hR0 s1 (by omega) (by omega) (by omega) (by rw [Rat.mul_comm, Rat.div_mul_cancel (by grind)]) (fun s' w v hv => ?_)
      unfold C_scaledFloor3_69
      have e4 : cgf s' (311 + 3 * j) 4 = W := by show s'.1 _ _ = _; rw [w.1 _ _ (by omega), w3, ← hW]
      rw [e4, w64_id (x := W * sc) (by omega) (by omega)]
      have n0 := k5 (((W * sc + (R + 1) : Int) : Rat) / (sc : Rat))
      rcases hc.1 (((W * sc + (R + 1) : Int) : Rat) / (sc : Rat)) with c1 | c1 | c1
      · rw [c1, if_pos (by decide)] at hv
        rw [hv, w64_id (by omega) (by omega)]
        refine hQ _ s' w ⟨by rw [lo0]; decide, ?_⟩
        rw [Int.add_assoc]
        exact c1
      · exact absurd c1 n0
      · rw [c1, if_neg (by decide)] at hv
        rw [hv, w64_id (by omega) (by omega)]
        refine hQ _ s' w ⟨by rw [c1]; decide, ?_⟩
        rw [← Int.add_assoc]
        exact hi2
theorem isRoot9_v {l1 : Int} {s : im_S} {Q : Int → im_S → Prop} (h1 : s.1 0 3 ≠ 0 → 0 ≤ l1 → l1 < s.1 1 4 → Q 1 s) (h0 : s.1 0 3 = 0 ∨ l1 < 0 ∨ s.1 1 4 ≤ l1 → Q 0 s) : C_isRoot9 l1 s Q := by
  intro v hv
  rw [hv]
  by_cases c1 : cgf s 0 3 = 0
  · rw [if_pos c1]; exact h0 (Or.inl c1)
  · rw [if_neg c1]
    by_cases c2 : l1 < 0
    · rw [if_pos c2]; exact h0 (Or.inr (Or.inl c2))
    · rw [if_neg c2]
      by_cases c3 : cgf s 1 4 ≤ l1
      · rw [if_pos c3]; exact h0 (Or.inr (Or.inr c3))
      · rw [if_neg c3]; exact h1 c1 (by omega) (by unfold cgf at c3; omega)
theorem root9_v {l1 l2 : Int} {s : im_S} {A : Nat → List Int} {m N n : Nat} {p : Nat → List Int} {M : Nat → Nat → Nat} {cs : Nat → Rat → Int} {oc : Nat → Nat} {Q : Int → im_S → Prop} (h : s.1 0 3 ≠ 0 → CVl s A m N n p M cs oc) (hQ : ∀ (v : Int) (s' : im_S), wkf s s' → roQ (s.1 0 3 ≠ 0) l1 l2 (fun k => cs (oc k)) N v → Q v s') : C_root9 l1 l2 s Q := by
  refine isRoot9_v (fun c5 k0 k4 => ⟨fun c => absurd c (by decide), fun _ => ⟨fun n0 => hQ _ s (gfr_refl _ _ _) (Or.inl ⟨Or.inr (Or.inr (Or.inr (Or.inl n0))), rfl⟩), fun n0 => ⟨fun n8 => ?_, fun n8 => hQ _ s (gfr_refl _ _ _) (Or.inl ⟨Or.inr (Or.inr (Or.inr (Or.inr (by omega)))), rfl⟩)⟩⟩⟩) (fun w => ⟨fun _ => hQ _ s (gfr_refl _ _ _) (Or.inl ⟨?_, rfl⟩), fun c => absurd rfl c⟩)
  · have hh := h c5
    have e4 := hh.2.2.1
    have N80 := hh.1
    refine ⟨fun a => a.2.2 = s ∧ ∃ j : Nat, a.2.1 = (j : Int) ∧ (j : Int) ≤ l2 ∧ a.1 = 10 ^ j, ⟨rfl, 0, rfl, by show (0 : Int) ≤ l2; omega, rfl⟩, ?_⟩
    rintro ⟨l3, l5, s2⟩ ⟨i1, j, j1, j3, j2⟩
    dsimp only at i1 j1 j2 ⊢
    subst i1
    have p1 : (1 : Int) ≤ 10 ^ j ∧ (10 : Int) ^ j ≤ 100000000 := by
      have a : 10 ^ j ≤ 10 ^ 8 := Nat.pow_le_pow_right (by decide) (by omega)
      have b : 1 ≤ 10 ^ j := Nat.one_le_pow _ _ (by decide)
      have e : ((10 ^ j : Nat) : Int) = (10 : Int) ^ j := by rw [Int.natCast_pow]; rfl
      omega
    refine ⟨fun c => ?_, fun c => ⟨rfl, j + 1, by (try dsimp only); rw [w32_id (by omega) (by omega)]; omega, by omega, by (try dsimp only); rw [w64_id (by omega) (by omega), j2, Int.pow_succ]⟩⟩
    obtain ⟨kn, rfl⟩ : ∃ kn : Nat, l1 = kn := ⟨l1.toNat, by omega⟩
    obtain ⟨o1, o2, cc, o, b1, b2, b3, b4⟩ := CV_at hh (k := kn) (by omega)
    refine rootAt_v (by omega) o2 ?_
    rw [j2]
    refine scaledFloor_v (by omega) hh.2.1.1 hh.2.1.2.1 b1 hh.2.1.2.2.2.1 cc b4 p1.1 p1.2 (fun v s' w g => hQ v s' w (Or.inr ⟨⟨c5, k0, by omega, by omega, by omega⟩, ?_⟩))
    rw [show l2.toNat = j by omega, Int.toNat_natCast]
    exact g
  · rcases w with w | w | w
    · exact Or.inl (fun q => q w)
    · exact Or.inr (Or.inl w)
    · by_cases c5 : s.1 0 3 = 0
      · exact Or.inl (fun q => q c5)
      · have e4 := (h c5).2.2.1
        exact Or.inr (Or.inr (Or.inl (by omega)))
theorem dvd_cop9 {k a b : Int} (h : Int.gcd k a = 1) (d : k ∣ a * b) : k ∣ b := by
  refine Int.natAbs_dvd_natAbs.1 (Nat.Coprime.dvd_of_dvd_mul_left (m := a.natAbs) h ?_)
  rw [← Int.natAbs_mul]
  exact Int.natAbs_dvd_natAbs.2 d
/-- a fraction in least terms -/
theorem rat_low {a q : Int} (q0 : 1 ≤ q) (g : Int.gcd a q = 1) : ((a : Rat) / (q : Rat)).num = a ∧ (((a : Rat) / (q : Rat)).den : Int) = q := by
  obtain ⟨x, hx⟩ : ∃ x : Rat, x = (a : Rat) / (q : Rat) := ⟨_, rfl⟩
  rw [← hx]
  have q0' : (0 : Rat) < (q : Rat) := Rat.intCast_pos.2 (by omega)
  have e1 : x * (q : Rat) = (a : Rat) := by rw [hx]; exact Rat.div_mul_cancel (by grind)
  obtain ⟨e2, dp⟩ := rat_nd x
  have dp' := x.den_pos
  have cr : x.num * q = a * (x.den : Int) := by
    refine Rat.intCast_inj.1 ?_
    rw [Rat.intCast_mul, Rat.intCast_mul, ← e1, ← e2]
    grind
  have red := x.reduced
  have d1 : q ∣ (x.den : Int) := by
    have : q ∣ a * (x.den : Int) := ⟨x.num, by rw [← cr]; exact Int.mul_comm _ _⟩
    exact dvd_cop9 (by rw [Int.gcd_comm]; exact g) this
  have d2 : (x.den : Int) ∣ q := by
    have : (x.den : Int) ∣ x.num * q := ⟨a, by rw [cr]; exact Int.mul_comm _ _⟩
    refine dvd_cop9 ?_ this
    rw [Int.gcd_comm]
    exact red
  have ed : (x.den : Int) = q := Int.dvd_antisymm (by omega) (by omega) d2 d1
  refine ⟨?_, ed⟩
  rw [ed] at cr
  exact Int.eq_of_mul_eq_mul_right (by omega) cr
theorem exact9_v {l1 l2 : Int} {s : im_S} {A : Nat → List Int} {m N n : Nat} {p : Nat → List Int} {M : Nat → Nat → Nat} {cs : Nat → Rat → Int} {oc : Nat → Nat} {Q : Int → im_S → Prop} (h : s.1 0 3 ≠ 0 → CVl s A m N n p M cs oc) (hQ : ∀ v : Int, exQ (s.1 0 3 ≠ 0) l1 l2 (fun k => cs (oc k)) N v → Q v s) : C_exact9 l1 l2 s Q := by
  refine isRoot9_v (fun c5 k0 k4 => ⟨fun c => absurd c (by decide), fun _ => ⟨fun n0 => hQ _ (Or.inl ⟨Or.inr (Or.inr (Or.inr (Or.inl n0))), rfl⟩), fun n0 => ⟨fun n8 => ?_, fun n8 => hQ _ (Or.inl ⟨Or.inr (Or.inr (Or.inr (Or.inr (by omega)))), rfl⟩)⟩⟩⟩) (fun w => ⟨fun _ => hQ _ (Or.inl ⟨?_, rfl⟩), fun c => absurd rfl c⟩)
  · have hh := h c5
    have e4 := hh.2.2.1
    have N80 := hh.1
    obtain ⟨kn, rfl⟩ : ∃ kn : Nat, l1 = kn := ⟨l1.toNat, by omega⟩
    obtain ⟨o1, o2, cc, o, b1, b2, b3, b4⟩ := CV_at hh (k := kn) (by omega)
    refine rootAt_v (by omega) o2 ?_
    rcases b4 with ⟨a, q, ⟨f1, f2, f3, f4, f5, f6, q1, q9, a9, g⟩, z⟩ | ⟨⟨k1, _, _, ⟨_, _, k5⟩, _⟩, _⟩
    · refine ⟨fun _ v hv => hQ v (Or.inr ⟨⟨c5, k0, by omega, by omega, n8⟩, Or.inl ⟨(a : Rat) / (q : Rat), by rw [Int.toNat_natCast]; exact z, ?_⟩⟩), fun c => by unfold cgf at c; omega⟩
      obtain ⟨r1, r2⟩ := rat_low q1 g
      rw [hv, r1, r2]
      unfold cgf
      rw [f2, f3]
      by_cases q : l2 = 0
      · rw [if_neg (fun z => z q), if_pos q]
      · rw [if_pos q, if_neg q]
    · exact ⟨fun c => absurd k1 c, fun _ => hQ _ (Or.inr ⟨⟨c5, k0, by omega, by omega, n8⟩, Or.inr ⟨by rw [Int.toNat_natCast]; exact k5, rfl⟩⟩)⟩
  · rcases w with w | w | w
    · exact Or.inl (fun q => q w)
    · exact Or.inr (Or.inl w)
    · by_cases c5 : s.1 0 3 = 0
      · exact Or.inl (fun q => q c5)
      · have e4 := (h c5).2.2.1
        exact Or.inr (Or.inr (Or.inl (by omega)))
