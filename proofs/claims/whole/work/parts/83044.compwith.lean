/-! compareWith BY VALUE: the sign of a root less a fraction -/
theorem ord_q {x : Rat} {q A y m : Int} (q0 : 0 < q) (m0 : 0 < m) (hx : (q : Rat) * x = A) : (x < (y : Rat) / m ↔ A * m < y * q) ∧ ((y : Rat) / m < x ↔ y * q < A * m) := by
  have qr : (0 : Rat) < q := Rat.intCast_pos.2 q0
  have mr : (0 : Rat) < m := Rat.intCast_pos.2 m0
  have e : ((A * m : Int) : Rat) = x * m * q := by rw [Rat.intCast_mul, ← hx]; grind
  rw [Rat.lt_div_iff mr, Rat.div_lt_iff mr, ← Rat.intCast_lt_intCast, ← Rat.intCast_lt_intCast, e, Rat.intCast_mul]
  exact ⟨(Rat.mul_lt_mul_right qr).symm, (Rat.mul_lt_mul_right qr).symm⟩
theorem cut_i {c0 : Rat → Int} {x : Rat} {q A a qq : Int} (hc : cut c0) (z : c0 ((a : Rat) / qq) = 0) (q0 : 0 < q) (qq0 : 0 < qq) (hx : (q : Rat) * x = A) : (A * qq < a * q → c0 x = 1) ∧ (A * qq = a * q → c0 x = 0) ∧ (a * q < A * qq → c0 x = -1) := by
  obtain ⟨o1, o2⟩ := ord_q (y := a) q0 qq0 hx
  rw [cut_q hc z x]
  unfold qct
  refine ⟨fun h => rsg_pos ?_, fun h => ?_, fun h => rsg_neg ?_⟩
  · have := o1.2 h; grind
  · have n1 : ¬ x < (a : Rat) / qq := fun k => by have := o1.1 k; omega
    have n2 : ¬ (a : Rat) / qq < x := fun k => by have := o2.1 k; omega
    have : (a : Rat) / qq - x = 0 := by grind
    rw [this]; rfl
  · have := o2.2 h; grind
theorem cut_32 {c0 : Rat → Int} {x : Rat} {q A K : Int} (hc : cut c0) (z1 : c0 ((K : Rat) / 4294967296) = 1) (z2 : c0 (((K + 1 : Int) : Rat) / 4294967296) = -1) (q0 : 0 < q) (hx : (q : Rat) * x = A) : (A * 4294967296 ≤ K * q → c0 x = 1) ∧ ((K + 1) * q ≤ A * 4294967296 → c0 x = -1) := by
  have e : ((4294967296 : Int) : Rat) = 4294967296 := rfl
  have o1 := (ord_q (y := K) q0 (show (0 : Int) < 4294967296 by decide) hx).2
  have o2 := (ord_q (y := K + 1) q0 (show (0 : Int) < 4294967296 by decide) hx).1
  rw [e] at o1 o2
  exact ⟨fun h => cut_le1 hc z1 (Rat.not_lt.1 fun k => by have := o1.1 k; omega), fun h => cut_ge1 hc z2 (Rat.not_lt.1 fun k => by have := o2.1 k; omega)⟩
theorem wh_lt {W Kw q r m B : Int} (q0 : 0 < q) (hr : r < q) (m0 : 0 < m) (B0 : 0 ≤ B) (h : W < Kw) : (W * q + r) * m < (m * Kw + B) * q := by
  have a : (W + 1) * q ≤ Kw * q := Int.mul_le_mul_of_nonneg_right (by omega) (by omega)
  have b : (W * q + r) < Kw * q := by
    have : (W + 1) * q = W * q + q := by grind
    omega
  have c := Int.mul_lt_mul_of_pos_right b m0
  have d : 0 ≤ B * q := Int.mul_nonneg B0 (by omega)
  have e : (m * Kw + B) * q = Kw * q * m + B * q := by grind
  omega
theorem wh_gt {W Kw q r m B : Int} (q0 : 0 < q) (hr : 0 ≤ r) (m0 : 0 < m) (B0 : B < m) (h : Kw < W) : (m * Kw + B + 1) * q ≤ (W * q + r) * m := by
  have a : (Kw + 1) * q ≤ W * q := Int.mul_le_mul_of_nonneg_right (by omega) (by omega)
  have b : (Kw + 1) * q * m ≤ W * q * m := Int.mul_le_mul_of_nonneg_right a (by omega)
  have c : (B + 1) * q ≤ m * q := Int.mul_le_mul_of_nonneg_right (by omega) (by omega)
  have d : 0 ≤ r * m := Int.mul_nonneg hr (by omega)
  have e : (m * Kw + B + 1) * q = m * Kw * q + (B + 1) * q := by grind
  have f : (Kw + 1) * q * m = m * Kw * q + m * q := by grind
  have g : (W * q + r) * m = W * q * m + r * m := by grind
  omega
theorem wh_eq {Kw q r m B : Int} : (Kw * q + r) * m = m * Kw * q + r * m ∧ (m * Kw + B) * q = m * Kw * q + B * q ∧ (m * Kw + B + 1) * q = m * Kw * q + (B + 1) * q := ⟨by grind, by grind, by grind⟩
theorem cmp_gt {x y : Int} (h : y < x) : (if y ≤ x then (if ¬ (x = y) then (1 : Int) else 0) else -1) = 1 := by rw [if_pos (by omega), if_pos (by omega)]
theorem cmp_lt {x y : Int} (h : x < y) : (if y ≤ x then (if ¬ (x = y) then (1 : Int) else 0) else -1) = -1 := by rw [if_neg (by omega)]
theorem cmp_eq {x y : Int} (h : x = y) : (if y ≤ x then (if ¬ (x = y) then (1 : Int) else 0) else -1) = 0 := by rw [if_pos (by omega), if_neg (by omega)]
theorem mul_bd {x y X Y : Int} (h1 : 0 ≤ x) (h2 : x ≤ X) (h3 : 0 ≤ y) (h4 : y ≤ Y) : 0 ≤ x * y ∧ x * y ≤ X * Y := ⟨Int.mul_nonneg h1 h3, Int.mul_le_mul h2 h4 h3 (by omega)⟩
theorem sdf_wk {s s' : im_S} (h : sdf s s') : wkf s s' := gfr_mono h (fun c f e => by omega) (fun c e => by omega)
theorem big_u9 {s : im_S} {a : Nat} {v w : Int} (h : big s a v) (h' : big s a w) : v = w := by
  obtain ⟨n, a1, a2, a3, a4, a5⟩ := h
  obtain ⟨m, b1, b2, b3, b4, b5⟩ := h'
  have nm : n = m := by omega
  subst nm
  have sg : v.sign = w.sign := by rw [← a3, ← b3]
  have ab : v.natAbs = w.natAbs := by omega
  rw [← Int.sign_mul_natAbs v, ← Int.sign_mul_natAbs w, sg, ab]
/-- compareWith on a fraction -/
theorem cw_F {s : im_S} {j o : Nat} {c0 : Rat → Int} {W r q a qq : Int} {x : Rat} {Q : Int → im_S → Prop} (hc : cut c0) (hF : rF s j o a qq) (z : c0 ((a : Rat) / qq) = 0) (q1 : 1 ≤ q) (q2 : q ≤ 2147483647) (r0 : 0 ≤ r) (rq : r < q) (hx : (q : Rat) * x = ((W * q + r : Int) : Rat)) (hQ : Q (c0 x) s) : C_compareWith3 (311 + 3 * j) W r q s Q := by
  obtain ⟨f1, f2, f3, f4, f5, f6, b1, b2, b3, b4⟩ := hF
  obtain ⟨i1, i2, i3⟩ := cut_i hc z (show 0 < q by omega) (show 0 < qq by omega) hx
  have ea : a = qq * (a / qq) + a % qq := (Int.mul_ediv_add_emod a qq).symm
  have B0 : 0 ≤ a % qq := Int.emod_nonneg _ (by omega)
  have B1 : a % qq < qq := Int.emod_lt_of_pos _ (by omega)
  generalize a / qq = Kw at ea f4
  generalize a % qq = B at ea B0 B1 f5
  unfold C_compareWith3
  rw [show cgf s (311 + 3 * j) 4 = Kw from f4, show cgf s (311 + 3 * j) 1 = 1 from f1, show cgf s (311 + 3 * j) 5 = B from f5, show cgf s (311 + 3 * j) 3 = qq from f3]
  refine ⟨fun e => ⟨fun k => absurd k (by decide), fun _ v ev => ?_⟩, fun e v ev => ?_⟩
  · obtain ⟨m1, m2⟩ := mul_bd (X := 1000000000) (Y := 2147483647) B0 (by omega) (show 0 ≤ q by omega) q2
    obtain ⟨m3, m4⟩ := mul_bd (X := 2147483647) (Y := 1000000000) r0 (by omega) (show 0 ≤ qq by omega) b2
    rw [w64_id (by omega) (by omega), w64_id (by omega) (by omega)] at ev
    obtain ⟨e1, e2, _⟩ := wh_eq (Kw := Kw) (q := q) (r := r) (m := qq) (B := B)
    rw [← e, ea, e1, e2] at i1 i2 i3
    rw [ev]
    rcases Int.lt_trichotomy (B * q) (r * qq) with k | k | k
    · rw [cmp_lt k, ← i3 (by omega)]; exact hQ
    · rw [cmp_eq k, ← i2 (by omega)]; exact hQ
    · rw [cmp_gt k, ← i1 (by omega)]; exact hQ
  · rw [ev]
    rcases Int.lt_trichotomy Kw W with k | k | k
    · have := wh_gt (q := q) (r := r) (m := qq) (B := B) (by omega) r0 (by omega) B1 k
      have g : (qq * Kw + B + 1) * q = (qq * Kw + B) * q + q := by grind
      rw [← ea] at g
      rw [← ea] at this
      rw [cmp_lt k, ← i3 (by omega)]; exact hQ
    · exact absurd k e
    · have := wh_lt (q := q) (r := r) (m := qq) (B := B) (by omega) rq (by omega) B0 k
      rw [← ea] at this
      rw [cmp_gt k, ← i1 this]; exact hQ
/-- compareWith on a root that is no fraction -/
theorem cw_N {s : im_S} {j o n mm : Nat} {D : Int} {p : Nat → List Int} {M : Nat → Nat → Nat} {c0 : Rat → Int} {W r q : Int} {x : Rat} {Q : Int → im_S → Prop} (hj : j < 80) (hB : BI s n D) (hF : BF s n p M mm) (ho : o < n) (hf : ∃ lo hi mi ot, fq s lo hi mi ot) (hN : rN9 s j o (p o) c0) (q1 : 1 ≤ q) (q2 : q ≤ 2147483647) (r0 : 0 ≤ r) (rq : r < q) (hx : (q : Rat) * x = ((W * q + r : Int) : Rat)) (hQ : ∀ s', wkf s s' → Q (c0 x) s') : C_compareWith3 (311 + 3 * j) W r q s Q := by
  have n80 := hB.2.1
  obtain ⟨⟨f1, f0, _, ⟨hc, ht, nf⟩, ⟨c', b', t', rs', cb', b32', iso', _, _⟩, K, ⟨K1, K2, f4, f5⟩, z1, z2⟩, c, b, t, rs, is, cl, cr, f9⟩ := hN
  have ebb : b' = b := by rw [← rs'.1, ← rs.1]
  have ecc : c' = c := big_u9 rs'.2 rs.2
  subst ebb
  subst ecc
  obtain ⟨i1, i2⟩ := cut_32 hc z1 z2 (show 0 < q by omega) hx
  have ea : K = 4294967296 * (K / 4294967296) + K % 4294967296 := (Int.mul_ediv_add_emod K 4294967296).symm
  have B0 : 0 ≤ K % 4294967296 := Int.emod_nonneg _ (by decide)
  have B1 : K % 4294967296 < 4294967296 := Int.emod_lt_of_pos _ (by decide)
  have wb : -1073741824 ≤ K / 4294967296 ∧ K / 4294967296 < 1073741824 := by omega
  generalize K / 4294967296 = Kw at ea f4 wb
  generalize K % 4294967296 = B at ea B0 B1 f5
  unfold C_compareWith3
  rw [show cgf s (311 + 3 * j) 4 = Kw from f4, show cgf s (311 + 3 * j) 1 = 0 from f1, show cgf s (311 + 3 * j) 5 = B from f5]
  refine ⟨fun e => ⟨fun _ => ?_, fun k => absurd rfl k⟩, fun e v ev => ?_⟩
  · obtain ⟨m1, m2⟩ := mul_bd (X := 4294967295) (Y := 2147483647) B0 (by omega) (show 0 ≤ q by omega) q2
    obtain ⟨m3, m4⟩ := mul_bd (x := B + 1) (X := 4294967296) (Y := 2147483647) (by omega) (by omega) (show 0 ≤ q by omega) q2
    have es : shlJ r 32 = r * 4294967296 := by
      have := shlJ_eq (x := r) (k := 32) (by decide)
      rw [show ((32 : Nat) : Int) = 32 from rfl, show (2 : Int) ^ 32 = 4294967296 by decide, w64_id (by omega) (by omega)] at this
      exact this
    rw [w64_id (x := B + 1) (by omega) (by omega), w64_id (x := B * q) (by omega) (by omega), w64_id (x := (B + 1) * q) (by omega) (by omega), es]
    obtain ⟨e1, e2, e3⟩ := wh_eq (Kw := Kw) (q := q) (r := r) (m := 4294967296) (B := B)
    have i1' : r * 4294967296 ≤ B * q → c0 x = 1 := fun k => i1 (by rw [← e, ea, e1, e2]; omega)
    have i2' : (B + 1) * q ≤ r * 4294967296 → c0 x = -1 := fun k => i2 (by rw [← e, ea, e1, e3]; omega)
    refine ⟨fun k1 => ⟨fun k2 => ?_, fun k2 => by rw [← i2' (by omega)]; exact hQ s (gfr_refl _ _ _)⟩, fun k1 => by rw [← i1' (by omega)]; exact hQ s (gfr_refl _ _ _)⟩
    have wq1 : W * q ≤ 1073741824 * q := Int.mul_le_mul_of_nonneg_right (by omega) (by omega)
    have wq2 : -1073741824 * q ≤ W * q := Int.mul_le_mul_of_nonneg_right (by omega) (by omega)
    rw [w64_id (x := W * q) (by omega) (by omega), w64_id (x := W * q + r) (by omega) (by omega)]
    have ins := side_in (c := c') (b := b') (a := W * q + r) (by omega) (show 0 < q by omega) x hx
    refine sideOf_v rs cb' (by omega) (by omega) (by omega) (by omega) (by omega) hj (fun z s1 hz g1 => ?_)
    have w1 := sdf_wk g1
    rcases hz (by omega) with ⟨k, ez⟩ | ⟨k3, k4, ez⟩ | ⟨k, ez⟩
    · subst ez
      refine ⟨fun k => absurd k (by decide), fun _ => ?_⟩
      rw [show w32 (- -1) = 1 from w32_id (by decide) (by decide), ← cut_le1 hc cl (Rat.not_lt.1 fun k' => by have := ins.1.1 k'; omega)]
      exact hQ s1 w1
    · subst ez
      refine ⟨fun _ => ?_, fun k => absurd rfl k⟩
      rw [show cgf s1 (311 + 3 * j) 0 = (o : Int) by show s1.1 _ _ = _; rw [w1.1 _ _ (by omega)]; exact f0, Int.toNat_natCast]
      have hP : ply s1 (86 + 2 * o) (p o) := ply_fr (hF.1 o ho).1 w1 (by omega) (by omega)
      obtain ⟨d, hd⟩ : ∃ d : Nat, s1.1 (86 + 2 * o) 0 = (d : Int) := ⟨(s1.1 (86 + 2 * o) 0).toNat, by have := dgo_0 hP.2 (pat_0 (hF.1 o ho).2.1); omega⟩
      have hf1 : ∃ lo hi mi ot, fq s1 lo hi mi ot := by
        obtain ⟨lo, hi, mi, ot, h⟩ := hf
        exact ⟨lo, hi, mi, ot, fq_co h w1 (fun k => by omega)⟩
      have qr : (0 : Rat) < q := Rat.intCast_pos.2 (by omega)
      have xe : ((W * q + r : Int) : Rat) / q = x := by rw [← hx, Rat.mul_comm]; grind
      refine signAtF_v hf1 hP (by omega) (by omega) hd (pat_b (hF.1 o ho).2.1) (by unfold Z62; omega) (by omega) (by unfold Z62; omega) (fun s2 w2 v ev => ?_)
      rw [xe, show cgf s2 (311 + 3 * j) 9 = t by show s2.1 _ _ = _; rw [w2.1 _ _ (by omega), w1.1 _ _ (by omega)]; exact f9] at ev
      have l1 := ins.1.2 k3
      have l2 := ins.2.2 k4
      have u := ict_u is hc (by rw [cl]; decide) (by rw [cr]; decide) ht x
      unfold ict at u
      rw [if_neg (by grind), if_neg (by grind)] at u
      have nx := nf x
      have tt := is.2.1
      have e9 : v = c0 x := by
        rcases rsg_3 (pev (p o) x) with k | k | k <;> rw [k] at ev u <;> rcases tt with h | h <;> rw [h] at ev u
        · rw [if_pos (by decide)] at ev; omega
        · rw [if_neg (by decide)] at ev; omega
        · omega
        · omega
        · rw [if_neg (by decide)] at ev; omega
        · rw [if_pos (by decide)] at ev; omega
      rw [e9]
      exact hQ s2 (gfr_trans w1 w2)
    · subst ez
      refine ⟨fun k => absurd k (by decide), fun _ => ?_⟩
      rw [show w32 (-1) = -1 from w32_id (by decide) (by decide), ← cut_ge1 hc cr (Rat.not_lt.1 fun k' => by have := ins.2.1 k'; omega)]
      exact hQ s1 w1
  · rw [ev]
    rcases Int.lt_trichotomy Kw W with k | k | k
    · have := wh_gt (q := q) (r := r) (m := 4294967296) (B := B) (by omega) r0 (by omega) B1 k
      rw [← ea] at this
      rw [cmp_lt k, ← i2 this]; exact hQ s (gfr_refl _ _ _)
    · exact absurd k e
    · have := wh_lt (q := q) (r := r) (m := 4294967296) (B := B) (by omega) rq (by omega) B0 k
      rw [← ea] at this
      rw [cmp_gt k, ← i1 (Int.le_of_lt this)]; exact hQ s (gfr_refl _ _ _)
theorem compareWith_v {s : im_S} {j o n mm : Nat} {D : Int} {p : Nat → List Int} {M : Nat → Nat → Nat} {c0 : Rat → Int} {W r q : Int} {x : Rat} {Q : Int → im_S → Prop} (hj : j < 80) (hB : BI s n D) (hF : BF s n p M mm) (ho : o < n) (hf : ∃ lo hi mi ot, fq s lo hi mi ot) (hc : cut c0) (hR : rdt s j o (p o) c0) (q1 : 1 ≤ q) (q2 : q ≤ 2147483647) (r0 : 0 ≤ r) (rq : r < q) (hx : (q : Rat) * x = ((W * q + r : Int) : Rat)) (hQ : ∀ s', wkf s s' → Q (c0 x) s') : C_compareWith3 (311 + 3 * j) W r q s Q := by
  rcases hR with ⟨a, qq, h1, h2⟩ | h
  · exact cw_F hc h1 h2 q1 q2 r0 rq hx (hQ s (gfr_refl _ _ _))
  · exact cw_N hj hB hF ho hf h q1 q2 r0 rq hx hQ
