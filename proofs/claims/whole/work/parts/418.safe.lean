/-! WALKS OF THE CLASS'S METHODS, by program -/
theorem sf_readBase7_d10 (L : Nat) (ys : Nat → Int32) (d : Nat) (s0 : im_S) (hT0 : tI s0) (x1 : Int) (x1l : -2147483648 ≤ x1) (x1h : x1 ≤ 2147483647) (x2 : Int) (x2l : 10 ≤ x2) (x2h : x2 ≤ 10) (pr0 : s0.1 2 2 ≤ s0.1 2 1) (pr1 : (s0.1 2 4 ≠ 0 ∨ s0.1 2 3 = 0 ∨ s0.1 2 2 < s0.1 2 1)) : icV gG rm_P L ys (d + 7) 194 [(2, ((2 : Nat) : Int)), (0, x1), (0, x2)] s0 (fun s => tI s ∧ fr [(2, 2), (2, 3), (2, 4), (2, 5), (4, 0)] s0 s ∧ s.1 2 2 ≤ s.1 2 1 ∧ (s.1 2 4 ≠ 0 ∨ s.1 2 3 = 0 ∨ s.1 2 2 < s.1 2 1)) := by
  refine ic_startM (M := rm_p_X7_readBase) om_X7_readBase (Nat.le_of_ble_eq_true rfl) ?_
  refine ir_w [(0, (2, ((2 : Nat) : Int))), (1, (0, x1)), (2, (0, x2))] ⟨rfl, rfl, rfl, trivial⟩ ?_
  have hF0 := fr_refl [(2, 2), (2, 3), (2, 4), (2, 5), (4, 0)] s0
  have J87 : ∀ (s_87 : im_S) (hT_87 : tI s_87) (hF_87 : fr [(2, 2), (2, 3), (2, 4), (2, 5), (4, 0)] s0 s_87) (w87_2_1 : Int) (w87_2_1l : 0 ≤ w87_2_1) (w87_2_1h : w87_2_1 ≤ 400) (w87_2_1e : s_87.1 2 1 = w87_2_1) (w87_2_2 : Int) (w87_2_2l : 0 ≤ w87_2_2) (w87_2_2h : w87_2_2 ≤ 400) (w87_2_2e : s_87.1 2 2 = w87_2_2) (w87_2_3 : Int) (w87_2_3l : 0 ≤ w87_2_3) (w87_2_3h : w87_2_3 ≤ 65535) (w87_2_3e : s_87.1 2 3 = w87_2_3) (w87_2_4 : Int) (w87_2_4l : 0 ≤ w87_2_4) (w87_2_4h : w87_2_4 ≤ 3) (w87_2_4e : s_87.1 2 4 = w87_2_4) (i87_0 : w87_2_2 ≤ w87_2_1) (i87_1 : (w87_2_4 ≠ 0 ∨ w87_2_3 = 0 ∨ w87_2_2 < w87_2_1)), ir gG rm_P L ys (d + 6) rm_p_X7_readBase (87, [], [], s_87) (fun r : im_Re => r.1 = none ∧ (tI r.2 ∧ fr [(2, 2), (2, 3), (2, 4), (2, 5), (4, 0)] s0 r.2 ∧ r.2.1 2 2 ≤ r.2.1 2 1 ∧ (r.2.1 2 4 ≠ 0 ∨ r.2.1 2 3 = 0 ∨ r.2.1 2 2 < r.2.1 2 1))) := by
    intro s_87 hT_87 hF_87 w87_2_1 w87_2_1l w87_2_1h w87_2_1e w87_2_2 w87_2_2l w87_2_2h w87_2_2e w87_2_3 w87_2_3l w87_2_3h w87_2_3e w87_2_4 w87_2_4l w87_2_4h w87_2_4e i87_0 i87_1
    exact ir_vret rfl rfl ⟨rfl, hT_87, hF_87, (by first | omega | (dsimp only; omega)), (by first | omega | (dsimp only; omega))⟩
  obtain ⟨z1, z1e, z1l, z1h⟩ := tI_i tf_2_1 tsk_2 hT0
  obtain ⟨z2, z2e, z2l, z2h⟩ := tI_i tf_2_2 tsk_2 hT0
  obtain ⟨z3, z3e, z3l, z3h⟩ := tI_i tf_2_3 tsk_2 hT0
  obtain ⟨z4, z4e, z4l, z4h⟩ := tI_i tf_2_4 tsk_2 hT0
  refine ir_l (pc' := 1) rfl rfl rfl rfl rfl rfl ?_
  refine ir_getI (pc' := 4) rfl rfl rfl (gG_at tsk_2) rfl (by decide) (by decide) z3e (by omega) (by omega) ?_
  refine ir_k (pc' := 6) (v := (0, 120)) rfl rfl rfl (fun _ => rfl) ?_
  refine ir_c_ne (pt := 26) (pc' := 9) rfl rfl rfl (fun c5 => ?_) (fun c5 => ?_)
  · refine ir_l (pc' := 27) rfl rfl rfl rfl rfl rfl ?_
    refine ir_getI (pc' := 30) rfl rfl rfl (gG_at tsk_2) rfl (by decide) (by decide) z3e (by omega) (by omega) ?_
    refine ir_k (pc' := 32) (v := (0, 40)) rfl rfl rfl (fun _ => rfl) ?_
    refine ir_c_eq (pt := 51) (pc' := 35) rfl rfl rfl (fun c6 => ?_) (fun c6 => ?_)
    · refine ir_l (pc' := 52) rfl rfl rfl rfl rfl rfl ?_
      refine ir_k (pc' := 54) (v := (0, 10)) rfl rfl rfl (fun _ => rfl) ?_
      refine ir_c_lt (pt := 69) (pc' := 57) rfl rfl rfl (fun c7 => ?_) (fun c7 => ?_)
      · exfalso; omega
      · refine ir_l (pc' := 58) rfl rfl rfl rfl rfl rfl ?_
        refine ir_k (pc' := 59) (v := (0, 3)) rfl rfl rfl (fun _ => rfl) ?_
        refine ir_l (pc' := 60) rfl rfl rfl rfl rfl rfl ?_
        refine ir_getI (pc' := 63) rfl rfl rfl (gG_at tsk_2) rfl (by decide) (by decide) z2e (by omega) (by omega) ?_
        refine ir_cVV (pc' := 66) rfl rfl rfl rfl rfl (Nat.le_of_ble_eq_true rfl) oo_X7_fail (gG_at tsk_2) (sf_fail7 L ys (d + 5) s0 hT0 (3) (by omega) (by omega) (z2) (by omega) (by omega) ) (fun s9 hr => ?_)
        obtain ⟨hT9, hG9, p9_0⟩ := hr
        have hF9 := fr_trans hF0 hG9 (by decide)
        have e10 : s9.1 2 1 = z1 := (hG9.1 _ _ tsk_2 1 (by decide)).trans z1e
        have e11 : s9.1 2 2 = z2 := (hG9.1 _ _ tsk_2 2 (by decide)).trans z2e
        obtain ⟨z12, z12e, z12l, z12h⟩ := tI_i tf_2_3 tsk_2 hT9
        obtain ⟨z13, z13e, z13l, z13h⟩ := tI_i tf_2_4 tsk_2 hT9
        refine ir_goto (pc' := 87) rfl rfl ?_
        refine ir_w [] trivial ?_
        exact J87 s9 hT9 hF9 (z1) (by omega) (by omega) e10 (z2) (by omega) (by omega) e11 (z12) (by omega) (by omega) z12e (z13) (by omega) (by omega) z13e (by omega) (by omega)
    · refine ir_l (pc' := 36) rfl rfl rfl rfl rfl rfl ?_
      refine ir_l (pc' := 37) rfl rfl rfl rfl rfl rfl ?_
      refine ir_cVR (pc' := 40) rfl rfl rfl rfl rfl (Nat.le_of_ble_eq_true rfl) oo_X7_slot (gG_at tsk_2) (sf_slot7 L ys (d + 4) s0 hT0 (x1) (by omega) (by omega) ) (fun b14 s15 hr => ?_)
      obtain ⟨hT15, hG15, b14k⟩ := hr
      have hF15 := fr_trans hF0 hG15 (by decide)
      have e16 : s15.1 2 1 = z1 := (hG15.1 _ _ tsk_2 1 (by decide)).trans z1e
      have e17 : s15.1 2 2 = z2 := (hG15.1 _ _ tsk_2 2 (by decide)).trans z2e
      have e18 : s15.1 2 3 = z3 := (hG15.1 _ _ tsk_2 3 (by decide)).trans z3e
      have e19 : s15.1 2 4 = z4 := (hG15.1 _ _ tsk_2 4 (by decide)).trans z4e
      refine ir_l (pc' := 41) rfl rfl rfl rfl rfl rfl ?_
      refine ir_cVI (pc' := 44) rfl rfl rfl rfl rfl (Nat.le_of_ble_eq_true rfl) oo_X7_readNumber (gG_at tsk_2) (sf_readNumber7 L ys d s15 hT15  (by omega) (by omega)) (fun z20 s21 hr => ?_)
      obtain ⟨hT21, hG21, z20l, z20h, p21_0, p21_1⟩ := hr
      have hF21 := fr_trans hF15 hG21 (by decide)
      have e22 : s21.1 2 1 = z1 := (hG21.1 _ _ tsk_2 1 (by decide)).trans e16
      obtain ⟨z23, z23e, z23l, z23h⟩ := tI_i tf_2_2 tsk_2 hT21
      obtain ⟨z24, z24e, z24l, z24h⟩ := tI_i tf_2_3 tsk_2 hT21
      obtain ⟨z25, z25e, z25l, z25h⟩ := tI_i tf_2_4 tsk_2 hT21
      refine ir_i2l (pc' := 45) rfl rfl (by omega) (by omega) ?_
      refine ir_cVV (pc' := 48) rfl rfl rfl rfl rfl (Nat.le_of_ble_eq_true rfl) oo_X6_setConstant (gG_at b14k) (sf_setConstant6 L ys (d + 5) s21 hT21 b14 b14k (z20) (by omega) (by omega) ) (fun s27 hr => ?_)
      obtain ⟨hT27, hG27⟩ := hr
      have hF27 := fr_trans hF21 hG27 (by decide)
      have e28 : s27.1 2 1 = z1 := (hG27.1 _ _ tsk_2 1 (by decide)).trans e22
      have e29 : s27.1 2 2 = z23 := (hG27.1 _ _ tsk_2 2 (by decide)).trans z23e
      have e30 : s27.1 2 3 = z24 := (hG27.1 _ _ tsk_2 3 (by decide)).trans z24e
      have e31 : s27.1 2 4 = z25 := (hG27.1 _ _ tsk_2 4 (by decide)).trans z25e
      refine ir_goto (pc' := 87) rfl rfl ?_
      refine ir_w [] trivial ?_
      exact J87 s27 hT27 hF27 (z1) (by omega) (by omega) e28 (z23) (by omega) (by omega) e29 (z24) (by omega) (by omega) e30 (z25) (by omega) (by omega) e31 (by omega) (by omega)
  · refine ir_l (pc' := 10) rfl rfl rfl rfl rfl rfl ?_
    refine ir_l (pc' := 11) rfl rfl rfl rfl rfl rfl ?_
    refine ir_cVR (pc' := 14) rfl rfl rfl rfl rfl (Nat.le_of_ble_eq_true rfl) oo_X7_slot (gG_at tsk_2) (sf_slot7 L ys (d + 4) s0 hT0 (x1) (by omega) (by omega) ) (fun b32 s33 hr => ?_)
    obtain ⟨hT33, hG33, b32k⟩ := hr
    have hF33 := fr_trans hF0 hG33 (by decide)
    have e34 : s33.1 2 1 = z1 := (hG33.1 _ _ tsk_2 1 (by decide)).trans z1e
    have e35 : s33.1 2 2 = z2 := (hG33.1 _ _ tsk_2 2 (by decide)).trans z2e
    have e36 : s33.1 2 3 = z3 := (hG33.1 _ _ tsk_2 3 (by decide)).trans z3e
    have e37 : s33.1 2 4 = z4 := (hG33.1 _ _ tsk_2 4 (by decide)).trans z4e
    refine ir_k (pc' := 15) (v := (1, 1)) rfl rfl rfl (fun _ => rfl) ?_
    refine ir_k (pc' := 16) (v := (1, 0)) rfl rfl rfl (fun _ => rfl) ?_
    refine ir_cVV (pc' := 19) rfl rfl rfl rfl rfl (Nat.le_of_ble_eq_true rfl) oo_X6_setLinear (gG_at b32k) (sf_setLinear6 L ys (d + 4) s33 hT33 b32 b32k (1) (by omega) (by omega) (0) (by omega) (by omega) ) (fun s39 hr => ?_)
    obtain ⟨hT39, hG39⟩ := hr
    have hF39 := fr_trans hF33 hG39 (by decide)
    have e40 : s39.1 2 1 = z1 := (hG39.1 _ _ tsk_2 1 (by decide)).trans e34
    have e41 : s39.1 2 2 = z2 := (hG39.1 _ _ tsk_2 2 (by decide)).trans e35
    have e42 : s39.1 2 3 = z3 := (hG39.1 _ _ tsk_2 3 (by decide)).trans e36
    have e43 : s39.1 2 4 = z4 := (hG39.1 _ _ tsk_2 4 (by decide)).trans e37
    refine ir_l (pc' := 20) rfl rfl rfl rfl rfl rfl ?_
    refine ir_cVV (pc' := 23) rfl rfl rfl rfl rfl (Nat.le_of_ble_eq_true rfl) oo_X7_step (gG_at tsk_2) (sf_step7 L ys d s39 hT39  (by omega) (by omega) (by omega)) (fun s45 hr => ?_)
    obtain ⟨hT45, hG45, p45_0, p45_1⟩ := hr
    have hF45 := fr_trans hF39 hG45 (by decide)
    have e46 : s45.1 2 1 = z1 := (hG45.1 _ _ tsk_2 1 (by decide)).trans e40
    obtain ⟨z47, z47e, z47l, z47h⟩ := tI_i tf_2_2 tsk_2 hT45
    obtain ⟨z48, z48e, z48l, z48h⟩ := tI_i tf_2_3 tsk_2 hT45
    obtain ⟨z49, z49e, z49l, z49h⟩ := tI_i tf_2_4 tsk_2 hT45
    refine ir_goto (pc' := 87) rfl rfl ?_
    refine ir_w [] trivial ?_
    exact J87 s45 hT45 hF45 (z1) (by omega) (by omega) e46 (z47) (by omega) (by omega) z47e (z48) (by omega) (by omega) z48e (z49) (by omega) (by omega) z49e (by omega) (by omega)
theorem sf_readPower7_d10 (L : Nat) (ys : Nat → Int32) (d : Nat) (s0 : im_S) (hT0 : tI s0) (x1 : Int) (x1l : -2147483648 ≤ x1) (x1h : x1 ≤ 2147483647) (x2 : Int) (x2l : 10 ≤ x2) (x2h : x2 ≤ 10) (pr0 : s0.1 2 2 ≤ s0.1 2 1) (pr1 : (s0.1 2 4 ≠ 0 ∨ s0.1 2 3 = 0 ∨ s0.1 2 2 < s0.1 2 1)) : icV gG rm_P L ys (d + 8) 197 [(2, ((2 : Nat) : Int)), (0, x1), (0, x2)] s0 (fun s => tI s ∧ fr [(2, 2), (2, 3), (2, 4), (2, 5), (4, 0)] s0 s ∧ s.1 2 2 ≤ s.1 2 1 ∧ (s.1 2 4 ≠ 0 ∨ s.1 2 3 = 0 ∨ s.1 2 2 < s.1 2 1)) := by
  refine ic_startM (M := rm_p_X7_readPower) om_X7_readPower (Nat.le_of_ble_eq_true rfl) ?_
  refine ir_w [(0, (2, ((2 : Nat) : Int))), (1, (0, x1)), (2, (0, x2))] ⟨rfl, rfl, rfl, trivial⟩ ?_
  have hF0 := fr_refl [(2, 2), (2, 3), (2, 4), (2, 5), (4, 0)] s0
  have J42 : ∀ (s_42 : im_S) (hT_42 : tI s_42) (hF_42 : fr [(2, 2), (2, 3), (2, 4), (2, 5), (4, 0)] s0 s_42) (w42_2_1 : Int) (w42_2_1l : 0 ≤ w42_2_1) (w42_2_1h : w42_2_1 ≤ 400) (w42_2_1e : s_42.1 2 1 = w42_2_1) (w42_2_2 : Int) (w42_2_2l : 0 ≤ w42_2_2) (w42_2_2h : w42_2_2 ≤ 400) (w42_2_2e : s_42.1 2 2 = w42_2_2) (w42_2_3 : Int) (w42_2_3l : 0 ≤ w42_2_3) (w42_2_3h : w42_2_3 ≤ 65535) (w42_2_3e : s_42.1 2 3 = w42_2_3) (w42_2_4 : Int) (w42_2_4l : 0 ≤ w42_2_4) (w42_2_4h : w42_2_4 ≤ 3) (w42_2_4e : s_42.1 2 4 = w42_2_4) (i42_0 : w42_2_2 ≤ w42_2_1) (i42_1 : (w42_2_4 ≠ 0 ∨ w42_2_3 = 0 ∨ w42_2_2 < w42_2_1)), ir gG rm_P L ys (d + 7) rm_p_X7_readPower (42, [], [], s_42) (fun r : im_Re => r.1 = none ∧ (tI r.2 ∧ fr [(2, 2), (2, 3), (2, 4), (2, 5), (4, 0)] s0 r.2 ∧ r.2.1 2 2 ≤ r.2.1 2 1 ∧ (r.2.1 2 4 ≠ 0 ∨ r.2.1 2 3 = 0 ∨ r.2.1 2 2 < r.2.1 2 1))) := by
    intro s_42 hT_42 hF_42 w42_2_1 w42_2_1l w42_2_1h w42_2_1e w42_2_2 w42_2_2l w42_2_2h w42_2_2e w42_2_3 w42_2_3l w42_2_3h w42_2_3e w42_2_4 w42_2_4l w42_2_4h w42_2_4e i42_0 i42_1
    exact ir_vret rfl rfl ⟨rfl, hT_42, hF_42, (by first | omega | (dsimp only; omega)), (by first | omega | (dsimp only; omega))⟩
  obtain ⟨z1, z1e, z1l, z1h⟩ := tI_i tf_2_1 tsk_2 hT0
  obtain ⟨z2, z2e, z2l, z2h⟩ := tI_i tf_2_2 tsk_2 hT0
  obtain ⟨z3, z3e, z3l, z3h⟩ := tI_i tf_2_3 tsk_2 hT0
  obtain ⟨z4, z4e, z4l, z4h⟩ := tI_i tf_2_4 tsk_2 hT0
  refine ir_l (pc' := 1) rfl rfl rfl rfl rfl rfl ?_
  refine ir_l (pc' := 2) rfl rfl rfl rfl rfl rfl ?_
  refine ir_l (pc' := 3) rfl rfl rfl rfl rfl rfl ?_
  refine ir_cVV (pc' := 6) rfl rfl rfl rfl rfl (Nat.le_of_ble_eq_true rfl) oo_X7_readBase (gG_at tsk_2) (sf_readBase7_d10 L ys d s0 hT0 (x1) (by omega) (by omega) (x2) (by omega) (by omega) (by omega) (by omega)) (fun s6 hr => ?_)
  obtain ⟨hT6, hG6, p6_0, p6_1⟩ := hr
  have hF6 := fr_trans hF0 hG6 (by decide)
  have e7 : s6.1 2 1 = z1 := (hG6.1 _ _ tsk_2 1 (by decide)).trans z1e
  obtain ⟨z8, z8e, z8l, z8h⟩ := tI_i tf_2_2 tsk_2 hT6
  obtain ⟨z9, z9e, z9l, z9h⟩ := tI_i tf_2_3 tsk_2 hT6
  obtain ⟨z10, z10e, z10l, z10h⟩ := tI_i tf_2_4 tsk_2 hT6
  refine ir_l (pc' := 7) rfl rfl rfl rfl rfl rfl ?_
  refine ir_getI (pc' := 10) rfl rfl rfl (gG_at tsk_2) rfl (by decide) (by decide) z9e (by omega) (by omega) ?_
  refine ir_k (pc' := 12) (v := (0, 94)) rfl rfl rfl (fun _ => rfl) ?_
  refine ir_c_ne (pt := 42) (pc' := 15) rfl rfl rfl (fun c11 => ?_) (fun c11 => ?_)
  · refine ir_w [] trivial ?_
    exact J42 s6 hT6 hF6 (z1) (by omega) (by omega) e7 (z8) (by omega) (by omega) z8e (z9) (by omega) (by omega) z9e (z10) (by omega) (by omega) z10e (by omega) (by omega)
  · refine ir_l (pc' := 16) rfl rfl rfl rfl rfl rfl ?_
    refine ir_getI (pc' := 19) rfl rfl rfl (gG_at tsk_2) rfl (by decide) (by decide) z8e (by omega) (by omega) ?_
    refine ir_s (pc' := 20) rfl rfl rfl rfl rfl rfl ?_
    refine ir_l (pc' := 21) rfl rfl rfl rfl rfl rfl ?_
    refine ir_cVV (pc' := 24) rfl rfl rfl rfl rfl (Nat.le_of_ble_eq_true rfl) oo_X7_step (gG_at tsk_2) (sf_step7 L ys (d + 1) s6 hT6  (by omega) (by omega) (by omega)) (fun s13 hr => ?_)
    obtain ⟨hT13, hG13, p13_0, p13_1⟩ := hr
    have hF13 := fr_trans hF6 hG13 (by decide)
    have e14 : s13.1 2 1 = z1 := (hG13.1 _ _ tsk_2 1 (by decide)).trans e7
    obtain ⟨z15, z15e, z15l, z15h⟩ := tI_i tf_2_2 tsk_2 hT13
    obtain ⟨z16, z16e, z16l, z16h⟩ := tI_i tf_2_3 tsk_2 hT13
    obtain ⟨z17, z17e, z17l, z17h⟩ := tI_i tf_2_4 tsk_2 hT13
    refine ir_l (pc' := 25) rfl rfl rfl rfl rfl rfl ?_
    refine ir_cVI (pc' := 28) rfl rfl rfl rfl rfl (Nat.le_of_ble_eq_true rfl) oo_X7_readNumber (gG_at tsk_2) (sf_readNumber7 L ys (d + 1) s13 hT13  (by omega) (by omega)) (fun z18 s19 hr => ?_)
    obtain ⟨hT19, hG19, z18l, z18h, p19_0, p19_1⟩ := hr
    have hF19 := fr_trans hF13 hG19 (by decide)
    have e20 : s19.1 2 1 = z1 := (hG19.1 _ _ tsk_2 1 (by decide)).trans e14
    obtain ⟨z21, z21e, z21l, z21h⟩ := tI_i tf_2_2 tsk_2 hT19
    obtain ⟨z22, z22e, z22l, z22h⟩ := tI_i tf_2_3 tsk_2 hT19
    obtain ⟨z23, z23e, z23l, z23h⟩ := tI_i tf_2_4 tsk_2 hT19
    refine ir_s (pc' := 30) rfl rfl rfl rfl rfl rfl ?_
    refine ir_l (pc' := 31) rfl rfl rfl rfl rfl rfl ?_
    refine ir_l (pc' := 32) rfl rfl rfl rfl rfl rfl ?_
    refine ir_l (pc' := 33) rfl rfl rfl rfl rfl rfl ?_
    refine ir_cVR (pc' := 36) rfl rfl rfl rfl rfl (Nat.le_of_ble_eq_true rfl) oo_X7_slot (gG_at tsk_2) (sf_slot7 L ys (d + 5) s19 hT19 (x1) (by omega) (by omega) ) (fun b24 s25 hr => ?_)
    obtain ⟨hT25, hG25, b24k⟩ := hr
    have hF25 := fr_trans hF19 hG25 (by decide)
    have e26 : s25.1 2 1 = z1 := (hG25.1 _ _ tsk_2 1 (by decide)).trans e20
    have e27 : s25.1 2 2 = z21 := (hG25.1 _ _ tsk_2 2 (by decide)).trans z21e
    have e28 : s25.1 2 3 = z22 := (hG25.1 _ _ tsk_2 3 (by decide)).trans z22e
    have e29 : s25.1 2 4 = z23 := (hG25.1 _ _ tsk_2 4 (by decide)).trans z23e
    refine ir_l (pc' := 38) rfl rfl rfl rfl rfl rfl ?_
    refine ir_l (pc' := 39) rfl rfl rfl rfl rfl rfl ?_
    refine ir_cVV (pc' := 42) rfl rfl rfl rfl rfl (Nat.le_of_ble_eq_true rfl) oo_X7_raise (gG_at tsk_2) (sf_raise7 L ys (d + 3) s25 hT25 b24 b24k (z18) (by omega) (by omega) (z8) (by omega) (by omega) (by omega) (by omega)) (fun s31 hr => ?_)
    obtain ⟨hT31, hG31, p31_0, p31_1⟩ := hr
    have hF31 := fr_trans hF25 hG31 (by decide)
    have e32 : s31.1 2 1 = z1 := (hG31.1 _ _ tsk_2 1 (by decide)).trans e26
    have e33 : s31.1 2 2 = z21 := (hG31.1 _ _ tsk_2 2 (by decide)).trans e27
    obtain ⟨z34, z34e, z34l, z34h⟩ := tI_i tf_2_3 tsk_2 hT31
    obtain ⟨z35, z35e, z35l, z35h⟩ := tI_i tf_2_4 tsk_2 hT31
    refine ir_w [] trivial ?_
    exact J42 s31 hT31 hF31 (z1) (by omega) (by omega) e32 (z21) (by omega) (by omega) e33 (z34) (by omega) (by omega) z34e (z35) (by omega) (by omega) z35e (by omega) (by omega)
theorem sf_readTerm7_d10 (L : Nat) (ys : Nat → Int32) (d : Nat) (s0 : im_S) (hT0 : tI s0) (x1 : Int) (x1l : -2147483648 ≤ x1) (x1h : x1 ≤ 2147483647) (x2 : Int) (x2l : 10 ≤ x2) (x2h : x2 ≤ 10) (pr0 : s0.1 2 2 ≤ s0.1 2 1) (pr1 : (s0.1 2 4 ≠ 0 ∨ s0.1 2 3 = 0 ∨ s0.1 2 2 < s0.1 2 1)) : icV gG rm_P L ys (d + 9) 199 [(2, ((2 : Nat) : Int)), (0, x1), (0, x2)] s0 (fun s => tI s ∧ fr [(2, 2), (2, 3), (2, 4), (2, 5), (4, 0)] s0 s ∧ s.1 2 2 ≤ s.1 2 1 ∧ (s.1 2 4 ≠ 0 ∨ s.1 2 3 = 0 ∨ s.1 2 2 < s.1 2 1)) := by
  refine ic_startM (M := rm_p_X7_readTerm) om_X7_readTerm (Nat.le_of_ble_eq_true rfl) ?_
  refine ir_w [(0, (2, ((2 : Nat) : Int))), (1, (0, x1)), (2, (0, x2))] ⟨rfl, rfl, rfl, trivial⟩ ?_
  have hF0 := fr_refl [(2, 2), (2, 3), (2, 4), (2, 5), (4, 0)] s0
  have J66 : ∀ (s_66 : im_S) (hT_66 : tI s_66) (hF_66 : fr [(2, 2), (2, 3), (2, 4), (2, 5), (4, 0)] s0 s_66) (w66_2_1 : Int) (w66_2_1l : 0 ≤ w66_2_1) (w66_2_1h : w66_2_1 ≤ 400) (w66_2_1e : s_66.1 2 1 = w66_2_1) (w66_2_2 : Int) (w66_2_2l : 0 ≤ w66_2_2) (w66_2_2h : w66_2_2 ≤ 400) (w66_2_2e : s_66.1 2 2 = w66_2_2) (w66_2_3 : Int) (w66_2_3l : 0 ≤ w66_2_3) (w66_2_3h : w66_2_3 ≤ 65535) (w66_2_3e : s_66.1 2 3 = w66_2_3) (w66_2_4 : Int) (w66_2_4l : 0 ≤ w66_2_4) (w66_2_4h : w66_2_4 ≤ 3) (w66_2_4e : s_66.1 2 4 = w66_2_4) (i66_0 : w66_2_2 ≤ w66_2_1) (i66_1 : (w66_2_4 ≠ 0 ∨ w66_2_3 = 0 ∨ w66_2_2 < w66_2_1)), ir gG rm_P L ys (d + 8) rm_p_X7_readTerm (66, [], [], s_66) (fun r : im_Re => r.1 = none ∧ (tI r.2 ∧ fr [(2, 2), (2, 3), (2, 4), (2, 5), (4, 0)] s0 r.2 ∧ r.2.1 2 2 ≤ r.2.1 2 1 ∧ (r.2.1 2 4 ≠ 0 ∨ r.2.1 2 3 = 0 ∨ r.2.1 2 2 < r.2.1 2 1))) := by
    intro s_66 hT_66 hF_66 w66_2_1 w66_2_1l w66_2_1h w66_2_1e w66_2_2 w66_2_2l w66_2_2h w66_2_2e w66_2_3 w66_2_3l w66_2_3h w66_2_3e w66_2_4 w66_2_4l w66_2_4h w66_2_4e i66_0 i66_1
    exact ir_vret rfl rfl ⟨rfl, hT_66, hF_66, (by first | omega | (dsimp only; omega)), (by first | omega | (dsimp only; omega))⟩
  have J8 : ∀ n : Nat, ∀ (q8_l3 : Int) (q8_l3l : 0 ≤ q8_l3) (q8_l3h : q8_l3 ≤ 400) (s_8 : im_S) (hT_8 : tI s_8) (hF_8 : fr [(2, 2), (2, 3), (2, 4), (2, 5), (4, 0)] s0 s_8) (w8_2_1 : Int) (w8_2_1l : 0 ≤ w8_2_1) (w8_2_1h : w8_2_1 ≤ 400) (w8_2_1e : s_8.1 2 1 = w8_2_1) (w8_2_2 : Int) (w8_2_2l : 0 ≤ w8_2_2) (w8_2_2h : w8_2_2 ≤ 400) (w8_2_2e : s_8.1 2 2 = w8_2_2) (w8_2_3 : Int) (w8_2_3l : 0 ≤ w8_2_3) (w8_2_3h : w8_2_3 ≤ 65535) (w8_2_3e : s_8.1 2 3 = w8_2_3) (w8_2_4 : Int) (w8_2_4l : 0 ≤ w8_2_4) (w8_2_4h : w8_2_4 ≤ 3) (w8_2_4e : s_8.1 2 4 = w8_2_4) (i8_0 : w8_2_2 ≤ w8_2_1) (i8_1 : (w8_2_4 ≠ 0 ∨ w8_2_3 = 0 ∨ w8_2_2 < w8_2_1)), (400 + 1 - q8_l3) ≤ (n : Int) → ir gG rm_P L ys (d + 8) rm_p_X7_readTerm (8, [(0, (2, ((2 : Nat) : Int))), (1, (0, x1)), (2, (0, x2)), (3, (0, q8_l3))], [], s_8) (fun r : im_Re => r.1 = none ∧ (tI r.2 ∧ fr [(2, 2), (2, 3), (2, 4), (2, 5), (4, 0)] s0 r.2 ∧ r.2.1 2 2 ≤ r.2.1 2 1 ∧ (r.2.1 2 4 ≠ 0 ∨ r.2.1 2 3 = 0 ∨ r.2.1 2 2 < r.2.1 2 1))) := by
    intro n
    induction n with
    | zero => intro q8_l3 q8_l3l q8_l3h s_8 hT_8 hF_8 w8_2_1 w8_2_1l w8_2_1h w8_2_1e w8_2_2 w8_2_2l w8_2_2h w8_2_2e w8_2_3 w8_2_3l w8_2_3h w8_2_3e w8_2_4 w8_2_4l w8_2_4h w8_2_4e i8_0 i8_1 hr; exfalso; omega
    | succ n ih8 =>
      intro q8_l3 q8_l3l q8_l3h s_8 hT_8 hF_8 w8_2_1 w8_2_1l w8_2_1h w8_2_1e w8_2_2 w8_2_2l w8_2_2h w8_2_2e w8_2_3 w8_2_3l w8_2_3h w8_2_3e w8_2_4 w8_2_4l w8_2_4h w8_2_4e i8_0 i8_1 hr
      refine ir_l (pc' := 9) rfl rfl rfl rfl rfl rfl ?_
      refine ir_k (pc' := 12) (v := (0, 400)) rfl rfl rfl (fun _ => rfl) ?_
      refine ir_c_ge (pt := 66) (pc' := 15) rfl rfl rfl (fun c1 => ?_) (fun c1 => ?_)
      · refine ir_w [] trivial ?_
        exact J66 s_8 hT_8 hF_8 (w8_2_1) (by omega) (by omega) w8_2_1e (w8_2_2) (by omega) (by omega) w8_2_2e (w8_2_3) (by omega) (by omega) w8_2_3e (w8_2_4) (by omega) (by omega) w8_2_4e (by omega) (by omega)
      · refine ir_l (pc' := 16) rfl rfl rfl rfl rfl rfl ?_
        refine ir_getI (pc' := 19) rfl rfl rfl (gG_at tsk_2) rfl (by decide) (by decide) w8_2_3e (by omega) (by omega) ?_
        refine ir_k (pc' := 21) (v := (0, 42)) rfl rfl rfl (fun _ => rfl) ?_
        refine ir_c_ne (pt := 66) (pc' := 24) rfl rfl rfl (fun c2 => ?_) (fun c2 => ?_)
        · refine ir_w [] trivial ?_
          exact J66 s_8 hT_8 hF_8 (w8_2_1) (by omega) (by omega) w8_2_1e (w8_2_2) (by omega) (by omega) w8_2_2e (w8_2_3) (by omega) (by omega) w8_2_3e (w8_2_4) (by omega) (by omega) w8_2_4e (by omega) (by omega)
        · refine ir_l (pc' := 25) rfl rfl rfl rfl rfl rfl ?_
          refine ir_getI (pc' := 28) rfl rfl rfl (gG_at tsk_2) rfl (by decide) (by decide) w8_2_2e (by omega) (by omega) ?_
          refine ir_s (pc' := 30) rfl rfl rfl rfl rfl rfl ?_
          refine ir_l (pc' := 31) rfl rfl rfl rfl rfl rfl ?_
          refine ir_cVV (pc' := 34) rfl rfl rfl rfl rfl (Nat.le_of_ble_eq_true rfl) oo_X7_step (gG_at tsk_2) (sf_step7 L ys (d + 2) s_8 hT_8  (by omega) (by omega) (by omega)) (fun s4 hr => ?_)
          obtain ⟨hT4, hG4, p4_0, p4_1⟩ := hr
          have hF4 := fr_trans hF_8 hG4 (by decide)
          have e5 : s4.1 2 1 = w8_2_1 := (hG4.1 _ _ tsk_2 1 (by decide)).trans w8_2_1e
          obtain ⟨z6, z6e, z6l, z6h⟩ := tI_i tf_2_2 tsk_2 hT4
          obtain ⟨z7, z7e, z7l, z7h⟩ := tI_i tf_2_3 tsk_2 hT4
          obtain ⟨z8, z8e, z8l, z8h⟩ := tI_i tf_2_4 tsk_2 hT4
          refine ir_l (pc' := 35) rfl rfl rfl rfl rfl rfl ?_
          refine ir_l (pc' := 36) rfl rfl rfl rfl rfl rfl ?_
          refine ir_k (pc' := 37) (v := (0, 1)) rfl rfl rfl (fun _ => rfl) ?_
          refine ir_iiA (pc' := 38) rfl rfl rfl rfl (fun z9 z9l z9h => ?_)
          refine ir_l (pc' := 39) rfl rfl rfl rfl rfl rfl ?_
          refine ir_cVV (pc' := 42) rfl rfl rfl rfl rfl (Nat.le_of_ble_eq_true rfl) oo_X7_readPower (gG_at tsk_2) (sf_readPower7_d10 L ys d s4 hT4 (z9) (by omega) (by omega) (x2) (by omega) (by omega) (by omega) (by omega)) (fun s11 hr => ?_)
          obtain ⟨hT11, hG11, p11_0, p11_1⟩ := hr
          have hF11 := fr_trans hF4 hG11 (by decide)
          have e12 : s11.1 2 1 = w8_2_1 := (hG11.1 _ _ tsk_2 1 (by decide)).trans e5
          obtain ⟨z13, z13e, z13l, z13h⟩ := tI_i tf_2_2 tsk_2 hT11
          obtain ⟨z14, z14e, z14l, z14h⟩ := tI_i tf_2_3 tsk_2 hT11
          obtain ⟨z15, z15e, z15l, z15h⟩ := tI_i tf_2_4 tsk_2 hT11
          refine ir_l (pc' := 43) rfl rfl rfl rfl rfl rfl ?_
          refine ir_l (pc' := 44) rfl rfl rfl rfl rfl rfl ?_
          refine ir_l (pc' := 45) rfl rfl rfl rfl rfl rfl ?_
          refine ir_cVR (pc' := 48) rfl rfl rfl rfl rfl (Nat.le_of_ble_eq_true rfl) oo_X7_slot (gG_at tsk_2) (sf_slot7 L ys (d + 6) s11 hT11 (x1) (by omega) (by omega) ) (fun b16 s17 hr => ?_)
          obtain ⟨hT17, hG17, b16k⟩ := hr
          have hF17 := fr_trans hF11 hG17 (by decide)
          have e18 : s17.1 2 1 = w8_2_1 := (hG17.1 _ _ tsk_2 1 (by decide)).trans e12
          have e19 : s17.1 2 2 = z13 := (hG17.1 _ _ tsk_2 2 (by decide)).trans z13e
          have e20 : s17.1 2 3 = z14 := (hG17.1 _ _ tsk_2 3 (by decide)).trans z14e
          have e21 : s17.1 2 4 = z15 := (hG17.1 _ _ tsk_2 4 (by decide)).trans z15e
          refine ir_l (pc' := 49) rfl rfl rfl rfl rfl rfl ?_
          refine ir_l (pc' := 50) rfl rfl rfl rfl rfl rfl ?_
          refine ir_k (pc' := 51) (v := (0, 1)) rfl rfl rfl (fun _ => rfl) ?_
          refine ir_iiA (pc' := 52) rfl rfl rfl rfl (fun z22 z22l z22h => ?_)
          refine ir_cVR (pc' := 55) rfl rfl rfl rfl rfl (Nat.le_of_ble_eq_true rfl) oo_X7_slot (gG_at tsk_2) (sf_slot7 L ys (d + 6) s17 hT17 (z22) (by omega) (by omega) ) (fun b23 s24 hr => ?_)
          obtain ⟨hT24, hG24, b23k⟩ := hr
          have hF24 := fr_trans hF17 hG24 (by decide)
          have e25 : s24.1 2 1 = w8_2_1 := (hG24.1 _ _ tsk_2 1 (by decide)).trans e18
          have e26 : s24.1 2 2 = z13 := (hG24.1 _ _ tsk_2 2 (by decide)).trans e19
          have e27 : s24.1 2 3 = z14 := (hG24.1 _ _ tsk_2 3 (by decide)).trans e20
          have e28 : s24.1 2 4 = z15 := (hG24.1 _ _ tsk_2 4 (by decide)).trans e21
          refine ir_l (pc' := 57) rfl rfl rfl rfl rfl rfl ?_
          refine ir_cVV (pc' := 60) rfl rfl rfl rfl rfl (Nat.le_of_ble_eq_true rfl) oo_X7_multiply (gG_at tsk_2) (sf_multiply7 L ys (d + 5) s24 hT24 b16 b16k b23 b23k (w8_2_2) (by omega) (by omega) (by omega) (by omega)) (fun s30 hr => ?_)
          obtain ⟨hT30, hG30, p30_0, p30_1⟩ := hr
          have hF30 := fr_trans hF24 hG30 (by decide)
          have e31 : s30.1 2 1 = w8_2_1 := (hG30.1 _ _ tsk_2 1 (by decide)).trans e25
          have e32 : s30.1 2 2 = z13 := (hG30.1 _ _ tsk_2 2 (by decide)).trans e26
          obtain ⟨z33, z33e, z33l, z33h⟩ := tI_i tf_2_3 tsk_2 hT30
          obtain ⟨z34, z34e, z34l, z34h⟩ := tI_i tf_2_4 tsk_2 hT30
          refine ir_inc (pc' := 63) rfl rfl rfl rfl rfl (by omega) (by omega) ?_
          refine ir_goto (pc' := 8) rfl rfl ?_
          refine ir_w [(0, (2, ((2 : Nat) : Int))), (1, (0, x1)), (2, (0, x2)), (3, (0, (q8_l3 + 1)))] ⟨rfl, rfl, rfl, rfl, trivial⟩ ?_
          exact ih8 ((q8_l3 + 1)) (by omega) (by omega) s30 hT30 hF30 (w8_2_1) (by omega) (by omega) e31 (z13) (by omega) (by omega) e32 (z33) (by omega) (by omega) z33e (z34) (by omega) (by omega) z34e (by omega) (by omega) (by omega)
  obtain ⟨z35, z35e, z35l, z35h⟩ := tI_i tf_2_1 tsk_2 hT0
  obtain ⟨z36, z36e, z36l, z36h⟩ := tI_i tf_2_2 tsk_2 hT0
  obtain ⟨z37, z37e, z37l, z37h⟩ := tI_i tf_2_3 tsk_2 hT0
  obtain ⟨z38, z38e, z38l, z38h⟩ := tI_i tf_2_4 tsk_2 hT0
  refine ir_l (pc' := 1) rfl rfl rfl rfl rfl rfl ?_
  refine ir_l (pc' := 2) rfl rfl rfl rfl rfl rfl ?_
  refine ir_l (pc' := 3) rfl rfl rfl rfl rfl rfl ?_
  refine ir_cVV (pc' := 6) rfl rfl rfl rfl rfl (Nat.le_of_ble_eq_true rfl) oo_X7_readPower (gG_at tsk_2) (sf_readPower7_d10 L ys d s0 hT0 (x1) (by omega) (by omega) (x2) (by omega) (by omega) (by omega) (by omega)) (fun s40 hr => ?_)
  obtain ⟨hT40, hG40, p40_0, p40_1⟩ := hr
  have hF40 := fr_trans hF0 hG40 (by decide)
  have e41 : s40.1 2 1 = z35 := (hG40.1 _ _ tsk_2 1 (by decide)).trans z35e
  obtain ⟨z42, z42e, z42l, z42h⟩ := tI_i tf_2_2 tsk_2 hT40
  obtain ⟨z43, z43e, z43l, z43h⟩ := tI_i tf_2_3 tsk_2 hT40
  obtain ⟨z44, z44e, z44l, z44h⟩ := tI_i tf_2_4 tsk_2 hT40
  refine ir_k (pc' := 7) (v := (0, 0)) rfl rfl rfl (fun _ => rfl) ?_
  refine ir_s (pc' := 8) rfl rfl rfl rfl rfl rfl ?_
  refine ir_w [(0, (2, ((2 : Nat) : Int))), (1, (0, x1)), (2, (0, x2)), (3, (0, 0))] ⟨rfl, rfl, rfl, rfl, trivial⟩ ?_
  exact J8 _ (0) (by omega) (by omega) s40 hT40 hF40 (z35) (by omega) (by omega) e41 (z42) (by omega) (by omega) z42e (z43) (by omega) (by omega) z43e (z44) (by omega) (by omega) z44e (by omega) (by omega) (Int.self_le_toNat _)
theorem sf_readSum7_d10 (L : Nat) (ys : Nat → Int32) (d : Nat) (s0 : im_S) (hT0 : tI s0) (x1 : Int) (x1l : -2147483648 ≤ x1) (x1h : x1 ≤ 2147483647) (x2 : Int) (x2l : 10 ≤ x2) (x2h : x2 ≤ 10) (pr0 : s0.1 2 2 ≤ s0.1 2 1) (pr1 : (s0.1 2 4 ≠ 0 ∨ s0.1 2 3 = 0 ∨ s0.1 2 2 < s0.1 2 1)) : icV gG rm_P L ys (d + 10) 198 [(2, ((2 : Nat) : Int)), (0, x1), (0, x2)] s0 (fun s => tI s ∧ fr [(2, 2), (2, 3), (2, 4), (2, 5), (4, 0)] s0 s ∧ s.1 2 2 ≤ s.1 2 1 ∧ (s.1 2 4 ≠ 0 ∨ s.1 2 3 = 0 ∨ s.1 2 2 < s.1 2 1)) := by
  refine ic_startM (M := rm_p_X7_readSum) om_X7_readSum (Nat.le_of_ble_eq_true rfl) ?_
  refine ir_w [(0, (2, ((2 : Nat) : Int))), (1, (0, x1)), (2, (0, x2))] ⟨rfl, rfl, rfl, trivial⟩ ?_
  have hF0 := fr_refl [(2, 2), (2, 3), (2, 4), (2, 5), (4, 0)] s0
  have J128 : ∀ (s_128 : im_S) (hT_128 : tI s_128) (hF_128 : fr [(2, 2), (2, 3), (2, 4), (2, 5), (4, 0)] s0 s_128) (w128_2_1 : Int) (w128_2_1l : 0 ≤ w128_2_1) (w128_2_1h : w128_2_1 ≤ 400) (w128_2_1e : s_128.1 2 1 = w128_2_1) (w128_2_2 : Int) (w128_2_2l : 0 ≤ w128_2_2) (w128_2_2h : w128_2_2 ≤ 400) (w128_2_2e : s_128.1 2 2 = w128_2_2) (w128_2_3 : Int) (w128_2_3l : 0 ≤ w128_2_3) (w128_2_3h : w128_2_3 ≤ 65535) (w128_2_3e : s_128.1 2 3 = w128_2_3) (w128_2_4 : Int) (w128_2_4l : 0 ≤ w128_2_4) (w128_2_4h : w128_2_4 ≤ 3) (w128_2_4e : s_128.1 2 4 = w128_2_4) (i128_0 : w128_2_2 ≤ w128_2_1) (i128_1 : (w128_2_4 ≠ 0 ∨ w128_2_3 = 0 ∨ w128_2_2 < w128_2_1)), ir gG rm_P L ys (d + 9) rm_p_X7_readSum (128, [], [], s_128) (fun r : im_Re => r.1 = none ∧ (tI r.2 ∧ fr [(2, 2), (2, 3), (2, 4), (2, 5), (4, 0)] s0 r.2 ∧ r.2.1 2 2 ≤ r.2.1 2 1 ∧ (r.2.1 2 4 ≠ 0 ∨ r.2.1 2 3 = 0 ∨ r.2.1 2 2 < r.2.1 2 1))) := by
    intro s_128 hT_128 hF_128 w128_2_1 w128_2_1l w128_2_1h w128_2_1e w128_2_2 w128_2_2l w128_2_2h w128_2_2e w128_2_3 w128_2_3l w128_2_3h w128_2_3e w128_2_4 w128_2_4l w128_2_4h w128_2_4e i128_0 i128_1
    exact ir_vret rfl rfl ⟨rfl, hT_128, hF_128, (by first | omega | (dsimp only; omega)), (by first | omega | (dsimp only; omega))⟩
  have J44 : ∀ n : Nat, ∀ (q44_l4 : Int) (q44_l4l : 0 ≤ q44_l4) (q44_l4h : q44_l4 ≤ 400) (s_44 : im_S) (hT_44 : tI s_44) (hF_44 : fr [(2, 2), (2, 3), (2, 4), (2, 5), (4, 0)] s0 s_44) (w44_2_1 : Int) (w44_2_1l : 0 ≤ w44_2_1) (w44_2_1h : w44_2_1 ≤ 400) (w44_2_1e : s_44.1 2 1 = w44_2_1) (w44_2_2 : Int) (w44_2_2l : 0 ≤ w44_2_2) (w44_2_2h : w44_2_2 ≤ 400) (w44_2_2e : s_44.1 2 2 = w44_2_2) (w44_2_3 : Int) (w44_2_3l : 0 ≤ w44_2_3) (w44_2_3h : w44_2_3 ≤ 65535) (w44_2_3e : s_44.1 2 3 = w44_2_3) (w44_2_4 : Int) (w44_2_4l : 0 ≤ w44_2_4) (w44_2_4h : w44_2_4 ≤ 3) (w44_2_4e : s_44.1 2 4 = w44_2_4) (i44_0 : w44_2_2 ≤ w44_2_1) (i44_1 : (w44_2_4 ≠ 0 ∨ w44_2_3 = 0 ∨ w44_2_2 < w44_2_1)), (400 + 1 - q44_l4) ≤ (n : Int) → ir gG rm_P L ys (d + 9) rm_p_X7_readSum (44, [(0, (2, ((2 : Nat) : Int))), (1, (0, x1)), (2, (0, x2)), (4, (0, q44_l4))], [], s_44) (fun r : im_Re => r.1 = none ∧ (tI r.2 ∧ fr [(2, 2), (2, 3), (2, 4), (2, 5), (4, 0)] s0 r.2 ∧ r.2.1 2 2 ≤ r.2.1 2 1 ∧ (r.2.1 2 4 ≠ 0 ∨ r.2.1 2 3 = 0 ∨ r.2.1 2 2 < r.2.1 2 1))) := by
    intro n
    induction n with
    | zero => intro q44_l4 q44_l4l q44_l4h s_44 hT_44 hF_44 w44_2_1 w44_2_1l w44_2_1h w44_2_1e w44_2_2 w44_2_2l w44_2_2h w44_2_2e w44_2_3 w44_2_3l w44_2_3h w44_2_3e w44_2_4 w44_2_4l w44_2_4h w44_2_4e i44_0 i44_1 hr; exfalso; omega
    | succ n ih44 =>
      intro q44_l4 q44_l4l q44_l4h s_44 hT_44 hF_44 w44_2_1 w44_2_1l w44_2_1h w44_2_1e w44_2_2 w44_2_2l w44_2_2h w44_2_2e w44_2_3 w44_2_3l w44_2_3h w44_2_3e w44_2_4 w44_2_4l w44_2_4h w44_2_4e i44_0 i44_1 hr
      have J90 : ∀ (q90_l5 : Int) (q90_l5l : 0 ≤ q90_l5) (q90_l5h : q90_l5 ≤ 400) (q90_s0 : Int) (q90_s0l : -1 ≤ q90_s0) (q90_s0h : q90_s0 ≤ 1) (f90_4h : q44_l4 ≤ 399) (s_90 : im_S) (hT_90 : tI s_90) (hF_90 : fr [(2, 2), (2, 3), (2, 4), (2, 5), (4, 0)] s0 s_90) (w90_2_1 : Int) (w90_2_1l : 0 ≤ w90_2_1) (w90_2_1h : w90_2_1 ≤ 400) (w90_2_1e : s_90.1 2 1 = w90_2_1) (w90_2_2 : Int) (w90_2_2l : 0 ≤ w90_2_2) (w90_2_2h : w90_2_2 ≤ 400) (w90_2_2e : s_90.1 2 2 = w90_2_2) (w90_2_3 : Int) (w90_2_3l : 43 ≤ w90_2_3) (w90_2_3h : w90_2_3 ≤ 45) (w90_2_3e : s_90.1 2 3 = w90_2_3) (w90_2_4 : Int) (w90_2_4l : 0 ≤ w90_2_4) (w90_2_4h : w90_2_4 ≤ 3) (w90_2_4e : s_90.1 2 4 = w90_2_4) (i90_0 : 1 ≤ w90_2_3) (i90_1 : w90_2_2 ≤ w90_2_1) (i90_2 : (w90_2_4 ≠ 0 ∨ w90_2_3 = 0 ∨ w90_2_2 < w90_2_1)), ir gG rm_P L ys (d + 9) rm_p_X7_readSum (90, [(0, (2, ((2 : Nat) : Int))), (1, (0, x1)), (2, (0, x2)), (4, (0, q44_l4)), (5, (0, q90_l5))], [(0, q90_s0)], s_90) (fun r : im_Re => r.1 = none ∧ (tI r.2 ∧ fr [(2, 2), (2, 3), (2, 4), (2, 5), (4, 0)] s0 r.2 ∧ r.2.1 2 2 ≤ r.2.1 2 1 ∧ (r.2.1 2 4 ≠ 0 ∨ r.2.1 2 3 = 0 ∨ r.2.1 2 2 < r.2.1 2 1))) := by
        intro q90_l5 q90_l5l q90_l5h q90_s0 q90_s0l q90_s0h f90_4h s_90 hT_90 hF_90 w90_2_1 w90_2_1l w90_2_1h w90_2_1e w90_2_2 w90_2_2l w90_2_2h w90_2_2e w90_2_3 w90_2_3l w90_2_3h w90_2_3e w90_2_4 w90_2_4l w90_2_4h w90_2_4e i90_0 i90_1 i90_2
        refine ir_s (pc' := 91) rfl rfl rfl rfl rfl rfl ?_
        refine ir_l (pc' := 92) rfl rfl rfl rfl rfl rfl ?_
        refine ir_cVV (pc' := 95) rfl rfl rfl rfl rfl (Nat.le_of_ble_eq_true rfl) oo_X7_step (gG_at tsk_2) (sf_step7 L ys (d + 3) s_90 hT_90  (by omega) (by omega) (by omega)) (fun s2 hr => ?_)
        obtain ⟨hT2, hG2, p2_0, p2_1⟩ := hr
        have hF2 := fr_trans hF_90 hG2 (by decide)
        have e3 : s2.1 2 1 = w90_2_1 := (hG2.1 _ _ tsk_2 1 (by decide)).trans w90_2_1e
        obtain ⟨z4, z4e, z4l, z4h⟩ := tI_i tf_2_2 tsk_2 hT2
        obtain ⟨z5, z5e, z5l, z5h⟩ := tI_i tf_2_3 tsk_2 hT2
        obtain ⟨z6, z6e, z6l, z6h⟩ := tI_i tf_2_4 tsk_2 hT2
        refine ir_l (pc' := 96) rfl rfl rfl rfl rfl rfl ?_
        refine ir_l (pc' := 97) rfl rfl rfl rfl rfl rfl ?_
        refine ir_k (pc' := 98) (v := (0, 1)) rfl rfl rfl (fun _ => rfl) ?_
        refine ir_iiA (pc' := 99) rfl rfl rfl rfl (fun z7 z7l z7h => ?_)
        refine ir_l (pc' := 100) rfl rfl rfl rfl rfl rfl ?_
        refine ir_cVV (pc' := 103) rfl rfl rfl rfl rfl (Nat.le_of_ble_eq_true rfl) oo_X7_readTerm (gG_at tsk_2) (sf_readTerm7_d10 L ys d s2 hT2 (z7) (by omega) (by omega) (x2) (by omega) (by omega) (by omega) (by omega)) (fun s9 hr => ?_)
        obtain ⟨hT9, hG9, p9_0, p9_1⟩ := hr
        have hF9 := fr_trans hF2 hG9 (by decide)
        have e10 : s9.1 2 1 = w90_2_1 := (hG9.1 _ _ tsk_2 1 (by decide)).trans e3
        obtain ⟨z11, z11e, z11l, z11h⟩ := tI_i tf_2_2 tsk_2 hT9
        obtain ⟨z12, z12e, z12l, z12h⟩ := tI_i tf_2_3 tsk_2 hT9
        obtain ⟨z13, z13e, z13l, z13h⟩ := tI_i tf_2_4 tsk_2 hT9
        refine ir_l (pc' := 104) rfl rfl rfl rfl rfl rfl ?_
        refine ir_l (pc' := 105) rfl rfl rfl rfl rfl rfl ?_
        refine ir_l (pc' := 106) rfl rfl rfl rfl rfl rfl ?_
        refine ir_cVR (pc' := 109) rfl rfl rfl rfl rfl (Nat.le_of_ble_eq_true rfl) oo_X7_slot (gG_at tsk_2) (sf_slot7 L ys (d + 7) s9 hT9 (x1) (by omega) (by omega) ) (fun b14 s15 hr => ?_)
        obtain ⟨hT15, hG15, b14k⟩ := hr
        have hF15 := fr_trans hF9 hG15 (by decide)
        have e16 : s15.1 2 1 = w90_2_1 := (hG15.1 _ _ tsk_2 1 (by decide)).trans e10
        have e17 : s15.1 2 2 = z11 := (hG15.1 _ _ tsk_2 2 (by decide)).trans z11e
        have e18 : s15.1 2 3 = z12 := (hG15.1 _ _ tsk_2 3 (by decide)).trans z12e
        have e19 : s15.1 2 4 = z13 := (hG15.1 _ _ tsk_2 4 (by decide)).trans z13e
        refine ir_l (pc' := 110) rfl rfl rfl rfl rfl rfl ?_
        refine ir_l (pc' := 111) rfl rfl rfl rfl rfl rfl ?_
        refine ir_k (pc' := 112) (v := (0, 1)) rfl rfl rfl (fun _ => rfl) ?_
        refine ir_iiA (pc' := 113) rfl rfl rfl rfl (fun z20 z20l z20h => ?_)
        refine ir_cVR (pc' := 116) rfl rfl rfl rfl rfl (Nat.le_of_ble_eq_true rfl) oo_X7_slot (gG_at tsk_2) (sf_slot7 L ys (d + 7) s15 hT15 (z20) (by omega) (by omega) ) (fun b21 s22 hr => ?_)
        obtain ⟨hT22, hG22, b21k⟩ := hr
        have hF22 := fr_trans hF15 hG22 (by decide)
        have e23 : s22.1 2 1 = w90_2_1 := (hG22.1 _ _ tsk_2 1 (by decide)).trans e16
        have e24 : s22.1 2 2 = z11 := (hG22.1 _ _ tsk_2 2 (by decide)).trans e17
        have e25 : s22.1 2 3 = z12 := (hG22.1 _ _ tsk_2 3 (by decide)).trans e18
        have e26 : s22.1 2 4 = z13 := (hG22.1 _ _ tsk_2 4 (by decide)).trans e19
        refine ir_l (pc' := 117) rfl rfl rfl rfl rfl rfl ?_
        refine ir_l (pc' := 119) rfl rfl rfl rfl rfl rfl ?_
        refine ir_cVV (pc' := 122) rfl rfl rfl rfl rfl (Nat.le_of_ble_eq_true rfl) oo_X7_addTo (gG_at tsk_2) (sf_addTo7 L ys (d + 6) s22 hT22 b14 b14k b21 b21k (q90_s0) (by omega) (by omega) (q90_l5) (by omega) (by omega) (by omega) (by omega)) (fun s28 hr => ?_)
        obtain ⟨hT28, hG28, p28_0, p28_1⟩ := hr
        have hF28 := fr_trans hF22 hG28 (by decide)
        have e29 : s28.1 2 1 = w90_2_1 := (hG28.1 _ _ tsk_2 1 (by decide)).trans e23
        have e30 : s28.1 2 2 = z11 := (hG28.1 _ _ tsk_2 2 (by decide)).trans e24
        obtain ⟨z31, z31e, z31l, z31h⟩ := tI_i tf_2_3 tsk_2 hT28
        obtain ⟨z32, z32e, z32l, z32h⟩ := tI_i tf_2_4 tsk_2 hT28
        refine ir_inc (pc' := 125) rfl rfl rfl rfl rfl (by omega) (by omega) ?_
        refine ir_goto (pc' := 44) rfl rfl ?_
        refine ir_w [(0, (2, ((2 : Nat) : Int))), (1, (0, x1)), (2, (0, x2)), (4, (0, (q44_l4 + 1)))] ⟨rfl, rfl, rfl, rfl, trivial⟩ ?_
        exact ih44 ((q44_l4 + 1)) (by omega) (by omega) s28 hT28 hF28 (w90_2_1) (by omega) (by omega) e29 (z11) (by omega) (by omega) e30 (z31) (by omega) (by omega) z31e (z32) (by omega) (by omega) z32e (by omega) (by omega) (by omega)
      have J70 : ∀ (f70_4h : q44_l4 ≤ 399) (s_70 : im_S) (hT_70 : tI s_70) (hF_70 : fr [(2, 2), (2, 3), (2, 4), (2, 5), (4, 0)] s0 s_70) (w70_2_1 : Int) (w70_2_1l : 0 ≤ w70_2_1) (w70_2_1h : w70_2_1 ≤ 400) (w70_2_1e : s_70.1 2 1 = w70_2_1) (w70_2_2 : Int) (w70_2_2l : 0 ≤ w70_2_2) (w70_2_2h : w70_2_2 ≤ 400) (w70_2_2e : s_70.1 2 2 = w70_2_2) (w70_2_3 : Int) (w70_2_3l : 43 ≤ w70_2_3) (w70_2_3h : w70_2_3 ≤ 45) (w70_2_3e : s_70.1 2 3 = w70_2_3) (w70_2_4 : Int) (w70_2_4l : 0 ≤ w70_2_4) (w70_2_4h : w70_2_4 ≤ 3) (w70_2_4e : s_70.1 2 4 = w70_2_4) (i70_0 : 1 ≤ w70_2_3) (i70_1 : w70_2_2 ≤ w70_2_1) (i70_2 : (w70_2_4 ≠ 0 ∨ w70_2_3 = 0 ∨ w70_2_2 < w70_2_1)), ir gG rm_P L ys (d + 9) rm_p_X7_readSum (70, [(0, (2, ((2 : Nat) : Int))), (1, (0, x1)), (2, (0, x2)), (4, (0, q44_l4))], [], s_70) (fun r : im_Re => r.1 = none ∧ (tI r.2 ∧ fr [(2, 2), (2, 3), (2, 4), (2, 5), (4, 0)] s0 r.2 ∧ r.2.1 2 2 ≤ r.2.1 2 1 ∧ (r.2.1 2 4 ≠ 0 ∨ r.2.1 2 3 = 0 ∨ r.2.1 2 2 < r.2.1 2 1))) := by
        intro f70_4h s_70 hT_70 hF_70 w70_2_1 w70_2_1l w70_2_1h w70_2_1e w70_2_2 w70_2_2l w70_2_2h w70_2_2e w70_2_3 w70_2_3l w70_2_3h w70_2_3e w70_2_4 w70_2_4l w70_2_4h w70_2_4e i70_0 i70_1 i70_2
        refine ir_l (pc' := 71) rfl rfl rfl rfl rfl rfl ?_
        refine ir_getI (pc' := 74) rfl rfl rfl (gG_at tsk_2) rfl (by decide) (by decide) w70_2_2e (by omega) (by omega) ?_
        refine ir_s (pc' := 76) rfl rfl rfl rfl rfl rfl ?_
        refine ir_l (pc' := 77) rfl rfl rfl rfl rfl rfl ?_
        refine ir_getI (pc' := 80) rfl rfl rfl (gG_at tsk_2) rfl (by decide) (by decide) w70_2_3e (by omega) (by omega) ?_
        refine ir_k (pc' := 82) (v := (0, 45)) rfl rfl rfl (fun _ => rfl) ?_
        refine ir_c_ne (pt := 89) (pc' := 85) rfl rfl rfl (fun c33 => ?_) (fun c33 => ?_)
        · refine ir_k (pc' := 90) (v := (0, 1)) rfl rfl rfl (fun _ => rfl) ?_
          refine ir_w [(0, (2, ((2 : Nat) : Int))), (1, (0, x1)), (2, (0, x2)), (4, (0, q44_l4)), (5, (0, w70_2_2))] ⟨rfl, rfl, rfl, rfl, rfl, trivial⟩ ?_
          exact J90 (w70_2_2) (by omega) (by omega) (1) (by omega) (by omega) (by omega) s_70 hT_70 hF_70 (w70_2_1) (by omega) (by omega) w70_2_1e (w70_2_2) (by omega) (by omega) w70_2_2e (w70_2_3) (by omega) (by omega) w70_2_3e (w70_2_4) (by omega) (by omega) w70_2_4e (by omega) (by omega) (by omega)
        · refine ir_k (pc' := 86) (v := (0, (-1))) rfl rfl rfl (fun _ => rfl) ?_
          refine ir_goto (pc' := 90) rfl rfl ?_
          refine ir_w [(0, (2, ((2 : Nat) : Int))), (1, (0, x1)), (2, (0, x2)), (4, (0, q44_l4)), (5, (0, w70_2_2))] ⟨rfl, rfl, rfl, rfl, rfl, trivial⟩ ?_
          exact J90 (w70_2_2) (by omega) (by omega) ((-1)) (by omega) (by omega) (by omega) s_70 hT_70 hF_70 (w70_2_1) (by omega) (by omega) w70_2_1e (w70_2_2) (by omega) (by omega) w70_2_2e (w70_2_3) (by omega) (by omega) w70_2_3e (w70_2_4) (by omega) (by omega) w70_2_4e (by omega) (by omega) (by omega)
      refine ir_l (pc' := 46) rfl rfl rfl rfl rfl rfl ?_
      refine ir_k (pc' := 49) (v := (0, 400)) rfl rfl rfl (fun _ => rfl) ?_
      refine ir_c_ge (pt := 128) (pc' := 52) rfl rfl rfl (fun c34 => ?_) (fun c34 => ?_)
      · refine ir_w [] trivial ?_
        exact J128 s_44 hT_44 hF_44 (w44_2_1) (by omega) (by omega) w44_2_1e (w44_2_2) (by omega) (by omega) w44_2_2e (w44_2_3) (by omega) (by omega) w44_2_3e (w44_2_4) (by omega) (by omega) w44_2_4e (by omega) (by omega)
      · refine ir_l (pc' := 53) rfl rfl rfl rfl rfl rfl ?_
        refine ir_getI (pc' := 56) rfl rfl rfl (gG_at tsk_2) rfl (by decide) (by decide) w44_2_3e (by omega) (by omega) ?_
        refine ir_k (pc' := 58) (v := (0, 43)) rfl rfl rfl (fun _ => rfl) ?_
        refine ir_c_eq (pt := 70) (pc' := 61) rfl rfl rfl (fun c35 => ?_) (fun c35 => ?_)
        · refine ir_w [(0, (2, ((2 : Nat) : Int))), (1, (0, x1)), (2, (0, x2)), (4, (0, q44_l4))] ⟨rfl, rfl, rfl, rfl, trivial⟩ ?_
          exact J70 (by omega) s_44 hT_44 hF_44 (w44_2_1) (by omega) (by omega) w44_2_1e (w44_2_2) (by omega) (by omega) w44_2_2e (w44_2_3) (by omega) (by omega) w44_2_3e (w44_2_4) (by omega) (by omega) w44_2_4e (by omega) (by omega) (by omega)
        · refine ir_l (pc' := 62) rfl rfl rfl rfl rfl rfl ?_
          refine ir_getI (pc' := 65) rfl rfl rfl (gG_at tsk_2) rfl (by decide) (by decide) w44_2_3e (by omega) (by omega) ?_
          refine ir_k (pc' := 67) (v := (0, 45)) rfl rfl rfl (fun _ => rfl) ?_
          refine ir_c_ne (pt := 128) (pc' := 70) rfl rfl rfl (fun c36 => ?_) (fun c36 => ?_)
          · refine ir_w [] trivial ?_
            exact J128 s_44 hT_44 hF_44 (w44_2_1) (by omega) (by omega) w44_2_1e (w44_2_2) (by omega) (by omega) w44_2_2e (w44_2_3) (by omega) (by omega) w44_2_3e (w44_2_4) (by omega) (by omega) w44_2_4e (by omega) (by omega)
          · refine ir_w [(0, (2, ((2 : Nat) : Int))), (1, (0, x1)), (2, (0, x2)), (4, (0, q44_l4))] ⟨rfl, rfl, rfl, rfl, trivial⟩ ?_
            exact J70 (by omega) s_44 hT_44 hF_44 (w44_2_1) (by omega) (by omega) w44_2_1e (w44_2_2) (by omega) (by omega) w44_2_2e (w44_2_3) (by omega) (by omega) w44_2_3e (w44_2_4) (by omega) (by omega) w44_2_4e (by omega) (by omega) (by omega)
  have J41 : ∀ (s_41 : im_S) (hT_41 : tI s_41) (hF_41 : fr [(2, 2), (2, 3), (2, 4), (2, 5), (4, 0)] s0 s_41) (w41_2_1 : Int) (w41_2_1l : 0 ≤ w41_2_1) (w41_2_1h : w41_2_1 ≤ 400) (w41_2_1e : s_41.1 2 1 = w41_2_1) (w41_2_2 : Int) (w41_2_2l : 0 ≤ w41_2_2) (w41_2_2h : w41_2_2 ≤ 400) (w41_2_2e : s_41.1 2 2 = w41_2_2) (w41_2_3 : Int) (w41_2_3l : 0 ≤ w41_2_3) (w41_2_3h : w41_2_3 ≤ 65535) (w41_2_3e : s_41.1 2 3 = w41_2_3) (w41_2_4 : Int) (w41_2_4l : 0 ≤ w41_2_4) (w41_2_4h : w41_2_4 ≤ 3) (w41_2_4e : s_41.1 2 4 = w41_2_4) (i41_0 : w41_2_2 ≤ w41_2_1) (i41_1 : (w41_2_4 ≠ 0 ∨ w41_2_3 = 0 ∨ w41_2_2 < w41_2_1)), ir gG rm_P L ys (d + 9) rm_p_X7_readSum (41, [(0, (2, ((2 : Nat) : Int))), (1, (0, x1)), (2, (0, x2))], [], s_41) (fun r : im_Re => r.1 = none ∧ (tI r.2 ∧ fr [(2, 2), (2, 3), (2, 4), (2, 5), (4, 0)] s0 r.2 ∧ r.2.1 2 2 ≤ r.2.1 2 1 ∧ (r.2.1 2 4 ≠ 0 ∨ r.2.1 2 3 = 0 ∨ r.2.1 2 2 < r.2.1 2 1))) := by
    intro s_41 hT_41 hF_41 w41_2_1 w41_2_1l w41_2_1h w41_2_1e w41_2_2 w41_2_2l w41_2_2h w41_2_2e w41_2_3 w41_2_3l w41_2_3h w41_2_3e w41_2_4 w41_2_4l w41_2_4h w41_2_4e i41_0 i41_1
    refine ir_k (pc' := 42) (v := (0, 0)) rfl rfl rfl (fun _ => rfl) ?_
    refine ir_s (pc' := 44) rfl rfl rfl rfl rfl rfl ?_
    refine ir_w [(0, (2, ((2 : Nat) : Int))), (1, (0, x1)), (2, (0, x2)), (4, (0, 0))] ⟨rfl, rfl, rfl, rfl, trivial⟩ ?_
    exact J44 _ (0) (by omega) (by omega) s_41 hT_41 hF_41 (w41_2_1) (by omega) (by omega) w41_2_1e (w41_2_2) (by omega) (by omega) w41_2_2e (w41_2_3) (by omega) (by omega) w41_2_3e (w41_2_4) (by omega) (by omega) w41_2_4e (by omega) (by omega) (Int.self_le_toNat _)
  have J23 : ∀ (q23_l3 : Int) (q23_l3l : -1 ≤ q23_l3) (q23_l3h : q23_l3 ≤ 1) (s_23 : im_S) (hT_23 : tI s_23) (hF_23 : fr [(2, 2), (2, 3), (2, 4), (2, 5), (4, 0)] s0 s_23) (w23_2_1 : Int) (w23_2_1l : 0 ≤ w23_2_1) (w23_2_1h : w23_2_1 ≤ 400) (w23_2_1e : s_23.1 2 1 = w23_2_1) (w23_2_2 : Int) (w23_2_2l : 0 ≤ w23_2_2) (w23_2_2h : w23_2_2 ≤ 400) (w23_2_2e : s_23.1 2 2 = w23_2_2) (w23_2_3 : Int) (w23_2_3l : 0 ≤ w23_2_3) (w23_2_3h : w23_2_3 ≤ 65535) (w23_2_3e : s_23.1 2 3 = w23_2_3) (w23_2_4 : Int) (w23_2_4l : 0 ≤ w23_2_4) (w23_2_4h : w23_2_4 ≤ 3) (w23_2_4e : s_23.1 2 4 = w23_2_4) (i23_0 : w23_2_2 ≤ w23_2_1) (i23_1 : (w23_2_4 ≠ 0 ∨ w23_2_3 = 0 ∨ w23_2_2 < w23_2_1)), ir gG rm_P L ys (d + 9) rm_p_X7_readSum (23, [(0, (2, ((2 : Nat) : Int))), (1, (0, x1)), (2, (0, x2)), (3, (0, q23_l3))], [], s_23) (fun r : im_Re => r.1 = none ∧ (tI r.2 ∧ fr [(2, 2), (2, 3), (2, 4), (2, 5), (4, 0)] s0 r.2 ∧ r.2.1 2 2 ≤ r.2.1 2 1 ∧ (r.2.1 2 4 ≠ 0 ∨ r.2.1 2 3 = 0 ∨ r.2.1 2 2 < r.2.1 2 1))) := by
    intro q23_l3 q23_l3l q23_l3h s_23 hT_23 hF_23 w23_2_1 w23_2_1l w23_2_1h w23_2_1e w23_2_2 w23_2_2l w23_2_2h w23_2_2e w23_2_3 w23_2_3l w23_2_3h w23_2_3e w23_2_4 w23_2_4l w23_2_4h w23_2_4e i23_0 i23_1
    refine ir_l (pc' := 24) rfl rfl rfl rfl rfl rfl ?_
    refine ir_l (pc' := 25) rfl rfl rfl rfl rfl rfl ?_
    refine ir_l (pc' := 26) rfl rfl rfl rfl rfl rfl ?_
    refine ir_cVV (pc' := 29) rfl rfl rfl rfl rfl (Nat.le_of_ble_eq_true rfl) oo_X7_readTerm (gG_at tsk_2) (sf_readTerm7_d10 L ys d s_23 hT_23 (x1) (by omega) (by omega) (x2) (by omega) (by omega) (by omega) (by omega)) (fun s38 hr => ?_)
    obtain ⟨hT38, hG38, p38_0, p38_1⟩ := hr
    have hF38 := fr_trans hF_23 hG38 (by decide)
    have e39 : s38.1 2 1 = w23_2_1 := (hG38.1 _ _ tsk_2 1 (by decide)).trans w23_2_1e
    obtain ⟨z40, z40e, z40l, z40h⟩ := tI_i tf_2_2 tsk_2 hT38
    obtain ⟨z41, z41e, z41l, z41h⟩ := tI_i tf_2_3 tsk_2 hT38
    obtain ⟨z42, z42e, z42l, z42h⟩ := tI_i tf_2_4 tsk_2 hT38
    refine ir_l (pc' := 30) rfl rfl rfl rfl rfl rfl ?_
    refine ir_z_ge (pt := 41) (pc' := 33) rfl rfl rfl (fun c43 => ?_) (fun c43 => ?_)
    · refine ir_w [(0, (2, ((2 : Nat) : Int))), (1, (0, x1)), (2, (0, x2))] ⟨rfl, rfl, rfl, trivial⟩ ?_
      exact J41 s38 hT38 hF38 (w23_2_1) (by omega) (by omega) e39 (z40) (by omega) (by omega) z40e (z41) (by omega) (by omega) z41e (z42) (by omega) (by omega) z42e (by omega) (by omega)
    · refine ir_l (pc' := 34) rfl rfl rfl rfl rfl rfl ?_
      refine ir_l (pc' := 35) rfl rfl rfl rfl rfl rfl ?_
      refine ir_cVR (pc' := 38) rfl rfl rfl rfl rfl (Nat.le_of_ble_eq_true rfl) oo_X7_slot (gG_at tsk_2) (sf_slot7 L ys (d + 7) s38 hT38 (x1) (by omega) (by omega) ) (fun b44 s45 hr => ?_)
      obtain ⟨hT45, hG45, b44k⟩ := hr
      have hF45 := fr_trans hF38 hG45 (by decide)
      have e46 : s45.1 2 1 = w23_2_1 := (hG45.1 _ _ tsk_2 1 (by decide)).trans e39
      have e47 : s45.1 2 2 = z40 := (hG45.1 _ _ tsk_2 2 (by decide)).trans z40e
      have e48 : s45.1 2 3 = z41 := (hG45.1 _ _ tsk_2 3 (by decide)).trans z41e
      have e49 : s45.1 2 4 = z42 := (hG45.1 _ _ tsk_2 4 (by decide)).trans z42e
      refine ir_cSV (pc' := 41) rfl rfl rfl rfl rfl rfl (Nat.le_of_ble_eq_true rfl) (sf_negate7 L ys (d + 8) s45 hT45 b44 b44k ) (fun s51 hr => ?_)
      obtain ⟨hT51, hG51⟩ := hr
      have hF51 := fr_trans hF45 hG51 (by decide)
      have e52 : s51.1 2 1 = w23_2_1 := (hG51.1 _ _ tsk_2 1 (by decide)).trans e46
      have e53 : s51.1 2 2 = z40 := (hG51.1 _ _ tsk_2 2 (by decide)).trans e47
      have e54 : s51.1 2 3 = z41 := (hG51.1 _ _ tsk_2 3 (by decide)).trans e48
      have e55 : s51.1 2 4 = z42 := (hG51.1 _ _ tsk_2 4 (by decide)).trans e49
      refine ir_w [(0, (2, ((2 : Nat) : Int))), (1, (0, x1)), (2, (0, x2))] ⟨rfl, rfl, rfl, trivial⟩ ?_
      exact J41 s51 hT51 hF51 (w23_2_1) (by omega) (by omega) e52 (z40) (by omega) (by omega) e53 (z41) (by omega) (by omega) e54 (z42) (by omega) (by omega) e55 (by omega) (by omega)
  have J14 : ∀ (q14_s0 : Int) (q14_s0l : -1 ≤ q14_s0) (q14_s0h : q14_s0 ≤ 1) (s_14 : im_S) (hT_14 : tI s_14) (hF_14 : fr [(2, 2), (2, 3), (2, 4), (2, 5), (4, 0)] s0 s_14) (w14_2_1 : Int) (w14_2_1l : 0 ≤ w14_2_1) (w14_2_1h : w14_2_1 ≤ 400) (w14_2_1e : s_14.1 2 1 = w14_2_1) (w14_2_2 : Int) (w14_2_2l : 0 ≤ w14_2_2) (w14_2_2h : w14_2_2 ≤ 400) (w14_2_2e : s_14.1 2 2 = w14_2_2) (w14_2_3 : Int) (w14_2_3l : 0 ≤ w14_2_3) (w14_2_3h : w14_2_3 ≤ 65535) (w14_2_3e : s_14.1 2 3 = w14_2_3) (w14_2_4 : Int) (w14_2_4l : 0 ≤ w14_2_4) (w14_2_4h : w14_2_4 ≤ 3) (w14_2_4e : s_14.1 2 4 = w14_2_4) (i14_0 : (q14_s0 = 1 ∨ w14_2_3 = 45)) (i14_1 : w14_2_2 ≤ w14_2_1) (i14_2 : (w14_2_4 ≠ 0 ∨ w14_2_3 = 0 ∨ w14_2_2 < w14_2_1)), ir gG rm_P L ys (d + 9) rm_p_X7_readSum (14, [(0, (2, ((2 : Nat) : Int))), (1, (0, x1)), (2, (0, x2))], [(0, q14_s0)], s_14) (fun r : im_Re => r.1 = none ∧ (tI r.2 ∧ fr [(2, 2), (2, 3), (2, 4), (2, 5), (4, 0)] s0 r.2 ∧ r.2.1 2 2 ≤ r.2.1 2 1 ∧ (r.2.1 2 4 ≠ 0 ∨ r.2.1 2 3 = 0 ∨ r.2.1 2 2 < r.2.1 2 1))) := by
    intro q14_s0 q14_s0l q14_s0h s_14 hT_14 hF_14 w14_2_1 w14_2_1l w14_2_1h w14_2_1e w14_2_2 w14_2_2l w14_2_2h w14_2_2e w14_2_3 w14_2_3l w14_2_3h w14_2_3e w14_2_4 w14_2_4l w14_2_4h w14_2_4e i14_0 i14_1 i14_2
    refine ir_s (pc' := 15) rfl rfl rfl rfl rfl rfl ?_
    refine ir_l (pc' := 16) rfl rfl rfl rfl rfl rfl ?_
    refine ir_z_ge (pt := 23) (pc' := 19) rfl rfl rfl (fun c56 => ?_) (fun c56 => ?_)
    · refine ir_w [(0, (2, ((2 : Nat) : Int))), (1, (0, x1)), (2, (0, x2)), (3, (0, q14_s0))] ⟨rfl, rfl, rfl, rfl, trivial⟩ ?_
      exact J23 (q14_s0) (by omega) (by omega) s_14 hT_14 hF_14 (w14_2_1) (by omega) (by omega) w14_2_1e (w14_2_2) (by omega) (by omega) w14_2_2e (w14_2_3) (by omega) (by omega) w14_2_3e (w14_2_4) (by omega) (by omega) w14_2_4e (by omega) (by omega)
    · refine ir_l (pc' := 20) rfl rfl rfl rfl rfl rfl ?_
      refine ir_cVV (pc' := 23) rfl rfl rfl rfl rfl (Nat.le_of_ble_eq_true rfl) oo_X7_step (gG_at tsk_2) (sf_step7 L ys (d + 3) s_14 hT_14  (by omega) (by omega) (by omega)) (fun s58 hr => ?_)
      obtain ⟨hT58, hG58, p58_0, p58_1⟩ := hr
      have hF58 := fr_trans hF_14 hG58 (by decide)
      have e59 : s58.1 2 1 = w14_2_1 := (hG58.1 _ _ tsk_2 1 (by decide)).trans w14_2_1e
      obtain ⟨z60, z60e, z60l, z60h⟩ := tI_i tf_2_2 tsk_2 hT58
      obtain ⟨z61, z61e, z61l, z61h⟩ := tI_i tf_2_3 tsk_2 hT58
      obtain ⟨z62, z62e, z62l, z62h⟩ := tI_i tf_2_4 tsk_2 hT58
      refine ir_w [(0, (2, ((2 : Nat) : Int))), (1, (0, x1)), (2, (0, x2)), (3, (0, q14_s0))] ⟨rfl, rfl, rfl, rfl, trivial⟩ ?_
      exact J23 (q14_s0) (by omega) (by omega) s58 hT58 hF58 (w14_2_1) (by omega) (by omega) e59 (z60) (by omega) (by omega) z60e (z61) (by omega) (by omega) z61e (z62) (by omega) (by omega) z62e (by omega) (by omega)
  obtain ⟨z63, z63e, z63l, z63h⟩ := tI_i tf_2_1 tsk_2 hT0
  obtain ⟨z64, z64e, z64l, z64h⟩ := tI_i tf_2_2 tsk_2 hT0
  obtain ⟨z65, z65e, z65l, z65h⟩ := tI_i tf_2_3 tsk_2 hT0
  obtain ⟨z66, z66e, z66l, z66h⟩ := tI_i tf_2_4 tsk_2 hT0
  refine ir_l (pc' := 1) rfl rfl rfl rfl rfl rfl ?_
  refine ir_getI (pc' := 4) rfl rfl rfl (gG_at tsk_2) rfl (by decide) (by decide) z65e (by omega) (by omega) ?_
  refine ir_k (pc' := 6) (v := (0, 45)) rfl rfl rfl (fun _ => rfl) ?_
  refine ir_c_ne (pt := 13) (pc' := 9) rfl rfl rfl (fun c67 => ?_) (fun c67 => ?_)
  · refine ir_k (pc' := 14) (v := (0, 1)) rfl rfl rfl (fun _ => rfl) ?_
    refine ir_w [(0, (2, ((2 : Nat) : Int))), (1, (0, x1)), (2, (0, x2))] ⟨rfl, rfl, rfl, trivial⟩ ?_
    exact J14 (1) (by omega) (by omega) s0 hT0 hF0 (z63) (by omega) (by omega) z63e (z64) (by omega) (by omega) z64e (z65) (by omega) (by omega) z65e (z66) (by omega) (by omega) z66e (by omega) (by omega) (by omega)
  · refine ir_k (pc' := 10) (v := (0, (-1))) rfl rfl rfl (fun _ => rfl) ?_
    refine ir_goto (pc' := 14) rfl rfl ?_
    refine ir_w [(0, (2, ((2 : Nat) : Int))), (1, (0, x1)), (2, (0, x2))] ⟨rfl, rfl, rfl, trivial⟩ ?_
    exact J14 ((-1)) (by omega) (by omega) s0 hT0 hF0 (z63) (by omega) (by omega) z63e (z64) (by omega) (by omega) z64e (z65) (by omega) (by omega) z65e (z66) (by omega) (by omega) z66e (by omega) (by omega) (by omega)
theorem sf_readBase7_d9 (L : Nat) (ys : Nat → Int32) (d : Nat) (s0 : im_S) (hT0 : tI s0) (x1 : Int) (x1l : -2147483648 ≤ x1) (x1h : x1 ≤ 2147483647) (x2 : Int) (x2l : 9 ≤ x2) (x2h : x2 ≤ 9) (pr0 : s0.1 2 2 ≤ s0.1 2 1) (pr1 : (s0.1 2 4 ≠ 0 ∨ s0.1 2 3 = 0 ∨ s0.1 2 2 < s0.1 2 1)) : icV gG rm_P L ys (d + 11) 194 [(2, ((2 : Nat) : Int)), (0, x1), (0, x2)] s0 (fun s => tI s ∧ fr [(2, 2), (2, 3), (2, 4), (2, 5), (4, 0)] s0 s ∧ s.1 2 2 ≤ s.1 2 1 ∧ (s.1 2 4 ≠ 0 ∨ s.1 2 3 = 0 ∨ s.1 2 2 < s.1 2 1)) := by
  refine ic_startM (M := rm_p_X7_readBase) om_X7_readBase (Nat.le_of_ble_eq_true rfl) ?_
  refine ir_w [(0, (2, ((2 : Nat) : Int))), (1, (0, x1)), (2, (0, x2))] ⟨rfl, rfl, rfl, trivial⟩ ?_
  have hF0 := fr_refl [(2, 2), (2, 3), (2, 4), (2, 5), (4, 0)] s0
  have J87 : ∀ (s_87 : im_S) (hT_87 : tI s_87) (hF_87 : fr [(2, 2), (2, 3), (2, 4), (2, 5), (4, 0)] s0 s_87) (w87_2_1 : Int) (w87_2_1l : 0 ≤ w87_2_1) (w87_2_1h : w87_2_1 ≤ 400) (w87_2_1e : s_87.1 2 1 = w87_2_1) (w87_2_2 : Int) (w87_2_2l : 0 ≤ w87_2_2) (w87_2_2h : w87_2_2 ≤ 400) (w87_2_2e : s_87.1 2 2 = w87_2_2) (w87_2_3 : Int) (w87_2_3l : 0 ≤ w87_2_3) (w87_2_3h : w87_2_3 ≤ 65535) (w87_2_3e : s_87.1 2 3 = w87_2_3) (w87_2_4 : Int) (w87_2_4l : 0 ≤ w87_2_4) (w87_2_4h : w87_2_4 ≤ 3) (w87_2_4e : s_87.1 2 4 = w87_2_4) (i87_0 : w87_2_2 ≤ w87_2_1) (i87_1 : (w87_2_4 ≠ 0 ∨ w87_2_3 = 0 ∨ w87_2_2 < w87_2_1)), ir gG rm_P L ys (d + 10) rm_p_X7_readBase (87, [], [], s_87) (fun r : im_Re => r.1 = none ∧ (tI r.2 ∧ fr [(2, 2), (2, 3), (2, 4), (2, 5), (4, 0)] s0 r.2 ∧ r.2.1 2 2 ≤ r.2.1 2 1 ∧ (r.2.1 2 4 ≠ 0 ∨ r.2.1 2 3 = 0 ∨ r.2.1 2 2 < r.2.1 2 1))) := by
    intro s_87 hT_87 hF_87 w87_2_1 w87_2_1l w87_2_1h w87_2_1e w87_2_2 w87_2_2l w87_2_2h w87_2_2e w87_2_3 w87_2_3l w87_2_3h w87_2_3e w87_2_4 w87_2_4l w87_2_4h w87_2_4e i87_0 i87_1
    exact ir_vret rfl rfl ⟨rfl, hT_87, hF_87, (by first | omega | (dsimp only; omega)), (by first | omega | (dsimp only; omega))⟩
  obtain ⟨z1, z1e, z1l, z1h⟩ := tI_i tf_2_1 tsk_2 hT0
  obtain ⟨z2, z2e, z2l, z2h⟩ := tI_i tf_2_2 tsk_2 hT0
  obtain ⟨z3, z3e, z3l, z3h⟩ := tI_i tf_2_3 tsk_2 hT0
  obtain ⟨z4, z4e, z4l, z4h⟩ := tI_i tf_2_4 tsk_2 hT0
  refine ir_l (pc' := 1) rfl rfl rfl rfl rfl rfl ?_
  refine ir_getI (pc' := 4) rfl rfl rfl (gG_at tsk_2) rfl (by decide) (by decide) z3e (by omega) (by omega) ?_
  refine ir_k (pc' := 6) (v := (0, 120)) rfl rfl rfl (fun _ => rfl) ?_
  refine ir_c_ne (pt := 26) (pc' := 9) rfl rfl rfl (fun c5 => ?_) (fun c5 => ?_)
  · refine ir_l (pc' := 27) rfl rfl rfl rfl rfl rfl ?_
    refine ir_getI (pc' := 30) rfl rfl rfl (gG_at tsk_2) rfl (by decide) (by decide) z3e (by omega) (by omega) ?_
    refine ir_k (pc' := 32) (v := (0, 40)) rfl rfl rfl (fun _ => rfl) ?_
    refine ir_c_eq (pt := 51) (pc' := 35) rfl rfl rfl (fun c6 => ?_) (fun c6 => ?_)
    · refine ir_l (pc' := 52) rfl rfl rfl rfl rfl rfl ?_
      refine ir_k (pc' := 54) (v := (0, 10)) rfl rfl rfl (fun _ => rfl) ?_
      refine ir_c_lt (pt := 69) (pc' := 57) rfl rfl rfl (fun c7 => ?_) (fun c7 => ?_)
      · refine ir_l (pc' := 70) rfl rfl rfl rfl rfl rfl ?_
        refine ir_cVV (pc' := 73) rfl rfl rfl rfl rfl (Nat.le_of_ble_eq_true rfl) oo_X7_step (gG_at tsk_2) (sf_step7 L ys (d + 4) s0 hT0  (by omega) (by omega) (by omega)) (fun s9 hr => ?_)
        obtain ⟨hT9, hG9, p9_0, p9_1⟩ := hr
        have hF9 := fr_trans hF0 hG9 (by decide)
        have e10 : s9.1 2 1 = z1 := (hG9.1 _ _ tsk_2 1 (by decide)).trans z1e
        obtain ⟨z11, z11e, z11l, z11h⟩ := tI_i tf_2_2 tsk_2 hT9
        obtain ⟨z12, z12e, z12l, z12h⟩ := tI_i tf_2_3 tsk_2 hT9
        obtain ⟨z13, z13e, z13l, z13h⟩ := tI_i tf_2_4 tsk_2 hT9
        refine ir_l (pc' := 74) rfl rfl rfl rfl rfl rfl ?_
        refine ir_l (pc' := 75) rfl rfl rfl rfl rfl rfl ?_
        refine ir_l (pc' := 76) rfl rfl rfl rfl rfl rfl ?_
        refine ir_k (pc' := 77) (v := (0, 1)) rfl rfl rfl (fun _ => rfl) ?_
        refine ir_add (pc' := 78) rfl rfl (by omega) (by omega) ?_
        refine ir_cVV (pc' := 81) rfl rfl rfl rfl rfl (Nat.le_of_ble_eq_true rfl) oo_X7_readSum (gG_at tsk_2) (sf_readSum7_d10 L ys d s9 hT9 (x1) (by omega) (by omega) ((x2 + 1)) (by omega) (by omega) (by omega) (by omega)) (fun s15 hr => ?_)
        obtain ⟨hT15, hG15, p15_0, p15_1⟩ := hr
        have hF15 := fr_trans hF9 hG15 (by decide)
        have e16 : s15.1 2 1 = z1 := (hG15.1 _ _ tsk_2 1 (by decide)).trans e10
        obtain ⟨z17, z17e, z17l, z17h⟩ := tI_i tf_2_2 tsk_2 hT15
        obtain ⟨z18, z18e, z18l, z18h⟩ := tI_i tf_2_3 tsk_2 hT15
        obtain ⟨z19, z19e, z19l, z19h⟩ := tI_i tf_2_4 tsk_2 hT15
        refine ir_l (pc' := 82) rfl rfl rfl rfl rfl rfl ?_
        refine ir_k (pc' := 84) (v := (0, 41)) rfl rfl rfl (fun _ => rfl) ?_
        refine ir_cVV (pc' := 87) rfl rfl rfl rfl rfl (Nat.le_of_ble_eq_true rfl) oo_X7_expect (gG_at tsk_2) (sf_expect7 L ys (d + 3) s15 hT15 (41) (by omega) (by omega) (by omega) (by omega)) (fun s21 hr => ?_)
        obtain ⟨hT21, hG21, p21_0, p21_1⟩ := hr
        have hF21 := fr_trans hF15 hG21 (by decide)
        have e22 : s21.1 2 1 = z1 := (hG21.1 _ _ tsk_2 1 (by decide)).trans e16
        obtain ⟨z23, z23e, z23l, z23h⟩ := tI_i tf_2_2 tsk_2 hT21
        obtain ⟨z24, z24e, z24l, z24h⟩ := tI_i tf_2_3 tsk_2 hT21
        obtain ⟨z25, z25e, z25l, z25h⟩ := tI_i tf_2_4 tsk_2 hT21
        refine ir_w [] trivial ?_
        exact J87 s21 hT21 hF21 (z1) (by omega) (by omega) e22 (z23) (by omega) (by omega) z23e (z24) (by omega) (by omega) z24e (z25) (by omega) (by omega) z25e (by omega) (by omega)
      · exfalso; omega
    · refine ir_l (pc' := 36) rfl rfl rfl rfl rfl rfl ?_
      refine ir_l (pc' := 37) rfl rfl rfl rfl rfl rfl ?_
      refine ir_cVR (pc' := 40) rfl rfl rfl rfl rfl (Nat.le_of_ble_eq_true rfl) oo_X7_slot (gG_at tsk_2) (sf_slot7 L ys (d + 8) s0 hT0 (x1) (by omega) (by omega) ) (fun b26 s27 hr => ?_)
      obtain ⟨hT27, hG27, b26k⟩ := hr
      have hF27 := fr_trans hF0 hG27 (by decide)
      have e28 : s27.1 2 1 = z1 := (hG27.1 _ _ tsk_2 1 (by decide)).trans z1e
      have e29 : s27.1 2 2 = z2 := (hG27.1 _ _ tsk_2 2 (by decide)).trans z2e
      have e30 : s27.1 2 3 = z3 := (hG27.1 _ _ tsk_2 3 (by decide)).trans z3e
      have e31 : s27.1 2 4 = z4 := (hG27.1 _ _ tsk_2 4 (by decide)).trans z4e
      refine ir_l (pc' := 41) rfl rfl rfl rfl rfl rfl ?_
      refine ir_cVI (pc' := 44) rfl rfl rfl rfl rfl (Nat.le_of_ble_eq_true rfl) oo_X7_readNumber (gG_at tsk_2) (sf_readNumber7 L ys (d + 4) s27 hT27  (by omega) (by omega)) (fun z32 s33 hr => ?_)
      obtain ⟨hT33, hG33, z32l, z32h, p33_0, p33_1⟩ := hr
      have hF33 := fr_trans hF27 hG33 (by decide)
      have e34 : s33.1 2 1 = z1 := (hG33.1 _ _ tsk_2 1 (by decide)).trans e28
      obtain ⟨z35, z35e, z35l, z35h⟩ := tI_i tf_2_2 tsk_2 hT33
      obtain ⟨z36, z36e, z36l, z36h⟩ := tI_i tf_2_3 tsk_2 hT33
      obtain ⟨z37, z37e, z37l, z37h⟩ := tI_i tf_2_4 tsk_2 hT33
      refine ir_i2l (pc' := 45) rfl rfl (by omega) (by omega) ?_
      refine ir_cVV (pc' := 48) rfl rfl rfl rfl rfl (Nat.le_of_ble_eq_true rfl) oo_X6_setConstant (gG_at b26k) (sf_setConstant6 L ys (d + 9) s33 hT33 b26 b26k (z32) (by omega) (by omega) ) (fun s39 hr => ?_)
      obtain ⟨hT39, hG39⟩ := hr
      have hF39 := fr_trans hF33 hG39 (by decide)
      have e40 : s39.1 2 1 = z1 := (hG39.1 _ _ tsk_2 1 (by decide)).trans e34
      have e41 : s39.1 2 2 = z35 := (hG39.1 _ _ tsk_2 2 (by decide)).trans z35e
      have e42 : s39.1 2 3 = z36 := (hG39.1 _ _ tsk_2 3 (by decide)).trans z36e
      have e43 : s39.1 2 4 = z37 := (hG39.1 _ _ tsk_2 4 (by decide)).trans z37e
      refine ir_goto (pc' := 87) rfl rfl ?_
      refine ir_w [] trivial ?_
      exact J87 s39 hT39 hF39 (z1) (by omega) (by omega) e40 (z35) (by omega) (by omega) e41 (z36) (by omega) (by omega) e42 (z37) (by omega) (by omega) e43 (by omega) (by omega)
  · refine ir_l (pc' := 10) rfl rfl rfl rfl rfl rfl ?_
    refine ir_l (pc' := 11) rfl rfl rfl rfl rfl rfl ?_
    refine ir_cVR (pc' := 14) rfl rfl rfl rfl rfl (Nat.le_of_ble_eq_true rfl) oo_X7_slot (gG_at tsk_2) (sf_slot7 L ys (d + 8) s0 hT0 (x1) (by omega) (by omega) ) (fun b44 s45 hr => ?_)
    obtain ⟨hT45, hG45, b44k⟩ := hr
    have hF45 := fr_trans hF0 hG45 (by decide)
    have e46 : s45.1 2 1 = z1 := (hG45.1 _ _ tsk_2 1 (by decide)).trans z1e
    have e47 : s45.1 2 2 = z2 := (hG45.1 _ _ tsk_2 2 (by decide)).trans z2e
    have e48 : s45.1 2 3 = z3 := (hG45.1 _ _ tsk_2 3 (by decide)).trans z3e
    have e49 : s45.1 2 4 = z4 := (hG45.1 _ _ tsk_2 4 (by decide)).trans z4e
    refine ir_k (pc' := 15) (v := (1, 1)) rfl rfl rfl (fun _ => rfl) ?_
    refine ir_k (pc' := 16) (v := (1, 0)) rfl rfl rfl (fun _ => rfl) ?_
    refine ir_cVV (pc' := 19) rfl rfl rfl rfl rfl (Nat.le_of_ble_eq_true rfl) oo_X6_setLinear (gG_at b44k) (sf_setLinear6 L ys (d + 8) s45 hT45 b44 b44k (1) (by omega) (by omega) (0) (by omega) (by omega) ) (fun s51 hr => ?_)
    obtain ⟨hT51, hG51⟩ := hr
    have hF51 := fr_trans hF45 hG51 (by decide)
    have e52 : s51.1 2 1 = z1 := (hG51.1 _ _ tsk_2 1 (by decide)).trans e46
    have e53 : s51.1 2 2 = z2 := (hG51.1 _ _ tsk_2 2 (by decide)).trans e47
    have e54 : s51.1 2 3 = z3 := (hG51.1 _ _ tsk_2 3 (by decide)).trans e48
    have e55 : s51.1 2 4 = z4 := (hG51.1 _ _ tsk_2 4 (by decide)).trans e49
    refine ir_l (pc' := 20) rfl rfl rfl rfl rfl rfl ?_
    refine ir_cVV (pc' := 23) rfl rfl rfl rfl rfl (Nat.le_of_ble_eq_true rfl) oo_X7_step (gG_at tsk_2) (sf_step7 L ys (d + 4) s51 hT51  (by omega) (by omega) (by omega)) (fun s57 hr => ?_)
    obtain ⟨hT57, hG57, p57_0, p57_1⟩ := hr
    have hF57 := fr_trans hF51 hG57 (by decide)
    have e58 : s57.1 2 1 = z1 := (hG57.1 _ _ tsk_2 1 (by decide)).trans e52
    obtain ⟨z59, z59e, z59l, z59h⟩ := tI_i tf_2_2 tsk_2 hT57
    obtain ⟨z60, z60e, z60l, z60h⟩ := tI_i tf_2_3 tsk_2 hT57
    obtain ⟨z61, z61e, z61l, z61h⟩ := tI_i tf_2_4 tsk_2 hT57
    refine ir_goto (pc' := 87) rfl rfl ?_
    refine ir_w [] trivial ?_
    exact J87 s57 hT57 hF57 (z1) (by omega) (by omega) e58 (z59) (by omega) (by omega) z59e (z60) (by omega) (by omega) z60e (z61) (by omega) (by omega) z61e (by omega) (by omega)
theorem sf_readPower7_d9 (L : Nat) (ys : Nat → Int32) (d : Nat) (s0 : im_S) (hT0 : tI s0) (x1 : Int) (x1l : -2147483648 ≤ x1) (x1h : x1 ≤ 2147483647) (x2 : Int) (x2l : 9 ≤ x2) (x2h : x2 ≤ 9) (pr0 : s0.1 2 2 ≤ s0.1 2 1) (pr1 : (s0.1 2 4 ≠ 0 ∨ s0.1 2 3 = 0 ∨ s0.1 2 2 < s0.1 2 1)) : icV gG rm_P L ys (d + 12) 197 [(2, ((2 : Nat) : Int)), (0, x1), (0, x2)] s0 (fun s => tI s ∧ fr [(2, 2), (2, 3), (2, 4), (2, 5), (4, 0)] s0 s ∧ s.1 2 2 ≤ s.1 2 1 ∧ (s.1 2 4 ≠ 0 ∨ s.1 2 3 = 0 ∨ s.1 2 2 < s.1 2 1)) := by
  refine ic_startM (M := rm_p_X7_readPower) om_X7_readPower (Nat.le_of_ble_eq_true rfl) ?_
  refine ir_w [(0, (2, ((2 : Nat) : Int))), (1, (0, x1)), (2, (0, x2))] ⟨rfl, rfl, rfl, trivial⟩ ?_
  have hF0 := fr_refl [(2, 2), (2, 3), (2, 4), (2, 5), (4, 0)] s0
  have J42 : ∀ (s_42 : im_S) (hT_42 : tI s_42) (hF_42 : fr [(2, 2), (2, 3), (2, 4), (2, 5), (4, 0)] s0 s_42) (w42_2_1 : Int) (w42_2_1l : 0 ≤ w42_2_1) (w42_2_1h : w42_2_1 ≤ 400) (w42_2_1e : s_42.1 2 1 = w42_2_1) (w42_2_2 : Int) (w42_2_2l : 0 ≤ w42_2_2) (w42_2_2h : w42_2_2 ≤ 400) (w42_2_2e : s_42.1 2 2 = w42_2_2) (w42_2_3 : Int) (w42_2_3l : 0 ≤ w42_2_3) (w42_2_3h : w42_2_3 ≤ 65535) (w42_2_3e : s_42.1 2 3 = w42_2_3) (w42_2_4 : Int) (w42_2_4l : 0 ≤ w42_2_4) (w42_2_4h : w42_2_4 ≤ 3) (w42_2_4e : s_42.1 2 4 = w42_2_4) (i42_0 : w42_2_2 ≤ w42_2_1) (i42_1 : (w42_2_4 ≠ 0 ∨ w42_2_3 = 0 ∨ w42_2_2 < w42_2_1)), ir gG rm_P L ys (d + 11) rm_p_X7_readPower (42, [], [], s_42) (fun r : im_Re => r.1 = none ∧ (tI r.2 ∧ fr [(2, 2), (2, 3), (2, 4), (2, 5), (4, 0)] s0 r.2 ∧ r.2.1 2 2 ≤ r.2.1 2 1 ∧ (r.2.1 2 4 ≠ 0 ∨ r.2.1 2 3 = 0 ∨ r.2.1 2 2 < r.2.1 2 1))) := by
    intro s_42 hT_42 hF_42 w42_2_1 w42_2_1l w42_2_1h w42_2_1e w42_2_2 w42_2_2l w42_2_2h w42_2_2e w42_2_3 w42_2_3l w42_2_3h w42_2_3e w42_2_4 w42_2_4l w42_2_4h w42_2_4e i42_0 i42_1
    exact ir_vret rfl rfl ⟨rfl, hT_42, hF_42, (by first | omega | (dsimp only; omega)), (by first | omega | (dsimp only; omega))⟩
  obtain ⟨z1, z1e, z1l, z1h⟩ := tI_i tf_2_1 tsk_2 hT0
  obtain ⟨z2, z2e, z2l, z2h⟩ := tI_i tf_2_2 tsk_2 hT0
  obtain ⟨z3, z3e, z3l, z3h⟩ := tI_i tf_2_3 tsk_2 hT0
  obtain ⟨z4, z4e, z4l, z4h⟩ := tI_i tf_2_4 tsk_2 hT0
  refine ir_l (pc' := 1) rfl rfl rfl rfl rfl rfl ?_
  refine ir_l (pc' := 2) rfl rfl rfl rfl rfl rfl ?_
  refine ir_l (pc' := 3) rfl rfl rfl rfl rfl rfl ?_
  refine ir_cVV (pc' := 6) rfl rfl rfl rfl rfl (Nat.le_of_ble_eq_true rfl) oo_X7_readBase (gG_at tsk_2) (sf_readBase7_d9 L ys d s0 hT0 (x1) (by omega) (by omega) (x2) (by omega) (by omega) (by omega) (by omega)) (fun s6 hr => ?_)
  obtain ⟨hT6, hG6, p6_0, p6_1⟩ := hr
  have hF6 := fr_trans hF0 hG6 (by decide)
  have e7 : s6.1 2 1 = z1 := (hG6.1 _ _ tsk_2 1 (by decide)).trans z1e
  obtain ⟨z8, z8e, z8l, z8h⟩ := tI_i tf_2_2 tsk_2 hT6
  obtain ⟨z9, z9e, z9l, z9h⟩ := tI_i tf_2_3 tsk_2 hT6
  obtain ⟨z10, z10e, z10l, z10h⟩ := tI_i tf_2_4 tsk_2 hT6
  refine ir_l (pc' := 7) rfl rfl rfl rfl rfl rfl ?_
  refine ir_getI (pc' := 10) rfl rfl rfl (gG_at tsk_2) rfl (by decide) (by decide) z9e (by omega) (by omega) ?_
  refine ir_k (pc' := 12) (v := (0, 94)) rfl rfl rfl (fun _ => rfl) ?_
  refine ir_c_ne (pt := 42) (pc' := 15) rfl rfl rfl (fun c11 => ?_) (fun c11 => ?_)
  · refine ir_w [] trivial ?_
    exact J42 s6 hT6 hF6 (z1) (by omega) (by omega) e7 (z8) (by omega) (by omega) z8e (z9) (by omega) (by omega) z9e (z10) (by omega) (by omega) z10e (by omega) (by omega)
  · refine ir_l (pc' := 16) rfl rfl rfl rfl rfl rfl ?_
    refine ir_getI (pc' := 19) rfl rfl rfl (gG_at tsk_2) rfl (by decide) (by decide) z8e (by omega) (by omega) ?_
    refine ir_s (pc' := 20) rfl rfl rfl rfl rfl rfl ?_
    refine ir_l (pc' := 21) rfl rfl rfl rfl rfl rfl ?_
    refine ir_cVV (pc' := 24) rfl rfl rfl rfl rfl (Nat.le_of_ble_eq_true rfl) oo_X7_step (gG_at tsk_2) (sf_step7 L ys (d + 5) s6 hT6  (by omega) (by omega) (by omega)) (fun s13 hr => ?_)
    obtain ⟨hT13, hG13, p13_0, p13_1⟩ := hr
    have hF13 := fr_trans hF6 hG13 (by decide)
    have e14 : s13.1 2 1 = z1 := (hG13.1 _ _ tsk_2 1 (by decide)).trans e7
    obtain ⟨z15, z15e, z15l, z15h⟩ := tI_i tf_2_2 tsk_2 hT13
    obtain ⟨z16, z16e, z16l, z16h⟩ := tI_i tf_2_3 tsk_2 hT13
    obtain ⟨z17, z17e, z17l, z17h⟩ := tI_i tf_2_4 tsk_2 hT13
    refine ir_l (pc' := 25) rfl rfl rfl rfl rfl rfl ?_
    refine ir_cVI (pc' := 28) rfl rfl rfl rfl rfl (Nat.le_of_ble_eq_true rfl) oo_X7_readNumber (gG_at tsk_2) (sf_readNumber7 L ys (d + 5) s13 hT13  (by omega) (by omega)) (fun z18 s19 hr => ?_)
    obtain ⟨hT19, hG19, z18l, z18h, p19_0, p19_1⟩ := hr
    have hF19 := fr_trans hF13 hG19 (by decide)
    have e20 : s19.1 2 1 = z1 := (hG19.1 _ _ tsk_2 1 (by decide)).trans e14
    obtain ⟨z21, z21e, z21l, z21h⟩ := tI_i tf_2_2 tsk_2 hT19
    obtain ⟨z22, z22e, z22l, z22h⟩ := tI_i tf_2_3 tsk_2 hT19
    obtain ⟨z23, z23e, z23l, z23h⟩ := tI_i tf_2_4 tsk_2 hT19
    refine ir_s (pc' := 30) rfl rfl rfl rfl rfl rfl ?_
    refine ir_l (pc' := 31) rfl rfl rfl rfl rfl rfl ?_
    refine ir_l (pc' := 32) rfl rfl rfl rfl rfl rfl ?_
    refine ir_l (pc' := 33) rfl rfl rfl rfl rfl rfl ?_
    refine ir_cVR (pc' := 36) rfl rfl rfl rfl rfl (Nat.le_of_ble_eq_true rfl) oo_X7_slot (gG_at tsk_2) (sf_slot7 L ys (d + 9) s19 hT19 (x1) (by omega) (by omega) ) (fun b24 s25 hr => ?_)
    obtain ⟨hT25, hG25, b24k⟩ := hr
    have hF25 := fr_trans hF19 hG25 (by decide)
    have e26 : s25.1 2 1 = z1 := (hG25.1 _ _ tsk_2 1 (by decide)).trans e20
    have e27 : s25.1 2 2 = z21 := (hG25.1 _ _ tsk_2 2 (by decide)).trans z21e
    have e28 : s25.1 2 3 = z22 := (hG25.1 _ _ tsk_2 3 (by decide)).trans z22e
    have e29 : s25.1 2 4 = z23 := (hG25.1 _ _ tsk_2 4 (by decide)).trans z23e
    refine ir_l (pc' := 38) rfl rfl rfl rfl rfl rfl ?_
    refine ir_l (pc' := 39) rfl rfl rfl rfl rfl rfl ?_
    refine ir_cVV (pc' := 42) rfl rfl rfl rfl rfl (Nat.le_of_ble_eq_true rfl) oo_X7_raise (gG_at tsk_2) (sf_raise7 L ys (d + 7) s25 hT25 b24 b24k (z18) (by omega) (by omega) (z8) (by omega) (by omega) (by omega) (by omega)) (fun s31 hr => ?_)
    obtain ⟨hT31, hG31, p31_0, p31_1⟩ := hr
    have hF31 := fr_trans hF25 hG31 (by decide)
    have e32 : s31.1 2 1 = z1 := (hG31.1 _ _ tsk_2 1 (by decide)).trans e26
    have e33 : s31.1 2 2 = z21 := (hG31.1 _ _ tsk_2 2 (by decide)).trans e27
    obtain ⟨z34, z34e, z34l, z34h⟩ := tI_i tf_2_3 tsk_2 hT31
    obtain ⟨z35, z35e, z35l, z35h⟩ := tI_i tf_2_4 tsk_2 hT31
    refine ir_w [] trivial ?_
    exact J42 s31 hT31 hF31 (z1) (by omega) (by omega) e32 (z21) (by omega) (by omega) e33 (z34) (by omega) (by omega) z34e (z35) (by omega) (by omega) z35e (by omega) (by omega)
