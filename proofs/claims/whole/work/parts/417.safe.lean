/-! WALKS OF THE CLASS'S METHODS, by program -/
theorem sf_step7 (L : Nat) (ys : Nat → Int32) (d : Nat) (s0 : im_S) (hT0 : tI s0) (pr0 : s0.1 2 2 ≤ s0.1 2 1) (pr1 : (s0.1 2 4 ≠ 0 ∨ s0.1 2 3 = 0 ∨ s0.1 2 2 < s0.1 2 1)) (pr2 : (s0.1 2 4 ≠ 0 ∨ 1 ≤ s0.1 2 3)) : icV gG rm_P L ys (d + 6) 202 [(2, ((2 : Nat) : Int))] s0 (fun s => tI s ∧ fr [(2, 2), (2, 3), (2, 4), (2, 5)] s0 s ∧ s.1 2 2 ≤ s.1 2 1 ∧ (s.1 2 4 ≠ 0 ∨ s.1 2 3 = 0 ∨ s.1 2 2 < s.1 2 1)) := by
  refine ic_startM (M := rm_p_X7_step) om_X7_step (Nat.le_of_ble_eq_true rfl) ?_
  refine ir_w [(0, (2, ((2 : Nat) : Int)))] ⟨rfl, trivial⟩ ?_
  have hF0 := fr_refl [(2, 2), (2, 3), (2, 4), (2, 5)] s0
  have J21 : ∀ (s_21 : im_S) (hT_21 : tI s_21) (hF_21 : fr [(2, 2), (2, 3), (2, 4), (2, 5)] s0 s_21) (w21_2_1 : Int) (w21_2_1l : 0 ≤ w21_2_1) (w21_2_1h : w21_2_1 ≤ 400) (w21_2_1e : s_21.1 2 1 = w21_2_1) (w21_2_2 : Int) (w21_2_2l : 0 ≤ w21_2_2) (w21_2_2h : w21_2_2 ≤ 400) (w21_2_2e : s_21.1 2 2 = w21_2_2) (w21_2_3 : Int) (w21_2_3l : 0 ≤ w21_2_3) (w21_2_3h : w21_2_3 ≤ 65535) (w21_2_3e : s_21.1 2 3 = w21_2_3) (w21_2_4 : Int) (w21_2_4l : 0 ≤ w21_2_4) (w21_2_4h : w21_2_4 ≤ 3) (w21_2_4e : s_21.1 2 4 = w21_2_4) (i21_0 : w21_2_2 ≤ w21_2_1) (i21_1 : (w21_2_4 ≠ 0 ∨ w21_2_3 = 0 ∨ w21_2_2 < w21_2_1)), ir gG rm_P L ys (d + 5) rm_p_X7_step (21, [], [], s_21) (fun r : im_Re => r.1 = none ∧ (tI r.2 ∧ fr [(2, 2), (2, 3), (2, 4), (2, 5)] s0 r.2 ∧ r.2.1 2 2 ≤ r.2.1 2 1 ∧ (r.2.1 2 4 ≠ 0 ∨ r.2.1 2 3 = 0 ∨ r.2.1 2 2 < r.2.1 2 1))) := by
    intro s_21 hT_21 hF_21 w21_2_1 w21_2_1l w21_2_1h w21_2_1e w21_2_2 w21_2_2l w21_2_2h w21_2_2e w21_2_3 w21_2_3l w21_2_3h w21_2_3e w21_2_4 w21_2_4l w21_2_4h w21_2_4e i21_0 i21_1
    exact ir_vret rfl rfl ⟨rfl, hT_21, hF_21, (by first | omega | (dsimp only; omega)), (by first | omega | (dsimp only; omega))⟩
  obtain ⟨z1, z1e, z1l, z1h⟩ := tI_i tf_2_1 tsk_2 hT0
  obtain ⟨z2, z2e, z2l, z2h⟩ := tI_i tf_2_2 tsk_2 hT0
  obtain ⟨z3, z3e, z3l, z3h⟩ := tI_i tf_2_3 tsk_2 hT0
  obtain ⟨z4, z4e, z4l, z4h⟩ := tI_i tf_2_4 tsk_2 hT0
  refine ir_l (pc' := 1) rfl rfl rfl rfl rfl rfl ?_
  refine ir_getI (pc' := 4) rfl rfl rfl (gG_at tsk_2) rfl (by decide) (by decide) z4e (by omega) (by omega) ?_
  refine ir_z_ne (pt := 21) (pc' := 7) rfl rfl rfl (fun c5 => ?_) (fun c5 => ?_)
  · refine ir_w [] trivial ?_
    exact J21 s0 hT0 hF0 (z1) (by omega) (by omega) z1e (z2) (by omega) (by omega) z2e (z3) (by omega) (by omega) z3e (z4) (by omega) (by omega) z4e (by omega) (by omega)
  · refine ir_l (pc' := 8) rfl rfl rfl rfl rfl rfl ?_
    refine ir_x (pc' := 9) rfl rfl rfl (fun _ => rfl) ?_
    refine ir_getI (pc' := 12) rfl rfl rfl (gG_at tsk_2) rfl (by decide) (by decide) z2e (by omega) (by omega) ?_
    refine ir_k (pc' := 13) (v := (0, 1)) rfl rfl rfl (fun _ => rfl) ?_
    refine ir_add (pc' := 14) rfl rfl (by omega) (by omega) ?_
    refine ir_tpi (pc' := 17) rfl rfl rfl tf_2_2 rfl tsk_2 hT0 rfl (by omega) (by omega) (fun s6 hT6 e6 g6 r6 => ?_)
    have hF6 := fr_put (k := 2) hF0 (by decide) tsk_2 g6 r6
    have e7 : s6.1 2 1 = z1 := (g6 2 1 (fun z => absurd z.2 (by decide))).trans z1e
    have e8 : s6.1 2 3 = z3 := (g6 2 3 (fun z => absurd z.2 (by decide))).trans z3e
    have e9 : s6.1 2 4 = z4 := (g6 2 4 (fun z => absurd z.2 (by decide))).trans z4e
    refine ir_l (pc' := 18) rfl rfl rfl rfl rfl rfl ?_
    refine ir_cVV (pc' := 21) rfl rfl rfl rfl rfl (Nat.le_of_ble_eq_true rfl) oo_X7_look (gG_at tsk_2) (sf_look7 L ys d s6 hT6  (by omega)) (fun s11 hr => ?_)
    obtain ⟨hT11, hG11, p11_0, p11_1⟩ := hr
    have hF11 := fr_trans hF6 hG11 (by decide)
    have e12 : s11.1 2 1 = z1 := (hG11.1 _ _ tsk_2 1 (by decide)).trans e7
    obtain ⟨z13, z13e, z13l, z13h⟩ := tI_i tf_2_2 tsk_2 hT11
    obtain ⟨z14, z14e, z14l, z14h⟩ := tI_i tf_2_3 tsk_2 hT11
    obtain ⟨z15, z15e, z15l, z15h⟩ := tI_i tf_2_4 tsk_2 hT11
    refine ir_w [] trivial ?_
    exact J21 s11 hT11 hF11 (z1) (by omega) (by omega) e12 (z13) (by omega) (by omega) z13e (z14) (by omega) (by omega) z14e (z15) (by omega) (by omega) z15e (by omega) (by omega)
theorem sf_expect7 (L : Nat) (ys : Nat → Int32) (d : Nat) (s0 : im_S) (hT0 : tI s0) (x1 : Int) (x1l : 1 ≤ x1) (x1h : x1 ≤ 65535) (pr0 : s0.1 2 2 ≤ s0.1 2 1) (pr1 : (s0.1 2 4 ≠ 0 ∨ s0.1 2 3 = 0 ∨ s0.1 2 2 < s0.1 2 1)) : icV gG rm_P L ys (d + 7) 182 [(2, ((2 : Nat) : Int)), (0, x1)] s0 (fun s => tI s ∧ fr [(2, 2), (2, 3), (2, 4), (2, 5)] s0 s ∧ s.1 2 2 ≤ s.1 2 1 ∧ (s.1 2 4 ≠ 0 ∨ s.1 2 3 = 0 ∨ s.1 2 2 < s.1 2 1)) := by
  refine ic_startM (M := rm_p_X7_expect) om_X7_expect (Nat.le_of_ble_eq_true rfl) ?_
  refine ir_w [(0, (2, ((2 : Nat) : Int))), (1, (0, x1))] ⟨rfl, rfl, trivial⟩ ?_
  have hF0 := fr_refl [(2, 2), (2, 3), (2, 4), (2, 5)] s0
  have J24 : ∀ (s_24 : im_S) (hT_24 : tI s_24) (hF_24 : fr [(2, 2), (2, 3), (2, 4), (2, 5)] s0 s_24) (w24_2_1 : Int) (w24_2_1l : 0 ≤ w24_2_1) (w24_2_1h : w24_2_1 ≤ 400) (w24_2_1e : s_24.1 2 1 = w24_2_1) (w24_2_2 : Int) (w24_2_2l : 0 ≤ w24_2_2) (w24_2_2h : w24_2_2 ≤ 400) (w24_2_2e : s_24.1 2 2 = w24_2_2) (w24_2_3 : Int) (w24_2_3l : 0 ≤ w24_2_3) (w24_2_3h : w24_2_3 ≤ 65535) (w24_2_3e : s_24.1 2 3 = w24_2_3) (w24_2_4 : Int) (w24_2_4l : 0 ≤ w24_2_4) (w24_2_4h : w24_2_4 ≤ 3) (w24_2_4e : s_24.1 2 4 = w24_2_4) (i24_0 : w24_2_2 ≤ w24_2_1) (i24_1 : (w24_2_4 ≠ 0 ∨ w24_2_3 = 0 ∨ w24_2_2 < w24_2_1)), ir gG rm_P L ys (d + 6) rm_p_X7_expect (24, [], [], s_24) (fun r : im_Re => r.1 = none ∧ (tI r.2 ∧ fr [(2, 2), (2, 3), (2, 4), (2, 5)] s0 r.2 ∧ r.2.1 2 2 ≤ r.2.1 2 1 ∧ (r.2.1 2 4 ≠ 0 ∨ r.2.1 2 3 = 0 ∨ r.2.1 2 2 < r.2.1 2 1))) := by
    intro s_24 hT_24 hF_24 w24_2_1 w24_2_1l w24_2_1h w24_2_1e w24_2_2 w24_2_2l w24_2_2h w24_2_2e w24_2_3 w24_2_3l w24_2_3h w24_2_3e w24_2_4 w24_2_4l w24_2_4h w24_2_4e i24_0 i24_1
    exact ir_vret rfl rfl ⟨rfl, hT_24, hF_24, (by first | omega | (dsimp only; omega)), (by first | omega | (dsimp only; omega))⟩
  obtain ⟨z1, z1e, z1l, z1h⟩ := tI_i tf_2_1 tsk_2 hT0
  obtain ⟨z2, z2e, z2l, z2h⟩ := tI_i tf_2_2 tsk_2 hT0
  obtain ⟨z3, z3e, z3l, z3h⟩ := tI_i tf_2_3 tsk_2 hT0
  obtain ⟨z4, z4e, z4l, z4h⟩ := tI_i tf_2_4 tsk_2 hT0
  refine ir_l (pc' := 1) rfl rfl rfl rfl rfl rfl ?_
  refine ir_getI (pc' := 4) rfl rfl rfl (gG_at tsk_2) rfl (by decide) (by decide) z3e (by omega) (by omega) ?_
  refine ir_l (pc' := 5) rfl rfl rfl rfl rfl rfl ?_
  refine ir_c_ne (pt := 15) (pc' := 8) rfl rfl rfl (fun c5 => ?_) (fun c5 => ?_)
  · refine ir_l (pc' := 16) rfl rfl rfl rfl rfl rfl ?_
    refine ir_k (pc' := 17) (v := (0, 2)) rfl rfl rfl (fun _ => rfl) ?_
    refine ir_l (pc' := 18) rfl rfl rfl rfl rfl rfl ?_
    refine ir_getI (pc' := 21) rfl rfl rfl (gG_at tsk_2) rfl (by decide) (by decide) z2e (by omega) (by omega) ?_
    refine ir_cVV (pc' := 24) rfl rfl rfl rfl rfl (Nat.le_of_ble_eq_true rfl) oo_X7_fail (gG_at tsk_2) (sf_fail7 L ys (d + 5) s0 hT0 (2) (by omega) (by omega) (z2) (by omega) (by omega) ) (fun s7 hr => ?_)
    obtain ⟨hT7, hG7, p7_0⟩ := hr
    have hF7 := fr_trans hF0 hG7 (by decide)
    have e8 : s7.1 2 1 = z1 := (hG7.1 _ _ tsk_2 1 (by decide)).trans z1e
    have e9 : s7.1 2 2 = z2 := (hG7.1 _ _ tsk_2 2 (by decide)).trans z2e
    obtain ⟨z10, z10e, z10l, z10h⟩ := tI_i tf_2_3 tsk_2 hT7
    obtain ⟨z11, z11e, z11l, z11h⟩ := tI_i tf_2_4 tsk_2 hT7
    refine ir_w [] trivial ?_
    exact J24 s7 hT7 hF7 (z1) (by omega) (by omega) e8 (z2) (by omega) (by omega) e9 (z10) (by omega) (by omega) z10e (z11) (by omega) (by omega) z11e (by omega) (by omega)
  · refine ir_l (pc' := 9) rfl rfl rfl rfl rfl rfl ?_
    refine ir_cVV (pc' := 12) rfl rfl rfl rfl rfl (Nat.le_of_ble_eq_true rfl) oo_X7_step (gG_at tsk_2) (sf_step7 L ys d s0 hT0  (by omega) (by omega) (by omega)) (fun s13 hr => ?_)
    obtain ⟨hT13, hG13, p13_0, p13_1⟩ := hr
    have hF13 := fr_trans hF0 hG13 (by decide)
    have e14 : s13.1 2 1 = z1 := (hG13.1 _ _ tsk_2 1 (by decide)).trans z1e
    obtain ⟨z15, z15e, z15l, z15h⟩ := tI_i tf_2_2 tsk_2 hT13
    obtain ⟨z16, z16e, z16l, z16h⟩ := tI_i tf_2_3 tsk_2 hT13
    obtain ⟨z17, z17e, z17l, z17h⟩ := tI_i tf_2_4 tsk_2 hT13
    refine ir_goto (pc' := 24) rfl rfl ?_
    refine ir_w [] trivial ?_
    exact J24 s13 hT13 hF13 (z1) (by omega) (by omega) e14 (z15) (by omega) (by omega) z15e (z16) (by omega) (by omega) z16e (z17) (by omega) (by omega) z17e (by omega) (by omega)
theorem sf_multiply7 (L : Nat) (ys : Nat → Int32) (d : Nat) (s0 : im_S) (hT0 : tI s0) (a1 : Nat) (a1k : gK[a1]? = some 4) (a2 : Nat) (a2k : gK[a2]? = some 4) (x3 : Int) (x3l : 0 ≤ x3) (x3h : x3 ≤ 400) (pr0 : s0.1 2 2 ≤ s0.1 2 1) (pr1 : (s0.1 2 4 ≠ 0 ∨ s0.1 2 3 = 0 ∨ s0.1 2 2 < s0.1 2 1)) : icV gG rm_P L ys (d + 3) 188 [(2, ((2 : Nat) : Int)), (2, (a1 : Int)), (2, (a2 : Int)), (0, x3)] s0 (fun s => tI s ∧ fr [(2, 3), (2, 4), (2, 5), (4, 0)] s0 s ∧ s.1 2 2 ≤ s.1 2 1 ∧ (s.1 2 4 ≠ 0 ∨ s.1 2 3 = 0 ∨ s.1 2 2 < s.1 2 1)) := by
  refine ic_startM (M := rm_p_X7_multiply) om_X7_multiply (Nat.le_of_ble_eq_true rfl) ?_
  refine ir_w [(0, (2, ((2 : Nat) : Int))), (1, (2, ((a1 : Nat) : Int))), (2, (2, ((a2 : Nat) : Int))), (3, (0, x3))] ⟨rfl, rfl, rfl, rfl, trivial⟩ ?_
  have hF0 := fr_refl [(2, 3), (2, 4), (2, 5), (4, 0)] s0
  have J62 : ∀ n : Nat, ∀ (q62_l4 : Int) (q62_l4l : 0 ≤ q62_l4) (q62_l4h : q62_l4 ≤ 9) (s_62 : im_S) (hT_62 : tI s_62) (hF_62 : fr [(2, 3), (2, 4), (2, 5), (4, 0)] s0 s_62) (w62_2_1 : Int) (w62_2_1l : 0 ≤ w62_2_1) (w62_2_1h : w62_2_1 ≤ 400) (w62_2_1e : s_62.1 2 1 = w62_2_1) (w62_2_2 : Int) (w62_2_2l : 0 ≤ w62_2_2) (w62_2_2h : w62_2_2 ≤ 400) (w62_2_2e : s_62.1 2 2 = w62_2_2) (w62_2_3 : Int) (w62_2_3l : 0 ≤ w62_2_3) (w62_2_3h : w62_2_3 ≤ 65535) (w62_2_3e : s_62.1 2 3 = w62_2_3) (w62_2_4 : Int) (w62_2_4l : 0 ≤ w62_2_4) (w62_2_4h : w62_2_4 ≤ 3) (w62_2_4e : s_62.1 2 4 = w62_2_4) (w62_a1_0 : Int) (w62_a1_0l : -1 ≤ w62_a1_0) (w62_a1_0h : w62_a1_0 ≤ 8) (w62_a1_0e : s_62.1 a1 0 = w62_a1_0) (i62_0 : w62_2_2 ≤ w62_2_1) (i62_1 : (w62_2_4 ≠ 0 ∨ w62_2_3 = 0 ∨ w62_2_2 < w62_2_1)), (9 + 1 - q62_l4) ≤ (n : Int) → ir gG rm_P L ys (d + 2) rm_p_X7_multiply (62, [(0, (2, ((2 : Nat) : Int))), (1, (2, ((a1 : Nat) : Int))), (2, (2, ((a2 : Nat) : Int))), (3, (0, x3)), (4, (0, q62_l4))], [], s_62) (fun r : im_Re => r.1 = none ∧ (tI r.2 ∧ fr [(2, 3), (2, 4), (2, 5), (4, 0)] s0 r.2 ∧ r.2.1 2 2 ≤ r.2.1 2 1 ∧ (r.2.1 2 4 ≠ 0 ∨ r.2.1 2 3 = 0 ∨ r.2.1 2 2 < r.2.1 2 1))) := by
    intro n
    induction n with
    | zero => intro q62_l4 q62_l4l q62_l4h s_62 hT_62 hF_62 w62_2_1 w62_2_1l w62_2_1h w62_2_1e w62_2_2 w62_2_2l w62_2_2h w62_2_2e w62_2_3 w62_2_3l w62_2_3h w62_2_3e w62_2_4 w62_2_4l w62_2_4h w62_2_4e w62_a1_0 w62_a1_0l w62_a1_0h w62_a1_0e i62_0 i62_1 hr; exfalso; omega
    | succ n ih62 =>
      intro q62_l4 q62_l4l q62_l4h s_62 hT_62 hF_62 w62_2_1 w62_2_1l w62_2_1h w62_2_1e w62_2_2 w62_2_2l w62_2_2h w62_2_2e w62_2_3 w62_2_3l w62_2_3h w62_2_3e w62_2_4 w62_2_4l w62_2_4h w62_2_4e w62_a1_0 w62_a1_0l w62_a1_0h w62_a1_0e i62_0 i62_1 hr
      have J127 : ∀ (f127_4h : q62_l4 ≤ 8) (s_127 : im_S) (hT_127 : tI s_127) (hF_127 : fr [(2, 3), (2, 4), (2, 5), (4, 0)] s0 s_127) (w127_2_1 : Int) (w127_2_1l : 0 ≤ w127_2_1) (w127_2_1h : w127_2_1 ≤ 400) (w127_2_1e : s_127.1 2 1 = w127_2_1) (w127_2_2 : Int) (w127_2_2l : 0 ≤ w127_2_2) (w127_2_2h : w127_2_2 ≤ 400) (w127_2_2e : s_127.1 2 2 = w127_2_2) (w127_2_3 : Int) (w127_2_3l : 0 ≤ w127_2_3) (w127_2_3h : w127_2_3 ≤ 65535) (w127_2_3e : s_127.1 2 3 = w127_2_3) (w127_2_4 : Int) (w127_2_4l : 0 ≤ w127_2_4) (w127_2_4h : w127_2_4 ≤ 3) (w127_2_4e : s_127.1 2 4 = w127_2_4) (w127_a1_0 : Int) (w127_a1_0l : 0 ≤ w127_a1_0) (w127_a1_0h : w127_a1_0 ≤ 8) (w127_a1_0e : s_127.1 a1 0 = w127_a1_0) (w127_a2_0 : Int) (w127_a2_0l : -1 ≤ w127_a2_0) (w127_a2_0h : w127_a2_0 ≤ 8) (w127_a2_0e : s_127.1 a2 0 = w127_a2_0) (i127_0 : w127_2_2 ≤ w127_2_1) (i127_1 : (w127_2_4 ≠ 0 ∨ w127_2_3 = 0 ∨ w127_2_2 < w127_2_1)), ir gG rm_P L ys (d + 2) rm_p_X7_multiply (127, [(0, (2, ((2 : Nat) : Int))), (1, (2, ((a1 : Nat) : Int))), (2, (2, ((a2 : Nat) : Int))), (3, (0, x3)), (4, (0, q62_l4))], [], s_127) (fun r : im_Re => r.1 = none ∧ (tI r.2 ∧ fr [(2, 3), (2, 4), (2, 5), (4, 0)] s0 r.2 ∧ r.2.1 2 2 ≤ r.2.1 2 1 ∧ (r.2.1 2 4 ≠ 0 ∨ r.2.1 2 3 = 0 ∨ r.2.1 2 2 < r.2.1 2 1))) := by
        intro f127_4h s_127 hT_127 hF_127 w127_2_1 w127_2_1l w127_2_1h w127_2_1e w127_2_2 w127_2_2l w127_2_2h w127_2_2e w127_2_3 w127_2_3l w127_2_3h w127_2_3e w127_2_4 w127_2_4l w127_2_4h w127_2_4e w127_a1_0 w127_a1_0l w127_a1_0h w127_a1_0e w127_a2_0 w127_a2_0l w127_a2_0h w127_a2_0e i127_0 i127_1
        refine ir_inc (pc' := 130) rfl rfl rfl rfl rfl (by omega) (by omega) ?_
        refine ir_goto (pc' := 62) rfl rfl ?_
        refine ir_w [(0, (2, ((2 : Nat) : Int))), (1, (2, ((a1 : Nat) : Int))), (2, (2, ((a2 : Nat) : Int))), (3, (0, x3)), (4, (0, (q62_l4 + 1)))] ⟨rfl, rfl, rfl, rfl, rfl, trivial⟩ ?_
        exact ih62 ((q62_l4 + 1)) (by omega) (by omega) s_127 hT_127 hF_127 (w127_2_1) (by omega) (by omega) w127_2_1e (w127_2_2) (by omega) (by omega) w127_2_2e (w127_2_3) (by omega) (by omega) w127_2_3e (w127_2_4) (by omega) (by omega) w127_2_4e (w127_a1_0) (by omega) (by omega) w127_a1_0e (by omega) (by omega) (by omega)
      have J74 : ∀ n : Nat, ∀ (q74_l5 : Int) (q74_l5l : 0 ≤ q74_l5) (q74_l5h : q74_l5 ≤ 9) (f74_4h : q62_l4 ≤ 8) (s_74 : im_S) (hT_74 : tI s_74) (hF_74 : fr [(2, 3), (2, 4), (2, 5), (4, 0)] s0 s_74) (w74_2_1 : Int) (w74_2_1l : 0 ≤ w74_2_1) (w74_2_1h : w74_2_1 ≤ 400) (w74_2_1e : s_74.1 2 1 = w74_2_1) (w74_2_2 : Int) (w74_2_2l : 0 ≤ w74_2_2) (w74_2_2h : w74_2_2 ≤ 400) (w74_2_2e : s_74.1 2 2 = w74_2_2) (w74_2_3 : Int) (w74_2_3l : 0 ≤ w74_2_3) (w74_2_3h : w74_2_3 ≤ 65535) (w74_2_3e : s_74.1 2 3 = w74_2_3) (w74_2_4 : Int) (w74_2_4l : 0 ≤ w74_2_4) (w74_2_4h : w74_2_4 ≤ 3) (w74_2_4e : s_74.1 2 4 = w74_2_4) (w74_a1_0 : Int) (w74_a1_0l : 0 ≤ w74_a1_0) (w74_a1_0h : w74_a1_0 ≤ 8) (w74_a1_0e : s_74.1 a1 0 = w74_a1_0) (i74_0 : w74_2_2 ≤ w74_2_1) (i74_1 : (w74_2_4 ≠ 0 ∨ w74_2_3 = 0 ∨ w74_2_2 < w74_2_1)), (9 + 1 - q74_l5) ≤ (n : Int) → ir gG rm_P L ys (d + 2) rm_p_X7_multiply (74, [(0, (2, ((2 : Nat) : Int))), (1, (2, ((a1 : Nat) : Int))), (2, (2, ((a2 : Nat) : Int))), (3, (0, x3)), (4, (0, q62_l4)), (5, (0, q74_l5))], [], s_74) (fun r : im_Re => r.1 = none ∧ (tI r.2 ∧ fr [(2, 3), (2, 4), (2, 5), (4, 0)] s0 r.2 ∧ r.2.1 2 2 ≤ r.2.1 2 1 ∧ (r.2.1 2 4 ≠ 0 ∨ r.2.1 2 3 = 0 ∨ r.2.1 2 2 < r.2.1 2 1))) := by
        intro n
        induction n with
        | zero => intro q74_l5 q74_l5l q74_l5h f74_4h s_74 hT_74 hF_74 w74_2_1 w74_2_1l w74_2_1h w74_2_1e w74_2_2 w74_2_2l w74_2_2h w74_2_2e w74_2_3 w74_2_3l w74_2_3h w74_2_3e w74_2_4 w74_2_4l w74_2_4h w74_2_4e w74_a1_0 w74_a1_0l w74_a1_0h w74_a1_0e i74_0 i74_1 hr; exfalso; omega
        | succ n ih74 =>
          intro q74_l5 q74_l5l q74_l5h f74_4h s_74 hT_74 hF_74 w74_2_1 w74_2_1l w74_2_1h w74_2_1e w74_2_2 w74_2_2l w74_2_2h w74_2_2e w74_2_3 w74_2_3l w74_2_3h w74_2_3e w74_2_4 w74_2_4l w74_2_4h w74_2_4e w74_a1_0 w74_a1_0l w74_a1_0h w74_a1_0e i74_0 i74_1 hr
          refine ir_l (pc' := 76) rfl rfl rfl rfl rfl rfl ?_
          refine ir_l (pc' := 77) rfl rfl rfl rfl rfl rfl ?_
          refine ir_tgi (pc' := 80) rfl rfl rfl tf_4_0 a2k hT_74 (fun z1 z1e z1l z1h => ?_)
          refine ir_c_gt (pt := 127) (pc' := 83) rfl rfl rfl (fun c2 => ?_) (fun c2 => ?_)
          · refine ir_w [(0, (2, ((2 : Nat) : Int))), (1, (2, ((a1 : Nat) : Int))), (2, (2, ((a2 : Nat) : Int))), (3, (0, x3)), (4, (0, q62_l4))] ⟨rfl, rfl, rfl, rfl, rfl, trivial⟩ ?_
            exact J127 (by omega) s_74 hT_74 hF_74 (w74_2_1) (by omega) (by omega) w74_2_1e (w74_2_2) (by omega) (by omega) w74_2_2e (w74_2_3) (by omega) (by omega) w74_2_3e (w74_2_4) (by omega) (by omega) w74_2_4e (w74_a1_0) (by omega) (by omega) w74_a1_0e (z1) (by omega) (by omega) z1e (by omega) (by omega)
          · refine ir_l (pc' := 85) rfl rfl rfl rfl rfl rfl ?_
            refine ir_l (pc' := 87) rfl rfl rfl rfl rfl rfl ?_
            refine ir_add (pc' := 88) rfl rfl (by omega) (by omega) ?_
            refine ir_k (pc' := 90) (v := (0, 8)) rfl rfl rfl (fun _ => rfl) ?_
            refine ir_c_gt (pt := 127) (pc' := 93) rfl rfl rfl (fun c3 => ?_) (fun c3 => ?_)
            · refine ir_w [(0, (2, ((2 : Nat) : Int))), (1, (2, ((a1 : Nat) : Int))), (2, (2, ((a2 : Nat) : Int))), (3, (0, x3)), (4, (0, q62_l4))] ⟨rfl, rfl, rfl, rfl, rfl, trivial⟩ ?_
              exact J127 (by omega) s_74 hT_74 hF_74 (w74_2_1) (by omega) (by omega) w74_2_1e (w74_2_2) (by omega) (by omega) w74_2_2e (w74_2_3) (by omega) (by omega) w74_2_3e (w74_2_4) (by omega) (by omega) w74_2_4e (w74_a1_0) (by omega) (by omega) w74_a1_0e (z1) (by omega) (by omega) z1e (by omega) (by omega)
            · refine ir_l (pc' := 94) rfl rfl rfl rfl rfl rfl ?_
              refine ir_tgr (pc' := 97) rfl rfl rfl tf_2_8 tsk_2 hT_74 (fun b4 b4e b4k => ?_)
              refine ir_l (pc' := 99) rfl rfl rfl rfl rfl rfl ?_
              refine ir_l (pc' := 101) rfl rfl rfl rfl rfl rfl ?_
              refine ir_add (pc' := 102) rfl rfl (by omega) (by omega) ?_
              refine ir_x (pc' := 103) rfl rfl rfl (fun _ => rfl) ?_
              refine ir_tla (pc' := 104) rfl rfl te_6 (by decide) b4k hT_74 (by omega) (by omega) (fun z5 z5e z5l z5h => ?_)
              clear z5e
              refine ir_l (pc' := 105) rfl rfl rfl rfl rfl rfl ?_
              refine ir_tgr (pc' := 108) rfl rfl rfl tf_4_1 a1k hT_74 (fun b6 b6e b6k => ?_)
              refine ir_l (pc' := 110) rfl rfl rfl rfl rfl rfl ?_
              refine ir_tla (pc' := 111) rfl rfl te_6 (by decide) b6k hT_74 (by omega) (by omega) (fun z7 z7e z7l z7h => ?_)
              clear z7e
              refine ir_l (pc' := 112) rfl rfl rfl rfl rfl rfl ?_
              refine ir_tgr (pc' := 115) rfl rfl rfl tf_4_1 a2k hT_74 (fun b8 b8e b8k => ?_)
              refine ir_l (pc' := 117) rfl rfl rfl rfl rfl rfl ?_
              refine ir_tla (pc' := 118) rfl rfl te_6 (by decide) b8k hT_74 (by omega) (by omega) (fun z9 z9e z9l z9h => ?_)
              clear z9e
              refine ir_jjA (pc' := 119) rfl rfl rfl rfl (fun z10 z10l z10h => ?_)
              refine ir_jjA (pc' := 120) rfl rfl rfl rfl (fun z11 z11l z11h => ?_)
              refine ir_tls (pc' := 121) rfl rfl te_6 b4k hT_74 (by omega) (by omega) (by omega) (by omega) (fun s12 hT12 r12 o12 => ?_)
              have hF12 := fr_row hF_74 r12 o12
              have e13 : s12.1 2 1 = w74_2_1 := by rw [r12]; exact w74_2_1e
              have e14 : s12.1 2 2 = w74_2_2 := by rw [r12]; exact w74_2_2e
              have e15 : s12.1 2 3 = w74_2_3 := by rw [r12]; exact w74_2_3e
              have e16 : s12.1 2 4 = w74_2_4 := by rw [r12]; exact w74_2_4e
              have e17 : s12.1 a1 0 = w74_a1_0 := by rw [r12]; exact w74_a1_0e
              have e18 : s12.1 a2 0 = z1 := by rw [r12]; exact z1e
              have e19 : s12.1 2 8 = ((b4 : Nat) : Int) := by rw [r12]; exact b4e
              have e20 : s12.1 a1 1 = ((b6 : Nat) : Int) := by rw [r12]; exact b6e
              have e21 : s12.1 a2 1 = ((b8 : Nat) : Int) := by rw [r12]; exact b8e
              refine ir_inc (pc' := 124) rfl rfl rfl rfl rfl (by omega) (by omega) ?_
              refine ir_goto (pc' := 74) rfl rfl ?_
              refine ir_w [(0, (2, ((2 : Nat) : Int))), (1, (2, ((a1 : Nat) : Int))), (2, (2, ((a2 : Nat) : Int))), (3, (0, x3)), (4, (0, q62_l4)), (5, (0, (q74_l5 + 1)))] ⟨rfl, rfl, rfl, rfl, rfl, rfl, trivial⟩ ?_
              exact ih74 ((q74_l5 + 1)) (by omega) (by omega) (by omega) s12 hT12 hF12 (w74_2_1) (by omega) (by omega) e13 (w74_2_2) (by omega) (by omega) e14 (w74_2_3) (by omega) (by omega) e15 (w74_2_4) (by omega) (by omega) e16 (w74_a1_0) (by omega) (by omega) e17 (by omega) (by omega) (by omega)
      refine ir_l (pc' := 64) rfl rfl rfl rfl rfl rfl ?_
      refine ir_l (pc' := 65) rfl rfl rfl rfl rfl rfl ?_
      refine ir_getI (pc' := 68) rfl rfl rfl (gG_at a1k) rfl (by decide) (by decide) w62_a1_0e (by omega) (by omega) ?_
      refine ir_c_gt (pt := 133) (pc' := 71) rfl rfl rfl (fun c22 => ?_) (fun c22 => ?_)
      · refine ir_l (pc' := 134) rfl rfl rfl rfl rfl rfl ?_
        refine ir_l (pc' := 135) rfl rfl rfl rfl rfl rfl ?_
        refine ir_l (pc' := 136) rfl rfl rfl rfl rfl rfl ?_
        refine ir_cVV (pc' := 139) rfl rfl rfl rfl rfl (Nat.le_of_ble_eq_true rfl) oo_X7_accept (gG_at tsk_2) (sf_accept7 L ys d s_62 hT_62 a1 a1k (x3) (by omega) (by omega) (by omega) (by omega)) (fun s24 hr => ?_)
        obtain ⟨hT24, hG24, p24_0, p24_1⟩ := hr
        have hF24 := fr_trans hF_62 hG24 (by decide)
        have e25 : s24.1 2 1 = w62_2_1 := (hG24.1 _ _ tsk_2 1 (by decide)).trans w62_2_1e
        have e26 : s24.1 2 2 = w62_2_2 := (hG24.1 _ _ tsk_2 2 (by decide)).trans w62_2_2e
        obtain ⟨z27, z27e, z27l, z27h⟩ := tI_i tf_2_3 tsk_2 hT24
        obtain ⟨z28, z28e, z28l, z28h⟩ := tI_i tf_2_4 tsk_2 hT24
        exact ir_vret rfl rfl ⟨rfl, hT24, hF24, (by first | omega | (dsimp only; omega)), (by first | omega | (dsimp only; omega))⟩
      · refine ir_k (pc' := 72) (v := (0, 0)) rfl rfl rfl (fun _ => rfl) ?_
        refine ir_s (pc' := 74) rfl rfl rfl rfl rfl rfl ?_
        refine ir_w [(0, (2, ((2 : Nat) : Int))), (1, (2, ((a1 : Nat) : Int))), (2, (2, ((a2 : Nat) : Int))), (3, (0, x3)), (4, (0, q62_l4)), (5, (0, 0))] ⟨rfl, rfl, rfl, rfl, rfl, rfl, trivial⟩ ?_
        exact J74 _ (0) (by omega) (by omega) (by omega) s_62 hT_62 hF_62 (w62_2_1) (by omega) (by omega) w62_2_1e (w62_2_2) (by omega) (by omega) w62_2_2e (w62_2_3) (by omega) (by omega) w62_2_3e (w62_2_4) (by omega) (by omega) w62_2_4e (w62_a1_0) (by omega) (by omega) w62_a1_0e (by omega) (by omega) (Int.self_le_toNat _)
  have J38 : ∀ n : Nat, ∀ (q38_l4 : Int) (q38_l4l : 0 ≤ q38_l4) (q38_l4h : q38_l4 ≤ 9) (s_38 : im_S) (hT_38 : tI s_38) (hF_38 : fr [(2, 3), (2, 4), (2, 5), (4, 0)] s0 s_38) (w38_2_1 : Int) (w38_2_1l : 0 ≤ w38_2_1) (w38_2_1h : w38_2_1 ≤ 400) (w38_2_1e : s_38.1 2 1 = w38_2_1) (w38_2_2 : Int) (w38_2_2l : 0 ≤ w38_2_2) (w38_2_2h : w38_2_2 ≤ 400) (w38_2_2e : s_38.1 2 2 = w38_2_2) (w38_2_3 : Int) (w38_2_3l : 0 ≤ w38_2_3) (w38_2_3h : w38_2_3 ≤ 65535) (w38_2_3e : s_38.1 2 3 = w38_2_3) (w38_2_4 : Int) (w38_2_4l : 0 ≤ w38_2_4) (w38_2_4h : w38_2_4 ≤ 3) (w38_2_4e : s_38.1 2 4 = w38_2_4) (w38_a1_0 : Int) (w38_a1_0l : -1 ≤ w38_a1_0) (w38_a1_0h : w38_a1_0 ≤ 8) (w38_a1_0e : s_38.1 a1 0 = w38_a1_0) (i38_0 : w38_2_2 ≤ w38_2_1) (i38_1 : (w38_2_4 ≠ 0 ∨ w38_2_3 = 0 ∨ w38_2_2 < w38_2_1)), (9 + 1 - q38_l4) ≤ (n : Int) → ir gG rm_P L ys (d + 2) rm_p_X7_multiply (38, [(0, (2, ((2 : Nat) : Int))), (1, (2, ((a1 : Nat) : Int))), (2, (2, ((a2 : Nat) : Int))), (3, (0, x3)), (4, (0, q38_l4))], [], s_38) (fun r : im_Re => r.1 = none ∧ (tI r.2 ∧ fr [(2, 3), (2, 4), (2, 5), (4, 0)] s0 r.2 ∧ r.2.1 2 2 ≤ r.2.1 2 1 ∧ (r.2.1 2 4 ≠ 0 ∨ r.2.1 2 3 = 0 ∨ r.2.1 2 2 < r.2.1 2 1))) := by
    intro n
    induction n with
    | zero => intro q38_l4 q38_l4l q38_l4h s_38 hT_38 hF_38 w38_2_1 w38_2_1l w38_2_1h w38_2_1e w38_2_2 w38_2_2l w38_2_2h w38_2_2e w38_2_3 w38_2_3l w38_2_3h w38_2_3e w38_2_4 w38_2_4l w38_2_4h w38_2_4e w38_a1_0 w38_a1_0l w38_a1_0h w38_a1_0e i38_0 i38_1 hr; exfalso; omega
    | succ n ih38 =>
      intro q38_l4 q38_l4l q38_l4h s_38 hT_38 hF_38 w38_2_1 w38_2_1l w38_2_1h w38_2_1e w38_2_2 w38_2_2l w38_2_2h w38_2_2e w38_2_3 w38_2_3l w38_2_3h w38_2_3e w38_2_4 w38_2_4l w38_2_4h w38_2_4e w38_a1_0 w38_a1_0l w38_a1_0h w38_a1_0e i38_0 i38_1 hr
      refine ir_l (pc' := 40) rfl rfl rfl rfl rfl rfl ?_
      refine ir_k (pc' := 42) (v := (0, 8)) rfl rfl rfl (fun _ => rfl) ?_
      refine ir_c_gt (pt := 59) (pc' := 45) rfl rfl rfl (fun c29 => ?_) (fun c29 => ?_)
      · refine ir_k (pc' := 60) (v := (0, 0)) rfl rfl rfl (fun _ => rfl) ?_
        refine ir_s (pc' := 62) rfl rfl rfl rfl rfl rfl ?_
        refine ir_w [(0, (2, ((2 : Nat) : Int))), (1, (2, ((a1 : Nat) : Int))), (2, (2, ((a2 : Nat) : Int))), (3, (0, x3)), (4, (0, 0))] ⟨rfl, rfl, rfl, rfl, rfl, trivial⟩ ?_
        exact J62 _ (0) (by omega) (by omega) s_38 hT_38 hF_38 (w38_2_1) (by omega) (by omega) w38_2_1e (w38_2_2) (by omega) (by omega) w38_2_2e (w38_2_3) (by omega) (by omega) w38_2_3e (w38_2_4) (by omega) (by omega) w38_2_4e (w38_a1_0) (by omega) (by omega) w38_a1_0e (by omega) (by omega) (Int.self_le_toNat _)
      · refine ir_l (pc' := 46) rfl rfl rfl rfl rfl rfl ?_
        refine ir_tgr (pc' := 49) rfl rfl rfl tf_2_8 tsk_2 hT_38 (fun b30 b30e b30k => ?_)
        refine ir_l (pc' := 51) rfl rfl rfl rfl rfl rfl ?_
        refine ir_k (pc' := 52) (v := (1, 0)) rfl rfl rfl (fun _ => rfl) ?_
        refine ir_tls (pc' := 53) rfl rfl te_6 b30k hT_38 (by omega) (by omega) (by omega) (by omega) (fun s31 hT31 r31 o31 => ?_)
        have hF31 := fr_row hF_38 r31 o31
        have e32 : s31.1 2 1 = w38_2_1 := by rw [r31]; exact w38_2_1e
        have e33 : s31.1 2 2 = w38_2_2 := by rw [r31]; exact w38_2_2e
        have e34 : s31.1 2 3 = w38_2_3 := by rw [r31]; exact w38_2_3e
        have e35 : s31.1 2 4 = w38_2_4 := by rw [r31]; exact w38_2_4e
        have e36 : s31.1 a1 0 = w38_a1_0 := by rw [r31]; exact w38_a1_0e
        have e37 : s31.1 2 8 = ((b30 : Nat) : Int) := by rw [r31]; exact b30e
        refine ir_inc (pc' := 56) rfl rfl rfl rfl rfl (by omega) (by omega) ?_
        refine ir_goto (pc' := 38) rfl rfl ?_
        refine ir_w [(0, (2, ((2 : Nat) : Int))), (1, (2, ((a1 : Nat) : Int))), (2, (2, ((a2 : Nat) : Int))), (3, (0, x3)), (4, (0, (q38_l4 + 1)))] ⟨rfl, rfl, rfl, rfl, rfl, trivial⟩ ?_
        exact ih38 ((q38_l4 + 1)) (by omega) (by omega) s31 hT31 hF31 (w38_2_1) (by omega) (by omega) e32 (w38_2_2) (by omega) (by omega) e33 (w38_2_3) (by omega) (by omega) e34 (w38_2_4) (by omega) (by omega) e35 (w38_a1_0) (by omega) (by omega) e36 (by omega) (by omega) (by omega)
  have J35 : ∀ (s_35 : im_S) (hT_35 : tI s_35) (hF_35 : fr [(2, 3), (2, 4), (2, 5), (4, 0)] s0 s_35) (w35_2_1 : Int) (w35_2_1l : 0 ≤ w35_2_1) (w35_2_1h : w35_2_1 ≤ 400) (w35_2_1e : s_35.1 2 1 = w35_2_1) (w35_2_2 : Int) (w35_2_2l : 0 ≤ w35_2_2) (w35_2_2h : w35_2_2 ≤ 400) (w35_2_2e : s_35.1 2 2 = w35_2_2) (w35_2_3 : Int) (w35_2_3l : 0 ≤ w35_2_3) (w35_2_3h : w35_2_3 ≤ 65535) (w35_2_3e : s_35.1 2 3 = w35_2_3) (w35_2_4 : Int) (w35_2_4l : 0 ≤ w35_2_4) (w35_2_4h : w35_2_4 ≤ 3) (w35_2_4e : s_35.1 2 4 = w35_2_4) (w35_a1_0 : Int) (w35_a1_0l : -1 ≤ w35_a1_0) (w35_a1_0h : w35_a1_0 ≤ 8) (w35_a1_0e : s_35.1 a1 0 = w35_a1_0) (i35_0 : w35_2_2 ≤ w35_2_1) (i35_1 : (w35_2_4 ≠ 0 ∨ w35_2_3 = 0 ∨ w35_2_2 < w35_2_1)), ir gG rm_P L ys (d + 2) rm_p_X7_multiply (35, [(0, (2, ((2 : Nat) : Int))), (1, (2, ((a1 : Nat) : Int))), (2, (2, ((a2 : Nat) : Int))), (3, (0, x3))], [], s_35) (fun r : im_Re => r.1 = none ∧ (tI r.2 ∧ fr [(2, 3), (2, 4), (2, 5), (4, 0)] s0 r.2 ∧ r.2.1 2 2 ≤ r.2.1 2 1 ∧ (r.2.1 2 4 ≠ 0 ∨ r.2.1 2 3 = 0 ∨ r.2.1 2 2 < r.2.1 2 1))) := by
    intro s_35 hT_35 hF_35 w35_2_1 w35_2_1l w35_2_1h w35_2_1e w35_2_2 w35_2_2l w35_2_2h w35_2_2e w35_2_3 w35_2_3l w35_2_3h w35_2_3e w35_2_4 w35_2_4l w35_2_4h w35_2_4e w35_a1_0 w35_a1_0l w35_a1_0h w35_a1_0e i35_0 i35_1
    refine ir_k (pc' := 36) (v := (0, 0)) rfl rfl rfl (fun _ => rfl) ?_
    refine ir_s (pc' := 38) rfl rfl rfl rfl rfl rfl ?_
    refine ir_w [(0, (2, ((2 : Nat) : Int))), (1, (2, ((a1 : Nat) : Int))), (2, (2, ((a2 : Nat) : Int))), (3, (0, x3)), (4, (0, 0))] ⟨rfl, rfl, rfl, rfl, rfl, trivial⟩ ?_
    exact J38 _ (0) (by omega) (by omega) s_35 hT_35 hF_35 (w35_2_1) (by omega) (by omega) w35_2_1e (w35_2_2) (by omega) (by omega) w35_2_2e (w35_2_3) (by omega) (by omega) w35_2_3e (w35_2_4) (by omega) (by omega) w35_2_4e (w35_a1_0) (by omega) (by omega) w35_a1_0e (by omega) (by omega) (Int.self_le_toNat _)
  obtain ⟨z38, z38e, z38l, z38h⟩ := tI_i tf_2_1 tsk_2 hT0
  obtain ⟨z39, z39e, z39l, z39h⟩ := tI_i tf_2_2 tsk_2 hT0
  obtain ⟨z40, z40e, z40l, z40h⟩ := tI_i tf_2_3 tsk_2 hT0
  obtain ⟨z41, z41e, z41l, z41h⟩ := tI_i tf_2_4 tsk_2 hT0
  refine ir_l (pc' := 1) rfl rfl rfl rfl rfl rfl ?_
  refine ir_tgi (pc' := 4) rfl rfl rfl tf_4_0 a1k hT0 (fun z42 z42e z42l z42h => ?_)
  refine ir_z_lt (pt := 35) (pc' := 7) rfl rfl rfl (fun c43 => ?_) (fun c43 => ?_)
  · refine ir_w [(0, (2, ((2 : Nat) : Int))), (1, (2, ((a1 : Nat) : Int))), (2, (2, ((a2 : Nat) : Int))), (3, (0, x3))] ⟨rfl, rfl, rfl, rfl, trivial⟩ ?_
    exact J35 s0 hT0 hF0 (z38) (by omega) (by omega) z38e (z39) (by omega) (by omega) z39e (z40) (by omega) (by omega) z40e (z41) (by omega) (by omega) z41e (z42) (by omega) (by omega) z42e (by omega) (by omega)
  · refine ir_l (pc' := 8) rfl rfl rfl rfl rfl rfl ?_
    refine ir_tgi (pc' := 11) rfl rfl rfl tf_4_0 a2k hT0 (fun z44 z44e z44l z44h => ?_)
    refine ir_z_lt (pt := 35) (pc' := 14) rfl rfl rfl (fun c45 => ?_) (fun c45 => ?_)
    · refine ir_w [(0, (2, ((2 : Nat) : Int))), (1, (2, ((a1 : Nat) : Int))), (2, (2, ((a2 : Nat) : Int))), (3, (0, x3))] ⟨rfl, rfl, rfl, rfl, trivial⟩ ?_
      exact J35 s0 hT0 hF0 (z38) (by omega) (by omega) z38e (z39) (by omega) (by omega) z39e (z40) (by omega) (by omega) z40e (z41) (by omega) (by omega) z41e (z42) (by omega) (by omega) z42e (by omega) (by omega)
    · refine ir_l (pc' := 15) rfl rfl rfl rfl rfl rfl ?_
      refine ir_getI (pc' := 18) rfl rfl rfl (gG_at a1k) rfl (by decide) (by decide) z42e (by omega) (by omega) ?_
      refine ir_l (pc' := 19) rfl rfl rfl rfl rfl rfl ?_
      refine ir_getI (pc' := 22) rfl rfl rfl (gG_at a2k) rfl (by decide) (by decide) z44e (by omega) (by omega) ?_
      refine ir_add (pc' := 23) rfl rfl (by omega) (by omega) ?_
      refine ir_k (pc' := 25) (v := (0, 8)) rfl rfl rfl (fun _ => rfl) ?_
      refine ir_c_le (pt := 35) (pc' := 28) rfl rfl rfl (fun c46 => ?_) (fun c46 => ?_)
      · refine ir_w [(0, (2, ((2 : Nat) : Int))), (1, (2, ((a1 : Nat) : Int))), (2, (2, ((a2 : Nat) : Int))), (3, (0, x3))] ⟨rfl, rfl, rfl, rfl, trivial⟩ ?_
        exact J35 s0 hT0 hF0 (z38) (by omega) (by omega) z38e (z39) (by omega) (by omega) z39e (z40) (by omega) (by omega) z40e (z41) (by omega) (by omega) z41e (z42) (by omega) (by omega) z42e (by omega) (by omega)
      · refine ir_l (pc' := 29) rfl rfl rfl rfl rfl rfl ?_
        refine ir_k (pc' := 30) (v := (0, 3)) rfl rfl rfl (fun _ => rfl) ?_
        refine ir_l (pc' := 31) rfl rfl rfl rfl rfl rfl ?_
        refine ir_cVV (pc' := 34) rfl rfl rfl rfl rfl (Nat.le_of_ble_eq_true rfl) oo_X7_fail (gG_at tsk_2) (sf_fail7 L ys (d + 1) s0 hT0 (3) (by omega) (by omega) (x3) (by omega) (by omega) ) (fun s48 hr => ?_)
        obtain ⟨hT48, hG48, p48_0⟩ := hr
        have hF48 := fr_trans hF0 hG48 (by decide)
        have e49 : s48.1 2 1 = z38 := (hG48.1 _ _ tsk_2 1 (by decide)).trans z38e
        have e50 : s48.1 2 2 = z39 := (hG48.1 _ _ tsk_2 2 (by decide)).trans z39e
        have e51 : s48.1 a1 0 = z42 := (hG48.1 _ _ a1k 0 (by decide)).trans z42e
        have e52 : s48.1 a2 0 = z44 := (hG48.1 _ _ a2k 0 (by decide)).trans z44e
        obtain ⟨z53, z53e, z53l, z53h⟩ := tI_i tf_2_3 tsk_2 hT48
        obtain ⟨z54, z54e, z54l, z54h⟩ := tI_i tf_2_4 tsk_2 hT48
        exact ir_vret rfl rfl ⟨rfl, hT48, hF48, (by first | omega | (dsimp only; omega)), (by first | omega | (dsimp only; omega))⟩
theorem sf_negate7 (L : Nat) (ys : Nat → Int32) (d : Nat) (s0 : im_S) (hT0 : tI s0) (a0 : Nat) (a0k : gK[a0]? = some 4) : icV gG rm_P L ys (d + 1) 189 [(2, (a0 : Int))] s0 (fun s => tI s ∧ fr [] s0 s) := by
  refine ic_startM (M := rm_p_X7_negate) om_X7_negate (Nat.le_of_ble_eq_true rfl) ?_
  refine ir_w [(0, (2, ((a0 : Nat) : Int)))] ⟨rfl, trivial⟩ ?_
  have hF0 := fr_refl [] s0
  have J2 : ∀ n : Nat, ∀ (q2_l1 : Int) (q2_l1l : 0 ≤ q2_l1) (q2_l1h : q2_l1 ≤ 9) (s_2 : im_S) (hT_2 : tI s_2) (hF_2 : fr [] s0 s_2), (9 + 1 - q2_l1) ≤ (n : Int) → ir gG rm_P L ys d rm_p_X7_negate (2, [(0, (2, ((a0 : Nat) : Int))), (1, (0, q2_l1))], [], s_2) (fun r : im_Re => r.1 = none ∧ (tI r.2 ∧ fr [] s0 r.2)) := by
    intro n
    induction n with
    | zero => intro q2_l1 q2_l1l q2_l1h s_2 hT_2 hF_2 hr; exfalso; omega
    | succ n ih2 =>
      intro q2_l1 q2_l1l q2_l1h s_2 hT_2 hF_2 hr
      refine ir_l (pc' := 3) rfl rfl rfl rfl rfl rfl ?_
      refine ir_k (pc' := 5) (v := (0, 8)) rfl rfl rfl (fun _ => rfl) ?_
      refine ir_c_gt (pt := 27) (pc' := 8) rfl rfl rfl (fun c1 => ?_) (fun c1 => ?_)
      · exact ir_vret rfl rfl ⟨rfl, hT_2, hF_2⟩
      · refine ir_l (pc' := 9) rfl rfl rfl rfl rfl rfl ?_
        refine ir_tgr (pc' := 12) rfl rfl rfl tf_4_1 a0k hT_2 (fun b2 b2e b2k => ?_)
        refine ir_l (pc' := 13) rfl rfl rfl rfl rfl rfl ?_
        refine ir_l (pc' := 14) rfl rfl rfl rfl rfl rfl ?_
        refine ir_getR (pc' := 17) rfl rfl rfl (gG_at a0k) rfl b2e ?_
        refine ir_l (pc' := 18) rfl rfl rfl rfl rfl rfl ?_
        refine ir_tla (pc' := 19) rfl rfl te_6 (by decide) b2k hT_2 (by omega) (by omega) (fun z3 z3e z3l z3h => ?_)
        clear z3e
        refine ir_lnegA (pc' := 20) rfl rfl (fun z4 z4l z4h => ?_)
        refine ir_tls (pc' := 21) rfl rfl te_6 b2k hT_2 (by omega) (by omega) (by omega) (by omega) (fun s5 hT5 r5 o5 => ?_)
        have hF5 := fr_row hF_2 r5 o5
        have e6 : s5.1 a0 1 = ((b2 : Nat) : Int) := by rw [r5]; exact b2e
        refine ir_inc (pc' := 24) rfl rfl rfl rfl rfl (by omega) (by omega) ?_
        refine ir_goto (pc' := 2) rfl rfl ?_
        refine ir_w [(0, (2, ((a0 : Nat) : Int))), (1, (0, (q2_l1 + 1)))] ⟨rfl, rfl, trivial⟩ ?_
        exact ih2 ((q2_l1 + 1)) (by omega) (by omega) s5 hT5 hF5 (by omega)
  refine ir_k (pc' := 1) (v := (0, 0)) rfl rfl rfl (fun _ => rfl) ?_
  refine ir_s (pc' := 2) rfl rfl rfl rfl rfl rfl ?_
  refine ir_w [(0, (2, ((a0 : Nat) : Int))), (1, (0, 0))] ⟨rfl, rfl, trivial⟩ ?_
  exact J2 _ (0) (by omega) (by omega) s0 hT0 hF0 (Int.self_le_toNat _)
theorem sf_raise7 (L : Nat) (ys : Nat → Int32) (d : Nat) (s0 : im_S) (hT0 : tI s0) (a1 : Nat) (a1k : gK[a1]? = some 4) (x2 : Int) (x2l : -2147483648 ≤ x2) (x2h : x2 ≤ 2147483647) (x3 : Int) (x3l : 0 ≤ x3) (x3h : x3 ≤ 400) (pr0 : s0.1 2 2 ≤ s0.1 2 1) (pr1 : (s0.1 2 4 ≠ 0 ∨ s0.1 2 3 = 0 ∨ s0.1 2 2 < s0.1 2 1)) : icV gG rm_P L ys (d + 4) 190 [(2, ((2 : Nat) : Int)), (2, (a1 : Int)), (0, x2), (0, x3)] s0 (fun s => tI s ∧ fr [(2, 3), (2, 4), (2, 5), (4, 0)] s0 s ∧ s.1 2 2 ≤ s.1 2 1 ∧ (s.1 2 4 ≠ 0 ∨ s.1 2 3 = 0 ∨ s.1 2 2 < s.1 2 1)) := by
  refine ic_startM (M := rm_p_X7_raise) om_X7_raise (Nat.le_of_ble_eq_true rfl) ?_
  refine ir_w [(0, (2, ((2 : Nat) : Int))), (1, (2, ((a1 : Nat) : Int))), (2, (0, x2)), (3, (0, x3))] ⟨rfl, rfl, rfl, rfl, trivial⟩ ?_
  have hF0 := fr_refl [(2, 3), (2, 4), (2, 5), (4, 0)] s0
  have J96 : ∀ (s_96 : im_S) (hT_96 : tI s_96) (hF_96 : fr [(2, 3), (2, 4), (2, 5), (4, 0)] s0 s_96) (w96_2_1 : Int) (w96_2_1l : 0 ≤ w96_2_1) (w96_2_1h : w96_2_1 ≤ 400) (w96_2_1e : s_96.1 2 1 = w96_2_1) (w96_2_2 : Int) (w96_2_2l : 0 ≤ w96_2_2) (w96_2_2h : w96_2_2 ≤ 400) (w96_2_2e : s_96.1 2 2 = w96_2_2) (w96_2_3 : Int) (w96_2_3l : 0 ≤ w96_2_3) (w96_2_3h : w96_2_3 ≤ 65535) (w96_2_3e : s_96.1 2 3 = w96_2_3) (w96_2_4 : Int) (w96_2_4l : 0 ≤ w96_2_4) (w96_2_4h : w96_2_4 ≤ 3) (w96_2_4e : s_96.1 2 4 = w96_2_4) (w96_2_7 : Nat) (w96_2_7k : gK[w96_2_7]? = some 4) (w96_2_7e : s_96.1 2 7 = ((w96_2_7 : Nat) : Int)) (i96_0 : w96_2_2 ≤ w96_2_1) (i96_1 : (w96_2_4 ≠ 0 ∨ w96_2_3 = 0 ∨ w96_2_2 < w96_2_1)), ir gG rm_P L ys (d + 3) rm_p_X7_raise (96, [], [], s_96) (fun r : im_Re => r.1 = none ∧ (tI r.2 ∧ fr [(2, 3), (2, 4), (2, 5), (4, 0)] s0 r.2 ∧ r.2.1 2 2 ≤ r.2.1 2 1 ∧ (r.2.1 2 4 ≠ 0 ∨ r.2.1 2 3 = 0 ∨ r.2.1 2 2 < r.2.1 2 1))) := by
    intro s_96 hT_96 hF_96 w96_2_1 w96_2_1l w96_2_1h w96_2_1e w96_2_2 w96_2_2l w96_2_2h w96_2_2e w96_2_3 w96_2_3l w96_2_3h w96_2_3e w96_2_4 w96_2_4l w96_2_4h w96_2_4e w96_2_7 w96_2_7k w96_2_7e i96_0 i96_1
    exact ir_vret rfl rfl ⟨rfl, hT_96, hF_96, (by first | omega | (dsimp only; omega)), (by first | omega | (dsimp only; omega))⟩
  have J66 : ∀ n : Nat, ∀ (q66_l4 : Int) (q66_l4l : -2147483648 ≤ q66_l4) (q66_l4h : q66_l4 ≤ 2147483647) (q66_l5 : Int) (q66_l5l : 1 ≤ q66_l5) (q66_l5h : q66_l5 ≤ 2147483647) (s_66 : im_S) (hT_66 : tI s_66) (hF_66 : fr [(2, 3), (2, 4), (2, 5), (4, 0)] s0 s_66) (w66_2_1 : Int) (w66_2_1l : 0 ≤ w66_2_1) (w66_2_1h : w66_2_1 ≤ 400) (w66_2_1e : s_66.1 2 1 = w66_2_1) (w66_2_2 : Int) (w66_2_2l : 0 ≤ w66_2_2) (w66_2_2h : w66_2_2 ≤ 400) (w66_2_2e : s_66.1 2 2 = w66_2_2) (w66_2_3 : Int) (w66_2_3l : 0 ≤ w66_2_3) (w66_2_3h : w66_2_3 ≤ 65535) (w66_2_3e : s_66.1 2 3 = w66_2_3) (w66_2_4 : Int) (w66_2_4l : 0 ≤ w66_2_4) (w66_2_4h : w66_2_4 ≤ 3) (w66_2_4e : s_66.1 2 4 = w66_2_4) (w66_2_7 : Nat) (w66_2_7k : gK[w66_2_7]? = some 4) (w66_2_7e : s_66.1 2 7 = ((w66_2_7 : Nat) : Int)) (i66_0 : w66_2_2 ≤ w66_2_1) (i66_1 : (w66_2_4 ≠ 0 ∨ w66_2_3 = 0 ∨ w66_2_2 < w66_2_1)), (2147483647 + 1 - q66_l5) ≤ (n : Int) → ir gG rm_P L ys (d + 3) rm_p_X7_raise (66, [(0, (2, ((2 : Nat) : Int))), (1, (2, ((a1 : Nat) : Int))), (3, (0, x3)), (4, (0, q66_l4)), (5, (0, q66_l5))], [], s_66) (fun r : im_Re => r.1 = none ∧ (tI r.2 ∧ fr [(2, 3), (2, 4), (2, 5), (4, 0)] s0 r.2 ∧ r.2.1 2 2 ≤ r.2.1 2 1 ∧ (r.2.1 2 4 ≠ 0 ∨ r.2.1 2 3 = 0 ∨ r.2.1 2 2 < r.2.1 2 1))) := by
    intro n
    induction n with
    | zero => intro q66_l4 q66_l4l q66_l4h q66_l5 q66_l5l q66_l5h s_66 hT_66 hF_66 w66_2_1 w66_2_1l w66_2_1h w66_2_1e w66_2_2 w66_2_2l w66_2_2h w66_2_2e w66_2_3 w66_2_3l w66_2_3h w66_2_3e w66_2_4 w66_2_4l w66_2_4h w66_2_4e w66_2_7 w66_2_7k w66_2_7e i66_0 i66_1 hr; exfalso; omega
    | succ n ih66 =>
      intro q66_l4 q66_l4l q66_l4h q66_l5 q66_l5l q66_l5h s_66 hT_66 hF_66 w66_2_1 w66_2_1l w66_2_1h w66_2_1e w66_2_2 w66_2_2l w66_2_2h w66_2_2e w66_2_3 w66_2_3l w66_2_3h w66_2_3e w66_2_4 w66_2_4l w66_2_4h w66_2_4e w66_2_7 w66_2_7k w66_2_7e i66_0 i66_1 hr
      refine ir_l (pc' := 68) rfl rfl rfl rfl rfl rfl ?_
      refine ir_l (pc' := 70) rfl rfl rfl rfl rfl rfl ?_
      refine ir_c_ge (pt := 96) (pc' := 73) rfl rfl rfl (fun c1 => ?_) (fun c1 => ?_)
      · refine ir_w [] trivial ?_
        exact J96 s_66 hT_66 hF_66 (w66_2_1) (by omega) (by omega) w66_2_1e (w66_2_2) (by omega) (by omega) w66_2_2e (w66_2_3) (by omega) (by omega) w66_2_3e (w66_2_4) (by omega) (by omega) w66_2_4e w66_2_7 w66_2_7k w66_2_7e (by omega) (by omega)
      · refine ir_l (pc' := 74) rfl rfl rfl rfl rfl rfl ?_
        refine ir_getI (pc' := 77) rfl rfl rfl (gG_at tsk_2) rfl (by decide) (by decide) w66_2_4e (by omega) (by omega) ?_
        refine ir_z_ne (pt := 96) (pc' := 80) rfl rfl rfl (fun c2 => ?_) (fun c2 => ?_)
        · refine ir_w [] trivial ?_
          exact J96 s_66 hT_66 hF_66 (w66_2_1) (by omega) (by omega) w66_2_1e (w66_2_2) (by omega) (by omega) w66_2_2e (w66_2_3) (by omega) (by omega) w66_2_3e (w66_2_4) (by omega) (by omega) w66_2_4e w66_2_7 w66_2_7k w66_2_7e (by omega) (by omega)
        · refine ir_l (pc' := 81) rfl rfl rfl rfl rfl rfl ?_
          refine ir_l (pc' := 82) rfl rfl rfl rfl rfl rfl ?_
          refine ir_l (pc' := 83) rfl rfl rfl rfl rfl rfl ?_
          refine ir_getR (pc' := 86) rfl rfl rfl (gG_at tsk_2) rfl w66_2_7e ?_
          refine ir_l (pc' := 87) rfl rfl rfl rfl rfl rfl ?_
          refine ir_cVV (pc' := 90) rfl rfl rfl rfl rfl (Nat.le_of_ble_eq_true rfl) oo_X7_multiply (gG_at tsk_2) (sf_multiply7 L ys d s_66 hT_66 a1 a1k w66_2_7 w66_2_7k (x3) (by omega) (by omega) (by omega) (by omega)) (fun s4 hr => ?_)
          obtain ⟨hT4, hG4, p4_0, p4_1⟩ := hr
          have hF4 := fr_trans hF_66 hG4 (by decide)
          have e5 : s4.1 2 1 = w66_2_1 := (hG4.1 _ _ tsk_2 1 (by decide)).trans w66_2_1e
          have e6 : s4.1 2 2 = w66_2_2 := (hG4.1 _ _ tsk_2 2 (by decide)).trans w66_2_2e
          have e7 : s4.1 2 7 = ((w66_2_7 : Nat) : Int) := (hG4.1 _ _ tsk_2 7 (by decide)).trans w66_2_7e
          obtain ⟨z8, z8e, z8l, z8h⟩ := tI_i tf_2_3 tsk_2 hT4
          obtain ⟨z9, z9e, z9l, z9h⟩ := tI_i tf_2_4 tsk_2 hT4
          refine ir_inc (pc' := 93) rfl rfl rfl rfl rfl (by omega) (by omega) ?_
          refine ir_goto (pc' := 66) rfl rfl ?_
          refine ir_w [(0, (2, ((2 : Nat) : Int))), (1, (2, ((a1 : Nat) : Int))), (3, (0, x3)), (4, (0, q66_l4)), (5, (0, (q66_l5 + 1)))] ⟨rfl, rfl, rfl, rfl, rfl, trivial⟩ ?_
          exact ih66 (q66_l4) (by omega) (by omega) ((q66_l5 + 1)) (by omega) (by omega) s4 hT4 hF4 (w66_2_1) (by omega) (by omega) e5 (w66_2_2) (by omega) (by omega) e6 (z8) (by omega) (by omega) z8e (z9) (by omega) (by omega) z9e w66_2_7 w66_2_7k e7 (by omega) (by omega) (by omega)
  have J63 : ∀ (q63_l4 : Int) (q63_l4l : -2147483648 ≤ q63_l4) (q63_l4h : q63_l4 ≤ 2147483647) (s_63 : im_S) (hT_63 : tI s_63) (hF_63 : fr [(2, 3), (2, 4), (2, 5), (4, 0)] s0 s_63) (w63_2_1 : Int) (w63_2_1l : 0 ≤ w63_2_1) (w63_2_1h : w63_2_1 ≤ 400) (w63_2_1e : s_63.1 2 1 = w63_2_1) (w63_2_2 : Int) (w63_2_2l : 0 ≤ w63_2_2) (w63_2_2h : w63_2_2 ≤ 400) (w63_2_2e : s_63.1 2 2 = w63_2_2) (w63_2_3 : Int) (w63_2_3l : 0 ≤ w63_2_3) (w63_2_3h : w63_2_3 ≤ 65535) (w63_2_3e : s_63.1 2 3 = w63_2_3) (w63_2_4 : Int) (w63_2_4l : 0 ≤ w63_2_4) (w63_2_4h : w63_2_4 ≤ 0) (w63_2_4e : s_63.1 2 4 = w63_2_4) (w63_2_7 : Nat) (w63_2_7k : gK[w63_2_7]? = some 4) (w63_2_7e : s_63.1 2 7 = ((w63_2_7 : Nat) : Int)) (i63_0 : w63_2_2 ≤ w63_2_1) (i63_1 : (w63_2_4 ≠ 0 ∨ w63_2_3 = 0 ∨ w63_2_2 < w63_2_1)), ir gG rm_P L ys (d + 3) rm_p_X7_raise (63, [(0, (2, ((2 : Nat) : Int))), (1, (2, ((a1 : Nat) : Int))), (3, (0, x3)), (4, (0, q63_l4))], [], s_63) (fun r : im_Re => r.1 = none ∧ (tI r.2 ∧ fr [(2, 3), (2, 4), (2, 5), (4, 0)] s0 r.2 ∧ r.2.1 2 2 ≤ r.2.1 2 1 ∧ (r.2.1 2 4 ≠ 0 ∨ r.2.1 2 3 = 0 ∨ r.2.1 2 2 < r.2.1 2 1))) := by
    intro q63_l4 q63_l4l q63_l4h s_63 hT_63 hF_63 w63_2_1 w63_2_1l w63_2_1h w63_2_1e w63_2_2 w63_2_2l w63_2_2h w63_2_2e w63_2_3 w63_2_3l w63_2_3h w63_2_3e w63_2_4 w63_2_4l w63_2_4h w63_2_4e w63_2_7 w63_2_7k w63_2_7e i63_0 i63_1
    refine ir_k (pc' := 64) (v := (0, 1)) rfl rfl rfl (fun _ => rfl) ?_
    refine ir_s (pc' := 66) rfl rfl rfl rfl rfl rfl ?_
    refine ir_w [(0, (2, ((2 : Nat) : Int))), (1, (2, ((a1 : Nat) : Int))), (3, (0, x3)), (4, (0, q63_l4)), (5, (0, 1))] ⟨rfl, rfl, rfl, rfl, rfl, trivial⟩ ?_
    exact J66 _ (q63_l4) (by omega) (by omega) (1) (by omega) (by omega) s_63 hT_63 hF_63 (w63_2_1) (by omega) (by omega) w63_2_1e (w63_2_2) (by omega) (by omega) w63_2_2e (w63_2_3) (by omega) (by omega) w63_2_3e (w63_2_4) (by omega) (by omega) w63_2_4e w63_2_7 w63_2_7k w63_2_7e (by omega) (by omega) (Int.self_le_toNat _)
  obtain ⟨z10, z10e, z10l, z10h⟩ := tI_i tf_2_1 tsk_2 hT0
  obtain ⟨z11, z11e, z11l, z11h⟩ := tI_i tf_2_2 tsk_2 hT0
  obtain ⟨z12, z12e, z12l, z12h⟩ := tI_i tf_2_3 tsk_2 hT0
  obtain ⟨z13, z13e, z13l, z13h⟩ := tI_i tf_2_4 tsk_2 hT0
  refine ir_l (pc' := 1) rfl rfl rfl rfl rfl rfl ?_
  refine ir_getI (pc' := 4) rfl rfl rfl (gG_at tsk_2) rfl (by decide) (by decide) z13e (by omega) (by omega) ?_
  refine ir_z_eq (pt := 8) (pc' := 7) rfl rfl rfl (fun c14 => ?_) (fun c14 => ?_)
  · refine ir_l (pc' := 9) rfl rfl rfl rfl rfl rfl ?_
    refine ir_z_ne (pt := 18) (pc' := 12) rfl rfl rfl (fun c15 => ?_) (fun c15 => ?_)
    · refine ir_l (pc' := 19) rfl rfl rfl rfl rfl rfl ?_
      refine ir_tgr (pc' := 22) rfl rfl rfl tf_2_7 tsk_2 hT0 (fun b16 b16e b16k => ?_)
      refine ir_l (pc' := 23) rfl rfl rfl rfl rfl rfl ?_
      refine ir_cVV (pc' := 26) rfl rfl rfl rfl rfl (Nat.le_of_ble_eq_true rfl) oo_X6_copy (gG_at b16k) (sf_copy6 L ys (d + 2) s0 hT0 b16 b16k a1 a1k ) (fun s18 hr => ?_)
      obtain ⟨hT18, hG18⟩ := hr
      have hF18 := fr_trans hF0 hG18 (by decide)
      have e19 : s18.1 2 1 = z10 := (hG18.1 _ _ tsk_2 1 (by decide)).trans z10e
      have e20 : s18.1 2 2 = z11 := (hG18.1 _ _ tsk_2 2 (by decide)).trans z11e
      have e21 : s18.1 2 3 = z12 := (hG18.1 _ _ tsk_2 3 (by decide)).trans z12e
      have e22 : s18.1 2 4 = z13 := (hG18.1 _ _ tsk_2 4 (by decide)).trans z13e
      have e23 : s18.1 2 7 = ((b16 : Nat) : Int) := (hG18.1 _ _ tsk_2 7 (by decide)).trans b16e
      refine ir_l (pc' := 27) rfl rfl rfl rfl rfl rfl ?_
      refine ir_s (pc' := 29) rfl rfl rfl rfl rfl rfl ?_
      refine ir_l (pc' := 30) rfl rfl rfl rfl rfl rfl ?_
      refine ir_getR (pc' := 33) rfl rfl rfl (gG_at tsk_2) rfl e23 ?_
      refine ir_tgi (pc' := 36) rfl rfl rfl tf_4_0 b16k hT18 (fun z24 z24e z24l z24h => ?_)
      refine ir_z_gt (pt := 63) (pc' := 39) rfl rfl rfl (fun c25 => ?_) (fun c25 => ?_)
      · refine ir_w [(0, (2, ((2 : Nat) : Int))), (1, (2, ((a1 : Nat) : Int))), (3, (0, x3)), (4, (0, x2))] ⟨rfl, rfl, rfl, rfl, trivial⟩ ?_
        exact J63 (x2) (by omega) (by omega) s18 hT18 hF18 (z10) (by omega) (by omega) e19 (z11) (by omega) (by omega) e20 (z12) (by omega) (by omega) e21 (z13) (by omega) (by omega) e22 b16 b16k e23 (by omega) (by omega)
      · refine ir_l (pc' := 40) rfl rfl rfl rfl rfl rfl ?_
        refine ir_getR (pc' := 43) rfl rfl rfl (gG_at tsk_2) rfl e23 ?_
        refine ir_tgr (pc' := 46) rfl rfl rfl tf_4_1 b16k hT18 (fun b26 b26e b26k => ?_)
        refine ir_k (pc' := 47) (v := (0, 0)) rfl rfl rfl (fun _ => rfl) ?_
        refine ir_tla (pc' := 48) rfl rfl te_6 (by decide) b26k hT18 (by omega) (by omega) (fun z27 z27e z27l z27h => ?_)
        clear z27e
        refine ir_cSI (pc' := 51) rfl rfl rfl rfl rfl rfl (Nat.le_of_ble_eq_true rfl) (sf_absJ L ys (d + 2) s18 (z27) (by omega) (by omega)) (fun z28 s29 hr => ?_)
        obtain ⟨rfl, z28p0, z28p1, z28p2⟩ := hr
        refine ir_k (pc' := 52) (v := (1, 1)) rfl rfl rfl (fun _ => rfl) ?_
        refine ir_lcmp (pc' := 53) rfl rfl (by omega) (by omega) (by omega) (by omega) (fun z30 z30c => ?_)
        refine ir_z_gt (pt := 63) (pc' := 56) rfl rfl rfl (fun c31 => ?_) (fun c31 => ?_)
        · refine ir_w [(0, (2, ((2 : Nat) : Int))), (1, (2, ((a1 : Nat) : Int))), (3, (0, x3)), (4, (0, x2))] ⟨rfl, rfl, rfl, rfl, trivial⟩ ?_
          exact J63 (x2) (by omega) (by omega) s18 hT18 hF18 (z10) (by omega) (by omega) e19 (z11) (by omega) (by omega) e20 (z12) (by omega) (by omega) e21 (z13) (by omega) (by omega) e22 b16 b16k e23 (by omega) (by omega)
        · refine ir_k (pc' := 57) (v := (0, 2)) rfl rfl rfl (fun _ => rfl) ?_
          refine ir_l (pc' := 58) rfl rfl rfl rfl rfl rfl ?_
          refine ir_k (pc' := 59) (v := (0, 2)) rfl rfl rfl (fun _ => rfl) ?_
          refine ir_remA (pc' := 60) rfl rfl (by omega) (by omega) (by omega) (by omega) (fun z32 z32l z32h => ?_)
          refine ir_sub (pc' := 61) rfl rfl (by omega) (by omega) ?_
          refine ir_s (pc' := 63) rfl rfl rfl rfl rfl rfl ?_
          refine ir_w [(0, (2, ((2 : Nat) : Int))), (1, (2, ((a1 : Nat) : Int))), (3, (0, x3)), (4, (0, (2 - z32)))] ⟨rfl, rfl, rfl, rfl, trivial⟩ ?_
          exact J63 ((2 - z32)) (by omega) (by omega) s18 hT18 hF18 (z10) (by omega) (by omega) e19 (z11) (by omega) (by omega) e20 (z12) (by omega) (by omega) e21 (z13) (by omega) (by omega) e22 b16 b16k e23 (by omega) (by omega)
    · refine ir_l (pc' := 13) rfl rfl rfl rfl rfl rfl ?_
      refine ir_k (pc' := 14) (v := (1, 1)) rfl rfl rfl (fun _ => rfl) ?_
      refine ir_cVV (pc' := 17) rfl rfl rfl rfl rfl (Nat.le_of_ble_eq_true rfl) oo_X6_setConstant (gG_at a1k) (sf_setConstant6 L ys (d + 2) s0 hT0 a1 a1k (1) (by omega) (by omega) ) (fun s34 hr => ?_)
      obtain ⟨hT34, hG34⟩ := hr
      have hF34 := fr_trans hF0 hG34 (by decide)
      have e35 : s34.1 2 1 = z10 := (hG34.1 _ _ tsk_2 1 (by decide)).trans z10e
      have e36 : s34.1 2 2 = z11 := (hG34.1 _ _ tsk_2 2 (by decide)).trans z11e
      have e37 : s34.1 2 3 = z12 := (hG34.1 _ _ tsk_2 3 (by decide)).trans z12e
      have e38 : s34.1 2 4 = z13 := (hG34.1 _ _ tsk_2 4 (by decide)).trans z13e
      exact ir_vret rfl rfl ⟨rfl, hT34, hF34, (by first | omega | (dsimp only; omega)), (by first | omega | (dsimp only; omega))⟩
  · exact ir_vret rfl rfl ⟨rfl, hT0, hF0, (by first | omega | (dsimp only; omega)), (by first | omega | (dsimp only; omega))⟩
theorem sf_slot7 (L : Nat) (ys : Nat → Int32) (d : Nat) (s0 : im_S) (hT0 : tI s0) (x1 : Int) (x1l : -2147483648 ≤ x1) (x1h : x1 ≤ 2147483647) : icR gG rm_P L ys (d + 2) 201 [(2, ((2 : Nat) : Int)), (0, x1)] s0 (fun z s => tI s ∧ fr [] s0 s ∧ gK[z]? = some 4) := by
  refine ic_startM (M := rm_p_X7_slot) om_X7_slot (Nat.le_of_ble_eq_true rfl) ?_
  refine ir_w [(0, (2, ((2 : Nat) : Int))), (1, (0, x1))] ⟨rfl, rfl, trivial⟩ ?_
  have hF0 := fr_refl [] s0
  refine ir_l (pc' := 1) rfl rfl rfl rfl rfl rfl ?_
  refine ir_tgr (pc' := 4) rfl rfl rfl tf_2_6 tsk_2 hT0 (fun b1 b1e b1k => ?_)
  obtain rfl := tsg_5 b1k
  refine ir_k (pc' := 5) (v := (0, 0)) rfl rfl rfl (fun _ => rfl) ?_
  refine ir_l (pc' := 6) rfl rfl rfl rfl rfl rfl ?_
  refine ir_k (pc' := 8) (v := (0, 25)) rfl rfl rfl (fun _ => rfl) ?_
  refine ir_cSI (pc' := 11) rfl rfl rfl rfl rfl rfl (Nat.le_of_ble_eq_true rfl) (sf_min L ys d s0 (x1) (by omega) (by omega) (25) (by omega) (by omega)) (fun z2 s3 hr => ?_)
  obtain ⟨rfl, z2p0, z2p1, z2p2⟩ := hr
  refine ir_cSI (pc' := 14) rfl rfl rfl rfl rfl rfl (Nat.le_of_ble_eq_true rfl) (sf_max L ys d s0 (0) (by omega) (by omega) (z2) (by omega) (by omega)) (fun z4 s5 hr => ?_)
  obtain ⟨rfl, z4p0, z4p1, z4p2⟩ := hr
  refine ir_taa (pc' := 15) (k2 := 4) rfl rfl te_5 (by decide) tsk_5 hT0 (by omega) (by omega) (fun b6 b6k => ?_)
  exact ir_aret rfl rfl ⟨b6, rfl, hT0, hF0, b6k⟩
theorem sf_readNumber7 (L : Nat) (ys : Nat → Int32) (d : Nat) (s0 : im_S) (hT0 : tI s0) (pr0 : s0.1 2 2 ≤ s0.1 2 1) (pr1 : (s0.1 2 4 ≠ 0 ∨ s0.1 2 3 = 0 ∨ s0.1 2 2 < s0.1 2 1)) : icI gG rm_P L ys 0 (d + 6) 195 [(2, ((2 : Nat) : Int))] s0 (fun z s => tI s ∧ fr [(2, 2), (2, 3), (2, 4), (2, 5)] s0 s ∧ -2147483648 ≤ z ∧ z ≤ 2147483647 ∧ s.1 2 2 ≤ s.1 2 1 ∧ (s.1 2 4 ≠ 0 ∨ s.1 2 3 = 0 ∨ s.1 2 2 < s.1 2 1)) := by
  refine ic_startM (M := rm_p_X7_readNumber) om_X7_readNumber (Nat.le_of_ble_eq_true rfl) ?_
  refine ir_w [(0, (2, ((2 : Nat) : Int)))] ⟨rfl, trivial⟩ ?_
  have hF0 := fr_refl [(2, 2), (2, 3), (2, 4), (2, 5)] s0
  have J134 : ∀ (q134_l1 : Int) (q134_l1l : -2147483648 ≤ q134_l1) (q134_l1h : q134_l1 ≤ 2147483647) (s_134 : im_S) (hT_134 : tI s_134) (hF_134 : fr [(2, 2), (2, 3), (2, 4), (2, 5)] s0 s_134) (w134_2_1 : Int) (w134_2_1l : 0 ≤ w134_2_1) (w134_2_1h : w134_2_1 ≤ 400) (w134_2_1e : s_134.1 2 1 = w134_2_1) (w134_2_2 : Int) (w134_2_2l : 0 ≤ w134_2_2) (w134_2_2h : w134_2_2 ≤ 400) (w134_2_2e : s_134.1 2 2 = w134_2_2) (w134_2_3 : Int) (w134_2_3l : 0 ≤ w134_2_3) (w134_2_3h : w134_2_3 ≤ 65535) (w134_2_3e : s_134.1 2 3 = w134_2_3) (w134_2_4 : Int) (w134_2_4l : 0 ≤ w134_2_4) (w134_2_4h : w134_2_4 ≤ 3) (w134_2_4e : s_134.1 2 4 = w134_2_4) (i134_0 : (w134_2_4 ≠ 0 ∨ w134_2_3 = 0 ∨ w134_2_2 < w134_2_1)) (i134_1 : w134_2_2 ≤ w134_2_1), ir gG rm_P L ys (d + 5) rm_p_X7_readNumber (134, [(1, (0, q134_l1))], [], s_134) (fun r : im_Re => ∃ z, r.1 = some (0, z) ∧ (tI r.2 ∧ fr [(2, 2), (2, 3), (2, 4), (2, 5)] s0 r.2 ∧ -2147483648 ≤ z ∧ z ≤ 2147483647 ∧ r.2.1 2 2 ≤ r.2.1 2 1 ∧ (r.2.1 2 4 ≠ 0 ∨ r.2.1 2 3 = 0 ∨ r.2.1 2 2 < r.2.1 2 1))) := by
    intro q134_l1 q134_l1l q134_l1h s_134 hT_134 hF_134 w134_2_1 w134_2_1l w134_2_1h w134_2_1e w134_2_2 w134_2_2l w134_2_2h w134_2_2e w134_2_3 w134_2_3l w134_2_3h w134_2_3e w134_2_4 w134_2_4l w134_2_4h w134_2_4e i134_0 i134_1
    refine ir_l (pc' := 135) rfl rfl rfl rfl rfl rfl ?_
    exact ir_iret rfl rfl ⟨_, rfl, hT_134, hF_134, by omega, by omega, (by first | omega | (dsimp only; omega)), (by first | omega | (dsimp only; omega))⟩
  have J130 : ∀ (q130_l1 : Int) (q130_l1l : -2147483648 ≤ q130_l1) (q130_l1h : q130_l1 ≤ 2147483647) (s_130 : im_S) (hT_130 : tI s_130) (hF_130 : fr [(2, 2), (2, 3), (2, 4), (2, 5)] s0 s_130) (w130_2_1 : Int) (w130_2_1l : 0 ≤ w130_2_1) (w130_2_1h : w130_2_1 ≤ 400) (w130_2_1e : s_130.1 2 1 = w130_2_1) (w130_2_2 : Int) (w130_2_2l : 0 ≤ w130_2_2) (w130_2_2h : w130_2_2 ≤ 400) (w130_2_2e : s_130.1 2 2 = w130_2_2) (w130_2_3 : Int) (w130_2_3l : 0 ≤ w130_2_3) (w130_2_3h : w130_2_3 ≤ 65535) (w130_2_3e : s_130.1 2 3 = w130_2_3) (w130_2_4 : Int) (w130_2_4l : 0 ≤ w130_2_4) (w130_2_4h : w130_2_4 ≤ 3) (w130_2_4e : s_130.1 2 4 = w130_2_4) (i130_0 : w130_2_2 ≤ w130_2_1), ir gG rm_P L ys (d + 5) rm_p_X7_readNumber (130, [(0, (2, ((2 : Nat) : Int))), (1, (0, q130_l1))], [], s_130) (fun r : im_Re => ∃ z, r.1 = some (0, z) ∧ (tI r.2 ∧ fr [(2, 2), (2, 3), (2, 4), (2, 5)] s0 r.2 ∧ -2147483648 ≤ z ∧ z ≤ 2147483647 ∧ r.2.1 2 2 ≤ r.2.1 2 1 ∧ (r.2.1 2 4 ≠ 0 ∨ r.2.1 2 3 = 0 ∨ r.2.1 2 2 < r.2.1 2 1))) := by
    intro q130_l1 q130_l1l q130_l1h s_130 hT_130 hF_130 w130_2_1 w130_2_1l w130_2_1h w130_2_1e w130_2_2 w130_2_2l w130_2_2h w130_2_2e w130_2_3 w130_2_3l w130_2_3h w130_2_3e w130_2_4 w130_2_4l w130_2_4h w130_2_4e i130_0
    refine ir_l (pc' := 131) rfl rfl rfl rfl rfl rfl ?_
    refine ir_cVV (pc' := 134) rfl rfl rfl rfl rfl (Nat.le_of_ble_eq_true rfl) oo_X7_look (gG_at tsk_2) (sf_look7 L ys d s_130 hT_130  (by omega)) (fun s2 hr => ?_)
    obtain ⟨hT2, hG2, p2_0, p2_1⟩ := hr
    have hF2 := fr_trans hF_130 hG2 (by decide)
    have e3 : s2.1 2 1 = w130_2_1 := (hG2.1 _ _ tsk_2 1 (by decide)).trans w130_2_1e
    obtain ⟨z4, z4e, z4l, z4h⟩ := tI_i tf_2_2 tsk_2 hT2
    obtain ⟨z5, z5e, z5l, z5h⟩ := tI_i tf_2_3 tsk_2 hT2
    obtain ⟨z6, z6e, z6l, z6h⟩ := tI_i tf_2_4 tsk_2 hT2
    refine ir_w [(1, (0, q130_l1))] ⟨rfl, trivial⟩ ?_
    exact J134 (q130_l1) (by omega) (by omega) s2 hT2 hF2 (w130_2_1) (by omega) (by omega) e3 (z4) (by omega) (by omega) z4e (z5) (by omega) (by omega) z5e (z6) (by omega) (by omega) z6e (by omega) (by omega)
  have J92 : ∀ (q92_l1 : Int) (q92_l1l : -2147483648 ≤ q92_l1) (q92_l1h : q92_l1 ≤ 2147483647) (s_92 : im_S) (hT_92 : tI s_92) (hF_92 : fr [(2, 2), (2, 3), (2, 4), (2, 5)] s0 s_92) (w92_2_1 : Int) (w92_2_1l : 0 ≤ w92_2_1) (w92_2_1h : w92_2_1 ≤ 400) (w92_2_1e : s_92.1 2 1 = w92_2_1) (w92_2_2 : Int) (w92_2_2l : 0 ≤ w92_2_2) (w92_2_2h : w92_2_2 ≤ 400) (w92_2_2e : s_92.1 2 2 = w92_2_2) (w92_2_3 : Int) (w92_2_3l : 0 ≤ w92_2_3) (w92_2_3h : w92_2_3 ≤ 65535) (w92_2_3e : s_92.1 2 3 = w92_2_3) (w92_2_4 : Int) (w92_2_4l : 0 ≤ w92_2_4) (w92_2_4h : w92_2_4 ≤ 3) (w92_2_4e : s_92.1 2 4 = w92_2_4) (i92_0 : w92_2_2 ≤ w92_2_1), ir gG rm_P L ys (d + 5) rm_p_X7_readNumber (92, [(0, (2, ((2 : Nat) : Int))), (1, (0, q92_l1))], [], s_92) (fun r : im_Re => ∃ z, r.1 = some (0, z) ∧ (tI r.2 ∧ fr [(2, 2), (2, 3), (2, 4), (2, 5)] s0 r.2 ∧ -2147483648 ≤ z ∧ z ≤ 2147483647 ∧ r.2.1 2 2 ≤ r.2.1 2 1 ∧ (r.2.1 2 4 ≠ 0 ∨ r.2.1 2 3 = 0 ∨ r.2.1 2 2 < r.2.1 2 1))) := by
    intro q92_l1 q92_l1l q92_l1h s_92 hT_92 hF_92 w92_2_1 w92_2_1l w92_2_1h w92_2_1e w92_2_2 w92_2_2l w92_2_2h w92_2_2e w92_2_3 w92_2_3l w92_2_3h w92_2_3e w92_2_4 w92_2_4l w92_2_4h w92_2_4e i92_0
    refine ir_l (pc' := 93) rfl rfl rfl rfl rfl rfl ?_
    refine ir_getI (pc' := 96) rfl rfl rfl (gG_at tsk_2) rfl (by decide) (by decide) w92_2_2e (by omega) (by omega) ?_
    refine ir_l (pc' := 97) rfl rfl rfl rfl rfl rfl ?_
    refine ir_getI (pc' := 100) rfl rfl rfl (gG_at tsk_2) rfl (by decide) (by decide) w92_2_1e (by omega) (by omega) ?_
    refine ir_c_ge (pt := 130) (pc' := 103) rfl rfl rfl (fun c7 => ?_) (fun c7 => ?_)
    · refine ir_w [(0, (2, ((2 : Nat) : Int))), (1, (0, q92_l1))] ⟨rfl, rfl, trivial⟩ ?_
      exact J130 (q92_l1) (by omega) (by omega) s_92 hT_92 hF_92 (w92_2_1) (by omega) (by omega) w92_2_1e (w92_2_2) (by omega) (by omega) w92_2_2e (w92_2_3) (by omega) (by omega) w92_2_3e (w92_2_4) (by omega) (by omega) w92_2_4e (by omega)
    · refine ir_l (pc' := 104) rfl rfl rfl rfl rfl rfl ?_
      refine ir_tgr (pc' := 107) rfl rfl rfl tf_2_0 tsk_2 hT_92 (fun b8 b8e b8k => ?_)
      obtain rfl := tsg_3 b8k
      refine ir_l (pc' := 108) rfl rfl rfl rfl rfl rfl ?_
      refine ir_getI (pc' := 111) rfl rfl rfl (gG_at tsk_2) rfl (by decide) (by decide) w92_2_2e (by omega) (by omega) ?_
      refine ir_tca (pc' := 112) rfl rfl te_3 (by decide) tsk_3 hT_92 (by omega) (by omega) (fun z9 z9e z9l z9h => ?_)
      clear z9e
      refine ir_cSI (pc' := 115) rfl rfl rfl rfl rfl rfl (Nat.le_of_ble_eq_true rfl) (sf_isDigit7 L ys (d + 4) s_92 hT_92 (z9) (by omega) (by omega) ) (fun z10 s11 hr => ?_)
      obtain ⟨hT11, hG11, z10l, z10h⟩ := hr
      have hF11 := fr_trans hF_92 hG11 (by decide)
      have e12 : s11.1 2 1 = w92_2_1 := (hG11.1 _ _ tsk_2 1 (by decide)).trans w92_2_1e
      have e13 : s11.1 2 2 = w92_2_2 := (hG11.1 _ _ tsk_2 2 (by decide)).trans w92_2_2e
      have e14 : s11.1 2 3 = w92_2_3 := (hG11.1 _ _ tsk_2 3 (by decide)).trans w92_2_3e
      have e15 : s11.1 2 4 = w92_2_4 := (hG11.1 _ _ tsk_2 4 (by decide)).trans w92_2_4e
      have e16 : s11.1 2 0 = ((3 : Nat) : Int) := (hG11.1 _ _ tsk_2 0 (by decide)).trans b8e
      refine ir_z_eq (pt := 130) (pc' := 118) rfl rfl rfl (fun c17 => ?_) (fun c17 => ?_)
      · refine ir_w [(0, (2, ((2 : Nat) : Int))), (1, (0, q92_l1))] ⟨rfl, rfl, trivial⟩ ?_
        exact J130 (q92_l1) (by omega) (by omega) s11 hT11 hF11 (w92_2_1) (by omega) (by omega) e12 (w92_2_2) (by omega) (by omega) e13 (w92_2_3) (by omega) (by omega) e14 (w92_2_4) (by omega) (by omega) e15 (by omega)
      · refine ir_l (pc' := 119) rfl rfl rfl rfl rfl rfl ?_
        refine ir_k (pc' := 120) (v := (0, 1)) rfl rfl rfl (fun _ => rfl) ?_
        refine ir_l (pc' := 121) rfl rfl rfl rfl rfl rfl ?_
        refine ir_getI (pc' := 124) rfl rfl rfl (gG_at tsk_2) rfl (by decide) (by decide) e13 (by omega) (by omega) ?_
        refine ir_cVV (pc' := 127) rfl rfl rfl rfl rfl (Nat.le_of_ble_eq_true rfl) oo_X7_fail (gG_at tsk_2) (sf_fail7 L ys (d + 4) s11 hT11 (1) (by omega) (by omega) (w92_2_2) (by omega) (by omega) ) (fun s19 hr => ?_)
        obtain ⟨hT19, hG19, p19_0⟩ := hr
        have hF19 := fr_trans hF11 hG19 (by decide)
        have e20 : s19.1 2 1 = w92_2_1 := (hG19.1 _ _ tsk_2 1 (by decide)).trans e12
        have e21 : s19.1 2 2 = w92_2_2 := (hG19.1 _ _ tsk_2 2 (by decide)).trans e13
        have e22 : s19.1 2 0 = ((3 : Nat) : Int) := (hG19.1 _ _ tsk_2 0 (by decide)).trans e16
        obtain ⟨z23, z23e, z23l, z23h⟩ := tI_i tf_2_3 tsk_2 hT19
        obtain ⟨z24, z24e, z24l, z24h⟩ := tI_i tf_2_4 tsk_2 hT19
        refine ir_goto (pc' := 134) rfl rfl ?_
        refine ir_w [(1, (0, q92_l1))] ⟨rfl, trivial⟩ ?_
        exact J134 (q92_l1) (by omega) (by omega) s19 hT19 hF19 (w92_2_1) (by omega) (by omega) e20 (w92_2_2) (by omega) (by omega) e21 (z23) (by omega) (by omega) z23e (z24) (by omega) (by omega) z24e (by omega) (by omega)
  have J38 : ∀ n : Nat, ∀ (q38_l1 : Int) (q38_l1l : -2147483648 ≤ q38_l1) (q38_l1h : q38_l1 ≤ 2147483647) (q38_l2 : Int) (q38_l2l : 0 ≤ q38_l2) (q38_l2h : q38_l2 ≤ 400) (s_38 : im_S) (hT_38 : tI s_38) (hF_38 : fr [(2, 2), (2, 3), (2, 4), (2, 5)] s0 s_38) (w38_2_1 : Int) (w38_2_1l : 0 ≤ w38_2_1) (w38_2_1h : w38_2_1 ≤ 400) (w38_2_1e : s_38.1 2 1 = w38_2_1) (w38_2_2 : Int) (w38_2_2l : 0 ≤ w38_2_2) (w38_2_2h : w38_2_2 ≤ 400) (w38_2_2e : s_38.1 2 2 = w38_2_2) (w38_2_3 : Int) (w38_2_3l : 0 ≤ w38_2_3) (w38_2_3h : w38_2_3 ≤ 65535) (w38_2_3e : s_38.1 2 3 = w38_2_3) (w38_2_4 : Int) (w38_2_4l : 0 ≤ w38_2_4) (w38_2_4h : w38_2_4 ≤ 3) (w38_2_4e : s_38.1 2 4 = w38_2_4) (i38_0 : q38_l2 ≤ w38_2_1) (i38_1 : w38_2_2 ≤ w38_2_1), (401 - w38_2_2) ≤ (n : Int) → ir gG rm_P L ys (d + 5) rm_p_X7_readNumber (38, [(0, (2, ((2 : Nat) : Int))), (1, (0, q38_l1)), (2, (0, q38_l2))], [], s_38) (fun r : im_Re => ∃ z, r.1 = some (0, z) ∧ (tI r.2 ∧ fr [(2, 2), (2, 3), (2, 4), (2, 5)] s0 r.2 ∧ -2147483648 ≤ z ∧ z ≤ 2147483647 ∧ r.2.1 2 2 ≤ r.2.1 2 1 ∧ (r.2.1 2 4 ≠ 0 ∨ r.2.1 2 3 = 0 ∨ r.2.1 2 2 < r.2.1 2 1))) := by
    intro n
    induction n with
    | zero => intro q38_l1 q38_l1l q38_l1h q38_l2 q38_l2l q38_l2h s_38 hT_38 hF_38 w38_2_1 w38_2_1l w38_2_1h w38_2_1e w38_2_2 w38_2_2l w38_2_2h w38_2_2e w38_2_3 w38_2_3l w38_2_3h w38_2_3e w38_2_4 w38_2_4l w38_2_4h w38_2_4e i38_0 i38_1 hr; exfalso; omega
    | succ n ih38 =>
      intro q38_l1 q38_l1l q38_l1h q38_l2 q38_l2l q38_l2h s_38 hT_38 hF_38 w38_2_1 w38_2_1l w38_2_1h w38_2_1e w38_2_2 w38_2_2l w38_2_2h w38_2_2e w38_2_3 w38_2_3l w38_2_3h w38_2_3e w38_2_4 w38_2_4l w38_2_4h w38_2_4e i38_0 i38_1 hr
      refine ir_l (pc' := 39) rfl rfl rfl rfl rfl rfl ?_
      refine ir_getI (pc' := 42) rfl rfl rfl (gG_at tsk_2) rfl (by decide) (by decide) w38_2_2e (by omega) (by omega) ?_
      refine ir_l (pc' := 43) rfl rfl rfl rfl rfl rfl ?_
      refine ir_c_ge (pt := 92) (pc' := 46) rfl rfl rfl (fun c25 => ?_) (fun c25 => ?_)
      · refine ir_w [(0, (2, ((2 : Nat) : Int))), (1, (0, q38_l1))] ⟨rfl, rfl, trivial⟩ ?_
        exact J92 (q38_l1) (by omega) (by omega) s_38 hT_38 hF_38 (w38_2_1) (by omega) (by omega) w38_2_1e (w38_2_2) (by omega) (by omega) w38_2_2e (w38_2_3) (by omega) (by omega) w38_2_3e (w38_2_4) (by omega) (by omega) w38_2_4e (by omega)
      · refine ir_l (pc' := 47) rfl rfl rfl rfl rfl rfl ?_
        refine ir_tgr (pc' := 50) rfl rfl rfl tf_2_0 tsk_2 hT_38 (fun b26 b26e b26k => ?_)
        obtain rfl := tsg_3 b26k
        refine ir_l (pc' := 51) rfl rfl rfl rfl rfl rfl ?_
        refine ir_getI (pc' := 54) rfl rfl rfl (gG_at tsk_2) rfl (by decide) (by decide) w38_2_2e (by omega) (by omega) ?_
        refine ir_tca (pc' := 55) rfl rfl te_3 (by decide) tsk_3 hT_38 (by omega) (by omega) (fun z27 z27e z27l z27h => ?_)
        clear z27e
        refine ir_cSI (pc' := 58) rfl rfl rfl rfl rfl rfl (Nat.le_of_ble_eq_true rfl) (sf_isDigit7 L ys (d + 4) s_38 hT_38 (z27) (by omega) (by omega) ) (fun z28 s29 hr => ?_)
        obtain ⟨hT29, hG29, z28l, z28h⟩ := hr
        have hF29 := fr_trans hF_38 hG29 (by decide)
        have e30 : s29.1 2 1 = w38_2_1 := (hG29.1 _ _ tsk_2 1 (by decide)).trans w38_2_1e
        have e31 : s29.1 2 2 = w38_2_2 := (hG29.1 _ _ tsk_2 2 (by decide)).trans w38_2_2e
        have e32 : s29.1 2 3 = w38_2_3 := (hG29.1 _ _ tsk_2 3 (by decide)).trans w38_2_3e
        have e33 : s29.1 2 4 = w38_2_4 := (hG29.1 _ _ tsk_2 4 (by decide)).trans w38_2_4e
        have e34 : s29.1 2 0 = ((3 : Nat) : Int) := (hG29.1 _ _ tsk_2 0 (by decide)).trans b26e
        refine ir_z_eq (pt := 92) (pc' := 61) rfl rfl rfl (fun c35 => ?_) (fun c35 => ?_)
        · refine ir_w [(0, (2, ((2 : Nat) : Int))), (1, (0, q38_l1))] ⟨rfl, rfl, trivial⟩ ?_
          exact J92 (q38_l1) (by omega) (by omega) s29 hT29 hF29 (w38_2_1) (by omega) (by omega) e30 (w38_2_2) (by omega) (by omega) e31 (w38_2_3) (by omega) (by omega) e32 (w38_2_4) (by omega) (by omega) e33 (by omega)
        · refine ir_l (pc' := 62) rfl rfl rfl rfl rfl rfl ?_
          refine ir_k (pc' := 64) (v := (0, 10)) rfl rfl rfl (fun _ => rfl) ?_
          refine ir_iiA (pc' := 65) rfl rfl rfl rfl (fun z36 z36l z36h => ?_)
          refine ir_l (pc' := 66) rfl rfl rfl rfl rfl rfl ?_
          refine ir_getR (pc' := 69) rfl rfl rfl (gG_at tsk_2) rfl e34 ?_
          refine ir_l (pc' := 70) rfl rfl rfl rfl rfl rfl ?_
          refine ir_getI (pc' := 73) rfl rfl rfl (gG_at tsk_2) rfl (by decide) (by decide) e31 (by omega) (by omega) ?_
          refine ir_tca (pc' := 74) rfl rfl te_3 (by decide) tsk_3 hT29 (by omega) (by omega) (fun z37 z37e z37l z37h => ?_)
          clear z37e
          refine ir_k (pc' := 76) (v := (0, 48)) rfl rfl rfl (fun _ => rfl) ?_
          refine ir_sub (pc' := 77) rfl rfl (by omega) (by omega) ?_
          refine ir_iiA (pc' := 78) rfl rfl rfl rfl (fun z38 z38l z38h => ?_)
          refine ir_s (pc' := 79) rfl rfl rfl rfl rfl rfl ?_
          refine ir_l (pc' := 80) rfl rfl rfl rfl rfl rfl ?_
          refine ir_x (pc' := 81) rfl rfl rfl (fun _ => rfl) ?_
          refine ir_getI (pc' := 84) rfl rfl rfl (gG_at tsk_2) rfl (by decide) (by decide) e31 (by omega) (by omega) ?_
          refine ir_k (pc' := 85) (v := (0, 1)) rfl rfl rfl (fun _ => rfl) ?_
          refine ir_add (pc' := 86) rfl rfl (by omega) (by omega) ?_
          refine ir_tpi (pc' := 89) rfl rfl rfl tf_2_2 rfl tsk_2 hT29 rfl (by omega) (by omega) (fun s39 hT39 e39 g39 r39 => ?_)
          have hF39 := fr_put (k := 2) hF29 (by decide) tsk_2 g39 r39
          have e40 : s39.1 2 1 = w38_2_1 := (g39 2 1 (fun z => absurd z.2 (by decide))).trans e30
          have e41 : s39.1 2 3 = w38_2_3 := (g39 2 3 (fun z => absurd z.2 (by decide))).trans e32
          have e42 : s39.1 2 4 = w38_2_4 := (g39 2 4 (fun z => absurd z.2 (by decide))).trans e33
          have e43 : s39.1 2 0 = ((3 : Nat) : Int) := (g39 2 0 (fun z => absurd z.2 (by decide))).trans e34
          refine ir_goto (pc' := 38) rfl rfl ?_
          refine ir_w [(0, (2, ((2 : Nat) : Int))), (1, (0, z38)), (2, (0, q38_l2))] ⟨rfl, rfl, rfl, trivial⟩ ?_
          exact ih38 (z38) (by omega) (by omega) (q38_l2) (by omega) (by omega) s39 hT39 hF39 (w38_2_1) (by omega) (by omega) e40 ((w38_2_2 + 1)) (by omega) (by omega) e39 (w38_2_3) (by omega) (by omega) e41 (w38_2_4) (by omega) (by omega) e42 (by omega) (by omega) (by omega)
  obtain ⟨z44, z44e, z44l, z44h⟩ := tI_i tf_2_1 tsk_2 hT0
  obtain ⟨z45, z45e, z45l, z45h⟩ := tI_i tf_2_2 tsk_2 hT0
  obtain ⟨z46, z46e, z46l, z46h⟩ := tI_i tf_2_3 tsk_2 hT0
  obtain ⟨z47, z47e, z47l, z47h⟩ := tI_i tf_2_4 tsk_2 hT0
  refine ir_l (pc' := 1) rfl rfl rfl rfl rfl rfl ?_
  refine ir_getI (pc' := 4) rfl rfl rfl (gG_at tsk_2) rfl (by decide) (by decide) z46e (by omega) (by omega) ?_
  refine ir_cSI (pc' := 7) rfl rfl rfl rfl rfl rfl (Nat.le_of_ble_eq_true rfl) (sf_isDigit7 L ys (d + 4) s0 hT0 (z46) (by omega) (by omega) ) (fun z48 s49 hr => ?_)
  obtain ⟨hT49, hG49, z48l, z48h⟩ := hr
  have hF49 := fr_trans hF0 hG49 (by decide)
  have e50 : s49.1 2 1 = z44 := (hG49.1 _ _ tsk_2 1 (by decide)).trans z44e
  have e51 : s49.1 2 2 = z45 := (hG49.1 _ _ tsk_2 2 (by decide)).trans z45e
  have e52 : s49.1 2 3 = z46 := (hG49.1 _ _ tsk_2 3 (by decide)).trans z46e
  have e53 : s49.1 2 4 = z47 := (hG49.1 _ _ tsk_2 4 (by decide)).trans z47e
  refine ir_z_ne (pt := 21) (pc' := 10) rfl rfl rfl (fun c54 => ?_) (fun c54 => ?_)
  · refine ir_k (pc' := 22) (v := (0, 0)) rfl rfl rfl (fun _ => rfl) ?_
    refine ir_s (pc' := 23) rfl rfl rfl rfl rfl rfl ?_
    refine ir_l (pc' := 24) rfl rfl rfl rfl rfl rfl ?_
    refine ir_getI (pc' := 27) rfl rfl rfl (gG_at tsk_2) rfl (by decide) (by decide) e50 (by omega) (by omega) ?_
    refine ir_l (pc' := 28) rfl rfl rfl rfl rfl rfl ?_
    refine ir_getI (pc' := 31) rfl rfl rfl (gG_at tsk_2) rfl (by decide) (by decide) e51 (by omega) (by omega) ?_
    refine ir_k (pc' := 33) (v := (0, 6)) rfl rfl rfl (fun _ => rfl) ?_
    refine ir_add (pc' := 34) rfl rfl (by omega) (by omega) ?_
    refine ir_cSI (pc' := 37) rfl rfl rfl rfl rfl rfl (Nat.le_of_ble_eq_true rfl) (sf_min L ys (d + 4) s49 (z44) (by omega) (by omega) ((z45 + 6)) (by omega) (by omega)) (fun z55 s56 hr => ?_)
    obtain ⟨rfl, z55p0, z55p1, z55p2⟩ := hr
    refine ir_s (pc' := 38) rfl rfl rfl rfl rfl rfl ?_
    refine ir_w [(0, (2, ((2 : Nat) : Int))), (1, (0, 0)), (2, (0, z55))] ⟨rfl, rfl, rfl, trivial⟩ ?_
    exact J38 _ (0) (by omega) (by omega) (z55) (by omega) (by omega) s49 hT49 hF49 (z44) (by omega) (by omega) e50 (z45) (by omega) (by omega) e51 (z46) (by omega) (by omega) e52 (z47) (by omega) (by omega) e53 (by omega) (by omega) (Int.self_le_toNat _)
  · refine ir_l (pc' := 11) rfl rfl rfl rfl rfl rfl ?_
    refine ir_k (pc' := 12) (v := (0, 2)) rfl rfl rfl (fun _ => rfl) ?_
    refine ir_l (pc' := 13) rfl rfl rfl rfl rfl rfl ?_
    refine ir_getI (pc' := 16) rfl rfl rfl (gG_at tsk_2) rfl (by decide) (by decide) e51 (by omega) (by omega) ?_
    refine ir_cVV (pc' := 19) rfl rfl rfl rfl rfl (Nat.le_of_ble_eq_true rfl) oo_X7_fail (gG_at tsk_2) (sf_fail7 L ys (d + 4) s49 hT49 (2) (by omega) (by omega) (z45) (by omega) (by omega) ) (fun s58 hr => ?_)
    obtain ⟨hT58, hG58, p58_0⟩ := hr
    have hF58 := fr_trans hF49 hG58 (by decide)
    have e59 : s58.1 2 1 = z44 := (hG58.1 _ _ tsk_2 1 (by decide)).trans e50
    have e60 : s58.1 2 2 = z45 := (hG58.1 _ _ tsk_2 2 (by decide)).trans e51
    obtain ⟨z61, z61e, z61l, z61h⟩ := tI_i tf_2_3 tsk_2 hT58
    obtain ⟨z62, z62e, z62l, z62h⟩ := tI_i tf_2_4 tsk_2 hT58
    refine ir_k (pc' := 20) (v := (0, 0)) rfl rfl rfl (fun _ => rfl) ?_
    exact ir_iret rfl rfl ⟨_, rfl, hT58, hF58, by omega, by omega, (by first | omega | (dsimp only; omega)), (by first | omega | (dsimp only; omega))⟩
