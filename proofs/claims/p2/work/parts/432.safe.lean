/-! WALKS OF THE CLASS'S METHODS, by program -/
theorem sf_readAll7_d0 (L : Nat) (ys : Nat → Int32) (d : Nat) (s0 : im_S) (hT0 : tI s0) (x1 : Int) (x1l : 0 ≤ x1) (x1h : x1 ≤ 0) (pr0 : s0.1 2 2 ≤ s0.1 2 1) (pr1 : (s0.1 2 4 ≠ 0 ∨ s0.1 2 3 = 0 ∨ s0.1 2 2 < s0.1 2 1)) : icV gG rm_P L ys (d + 83) 192 [(2, ((2 : Nat) : Int)), (0, x1)] s0 (fun s => tI s ∧ fr [(2, 2), (2, 3), (2, 4), (2, 5), (2, 11), (2, 13), (4, 0)] s0 s ∧ s.1 2 2 ≤ s.1 2 1 ∧ (s.1 2 4 ≠ 0 ∨ s.1 2 3 = 0 ∨ s.1 2 2 < s.1 2 1)) := by
  refine ic_startM (M := rm_p_X7_readAll) om_X7_readAll (Nat.le_of_ble_eq_true rfl) ?_
  refine ir_w [(0, (2, ((2 : Nat) : Int))), (1, (0, x1))] ⟨rfl, rfl, trivial⟩ ?_
  have hF0 := fr_refl [(2, 2), (2, 3), (2, 4), (2, 5), (2, 11), (2, 13), (4, 0)] s0
  have J44 : ∀ (s_44 : im_S) (hT_44 : tI s_44) (hF_44 : fr [(2, 2), (2, 3), (2, 4), (2, 5), (2, 11), (2, 13), (4, 0)] s0 s_44) (w44_2_1 : Int) (w44_2_1l : 0 ≤ w44_2_1) (w44_2_1h : w44_2_1 ≤ 400) (w44_2_1e : s_44.1 2 1 = w44_2_1) (w44_2_2 : Int) (w44_2_2l : 0 ≤ w44_2_2) (w44_2_2h : w44_2_2 ≤ 400) (w44_2_2e : s_44.1 2 2 = w44_2_2) (w44_2_3 : Int) (w44_2_3l : 0 ≤ w44_2_3) (w44_2_3h : w44_2_3 ≤ 65535) (w44_2_3e : s_44.1 2 3 = w44_2_3) (w44_2_4 : Int) (w44_2_4l : 0 ≤ w44_2_4) (w44_2_4h : w44_2_4 ≤ 3) (w44_2_4e : s_44.1 2 4 = w44_2_4) (i44_0 : w44_2_2 ≤ w44_2_1) (i44_1 : (w44_2_4 ≠ 0 ∨ w44_2_3 = 0 ∨ w44_2_2 < w44_2_1)), ir gG rm_P L ys (d + 82) rm_p_X7_readAll (44, [], [], s_44) (fun r : im_Re => r.1 = none ∧ (tI r.2 ∧ fr [(2, 2), (2, 3), (2, 4), (2, 5), (2, 11), (2, 13), (4, 0)] s0 r.2 ∧ r.2.1 2 2 ≤ r.2.1 2 1 ∧ (r.2.1 2 4 ≠ 0 ∨ r.2.1 2 3 = 0 ∨ r.2.1 2 2 < r.2.1 2 1))) := by
    intro s_44 hT_44 hF_44 w44_2_1 w44_2_1l w44_2_1h w44_2_1e w44_2_2 w44_2_2l w44_2_2h w44_2_2e w44_2_3 w44_2_3l w44_2_3h w44_2_3e w44_2_4 w44_2_4l w44_2_4h w44_2_4e i44_0 i44_1
    exact ir_vret rfl rfl ⟨rfl, hT_44, hF_44, (by first | omega | (dsimp only; omega)), (by first | omega | (dsimp only; omega))⟩
  have J7 : ∀ n : Nat, ∀ (q7_l2 : Int) (q7_l2l : 0 ≤ q7_l2) (q7_l2h : q7_l2 ≤ 400) (s_7 : im_S) (hT_7 : tI s_7) (hF_7 : fr [(2, 2), (2, 3), (2, 4), (2, 5), (2, 11), (2, 13), (4, 0)] s0 s_7) (w7_2_1 : Int) (w7_2_1l : 0 ≤ w7_2_1) (w7_2_1h : w7_2_1 ≤ 400) (w7_2_1e : s_7.1 2 1 = w7_2_1) (w7_2_2 : Int) (w7_2_2l : 0 ≤ w7_2_2) (w7_2_2h : w7_2_2 ≤ 400) (w7_2_2e : s_7.1 2 2 = w7_2_2) (w7_2_3 : Int) (w7_2_3l : 0 ≤ w7_2_3) (w7_2_3h : w7_2_3 ≤ 65535) (w7_2_3e : s_7.1 2 3 = w7_2_3) (w7_2_4 : Int) (w7_2_4l : 0 ≤ w7_2_4) (w7_2_4h : w7_2_4 ≤ 3) (w7_2_4e : s_7.1 2 4 = w7_2_4) (i7_0 : w7_2_2 ≤ w7_2_1) (i7_1 : (w7_2_4 ≠ 0 ∨ w7_2_3 = 0 ∨ w7_2_2 < w7_2_1)), (400 + 1 - q7_l2) ≤ (n : Int) → ir gG rm_P L ys (d + 82) rm_p_X7_readAll (7, [(0, (2, ((2 : Nat) : Int))), (1, (0, x1)), (2, (0, q7_l2))], [], s_7) (fun r : im_Re => r.1 = none ∧ (tI r.2 ∧ fr [(2, 2), (2, 3), (2, 4), (2, 5), (2, 11), (2, 13), (4, 0)] s0 r.2 ∧ r.2.1 2 2 ≤ r.2.1 2 1 ∧ (r.2.1 2 4 ≠ 0 ∨ r.2.1 2 3 = 0 ∨ r.2.1 2 2 < r.2.1 2 1))) := by
    intro n
    induction n with
    | zero => intro q7_l2 q7_l2l q7_l2h s_7 hT_7 hF_7 w7_2_1 w7_2_1l w7_2_1h w7_2_1e w7_2_2 w7_2_2l w7_2_2h w7_2_2e w7_2_3 w7_2_3l w7_2_3h w7_2_3e w7_2_4 w7_2_4l w7_2_4h w7_2_4e i7_0 i7_1 hr; exfalso; omega
    | succ n ih7 =>
      intro q7_l2 q7_l2l q7_l2h s_7 hT_7 hF_7 w7_2_1 w7_2_1l w7_2_1h w7_2_1e w7_2_2 w7_2_2l w7_2_2h w7_2_2e w7_2_3 w7_2_3l w7_2_3h w7_2_3e w7_2_4 w7_2_4l w7_2_4h w7_2_4e i7_0 i7_1 hr
      refine ir_l (pc' := 8) rfl rfl rfl rfl rfl rfl ?_
      refine ir_k (pc' := 11) (v := (0, 400)) rfl rfl rfl (fun _ => rfl) ?_
      refine ir_c_ge (pt := 44) (pc' := 14) rfl rfl rfl (fun c1 => ?_) (fun c1 => ?_)
      · refine ir_w [] trivial ?_
        exact J44 s_7 hT_7 hF_7 (w7_2_1) (by omega) (by omega) w7_2_1e (w7_2_2) (by omega) (by omega) w7_2_2e (w7_2_3) (by omega) (by omega) w7_2_3e (w7_2_4) (by omega) (by omega) w7_2_4e (by omega) (by omega)
      · refine ir_l (pc' := 15) rfl rfl rfl rfl rfl rfl ?_
        refine ir_getI (pc' := 18) rfl rfl rfl (gG_at tsk_2) rfl (by decide) (by decide) w7_2_3e (by omega) (by omega) ?_
        refine ir_k (pc' := 20) (v := (0, 38)) rfl rfl rfl (fun _ => rfl) ?_
        refine ir_c_ne (pt := 44) (pc' := 23) rfl rfl rfl (fun c2 => ?_) (fun c2 => ?_)
        · refine ir_w [] trivial ?_
          exact J44 s_7 hT_7 hF_7 (w7_2_1) (by omega) (by omega) w7_2_1e (w7_2_2) (by omega) (by omega) w7_2_2e (w7_2_3) (by omega) (by omega) w7_2_3e (w7_2_4) (by omega) (by omega) w7_2_4e (by omega) (by omega)
        · refine ir_l (pc' := 24) rfl rfl rfl rfl rfl rfl ?_
          refine ir_cVV (pc' := 27) rfl rfl rfl rfl rfl (Nat.le_of_ble_eq_true rfl) oo_X7_step (gG_at tsk_2) (sf_step7 L ys (d + 76) s_7 hT_7  (by omega) (by omega) (by omega)) (fun s4 hr => ?_)
          obtain ⟨hT4, hG4, p4_0, p4_1⟩ := hr
          have hF4 := fr_trans hF_7 hG4 (by decide)
          have e5 : s4.1 2 1 = w7_2_1 := (hG4.1 _ _ tsk_2 1 (by decide)).trans w7_2_1e
          obtain ⟨z6, z6e, z6l, z6h⟩ := tI_i tf_2_2 tsk_2 hT4
          obtain ⟨z7, z7e, z7l, z7h⟩ := tI_i tf_2_3 tsk_2 hT4
          obtain ⟨z8, z8e, z8l, z8h⟩ := tI_i tf_2_4 tsk_2 hT4
          refine ir_l (pc' := 28) rfl rfl rfl rfl rfl rfl ?_
          refine ir_l (pc' := 29) rfl rfl rfl rfl rfl rfl ?_
          refine ir_cVV (pc' := 32) rfl rfl rfl rfl rfl (Nat.le_of_ble_eq_true rfl) oo_X7_readOne (gG_at tsk_2) (sf_readOne7_d0 L ys d s4 hT4 (x1) (by omega) (by omega) (by omega) (by omega)) (fun s10 hr => ?_)
          obtain ⟨hT10, hG10, p10_0, p10_1⟩ := hr
          have hF10 := fr_trans hF4 hG10 (by decide)
          have e11 : s10.1 2 1 = w7_2_1 := (hG10.1 _ _ tsk_2 1 (by decide)).trans e5
          obtain ⟨z12, z12e, z12l, z12h⟩ := tI_i tf_2_2 tsk_2 hT10
          obtain ⟨z13, z13e, z13l, z13h⟩ := tI_i tf_2_3 tsk_2 hT10
          obtain ⟨z14, z14e, z14l, z14h⟩ := tI_i tf_2_4 tsk_2 hT10
          refine ir_l (pc' := 33) rfl rfl rfl rfl rfl rfl ?_
          refine ir_k (pc' := 35) (v := (0, 11)) rfl rfl rfl (fun _ => rfl) ?_
          refine ir_cVV (pc' := 38) rfl rfl rfl rfl rfl (Nat.le_of_ble_eq_true rfl) oo_X7_emit (gG_at tsk_2) (sf_emit7 L ys (d + 81) s10 hT10 (11) (by omega) (by omega) ) (fun s16 hr => ?_)
          obtain ⟨hT16, hG16⟩ := hr
          have hF16 := fr_trans hF10 hG16 (by decide)
          have e17 : s16.1 2 1 = w7_2_1 := (hG16.1 _ _ tsk_2 1 (by decide)).trans e11
          have e18 : s16.1 2 2 = z12 := (hG16.1 _ _ tsk_2 2 (by decide)).trans z12e
          have e19 : s16.1 2 3 = z13 := (hG16.1 _ _ tsk_2 3 (by decide)).trans z13e
          have e20 : s16.1 2 4 = z14 := (hG16.1 _ _ tsk_2 4 (by decide)).trans z14e
          refine ir_inc (pc' := 41) rfl rfl rfl rfl rfl (by omega) (by omega) ?_
          refine ir_goto (pc' := 7) rfl rfl ?_
          refine ir_w [(0, (2, ((2 : Nat) : Int))), (1, (0, x1)), (2, (0, (q7_l2 + 1)))] ⟨rfl, rfl, rfl, trivial⟩ ?_
          exact ih7 ((q7_l2 + 1)) (by omega) (by omega) s16 hT16 hF16 (w7_2_1) (by omega) (by omega) e17 (z12) (by omega) (by omega) e18 (z13) (by omega) (by omega) e19 (z14) (by omega) (by omega) e20 (by omega) (by omega) (by omega)
  obtain ⟨z21, z21e, z21l, z21h⟩ := tI_i tf_2_1 tsk_2 hT0
  obtain ⟨z22, z22e, z22l, z22h⟩ := tI_i tf_2_2 tsk_2 hT0
  obtain ⟨z23, z23e, z23l, z23h⟩ := tI_i tf_2_3 tsk_2 hT0
  obtain ⟨z24, z24e, z24l, z24h⟩ := tI_i tf_2_4 tsk_2 hT0
  refine ir_l (pc' := 1) rfl rfl rfl rfl rfl rfl ?_
  refine ir_l (pc' := 2) rfl rfl rfl rfl rfl rfl ?_
  refine ir_cVV (pc' := 5) rfl rfl rfl rfl rfl (Nat.le_of_ble_eq_true rfl) oo_X7_readOne (gG_at tsk_2) (sf_readOne7_d0 L ys d s0 hT0 (x1) (by omega) (by omega) (by omega) (by omega)) (fun s26 hr => ?_)
  obtain ⟨hT26, hG26, p26_0, p26_1⟩ := hr
  have hF26 := fr_trans hF0 hG26 (by decide)
  have e27 : s26.1 2 1 = z21 := (hG26.1 _ _ tsk_2 1 (by decide)).trans z21e
  obtain ⟨z28, z28e, z28l, z28h⟩ := tI_i tf_2_2 tsk_2 hT26
  obtain ⟨z29, z29e, z29l, z29h⟩ := tI_i tf_2_3 tsk_2 hT26
  obtain ⟨z30, z30e, z30l, z30h⟩ := tI_i tf_2_4 tsk_2 hT26
  refine ir_k (pc' := 6) (v := (0, 0)) rfl rfl rfl (fun _ => rfl) ?_
  refine ir_s (pc' := 7) rfl rfl rfl rfl rfl rfl ?_
  refine ir_w [(0, (2, ((2 : Nat) : Int))), (1, (0, x1)), (2, (0, 0))] ⟨rfl, rfl, rfl, trivial⟩ ?_
  exact J7 _ (0) (by omega) (by omega) s26 hT26 hF26 (z21) (by omega) (by omega) e27 (z28) (by omega) (by omega) z28e (z29) (by omega) (by omega) z29e (z30) (by omega) (by omega) z30e (by omega) (by omega) (Int.self_le_toNat _)
theorem sf_readText7_d0 (L : Nat) (ys : Nat → Int32) (d : Nat) (s0 : im_S) (hT0 : tI s0) (x1 : Int) (x1l : 0 ≤ x1) (x1h : x1 ≤ 0) (pr0 : s0.1 2 2 ≤ s0.1 2 1) (pr1 : (s0.1 2 4 ≠ 0 ∨ s0.1 2 3 = 0 ∨ s0.1 2 2 < s0.1 2 1)) : icV gG rm_P L ys (d + 84) 200 [(2, ((2 : Nat) : Int)), (0, x1)] s0 (fun s => tI s ∧ fr [(2, 2), (2, 3), (2, 4), (2, 5), (2, 11), (2, 13), (4, 0)] s0 s ∧ s.1 2 2 ≤ s.1 2 1 ∧ (s.1 2 4 ≠ 0 ∨ s.1 2 3 = 0 ∨ s.1 2 2 < s.1 2 1)) := by
  refine ic_startM (M := rm_p_X7_readText) om_X7_readText (Nat.le_of_ble_eq_true rfl) ?_
  refine ir_w [(0, (2, ((2 : Nat) : Int))), (1, (0, x1))] ⟨rfl, rfl, trivial⟩ ?_
  have hF0 := fr_refl [(2, 2), (2, 3), (2, 4), (2, 5), (2, 11), (2, 13), (4, 0)] s0
  have J44 : ∀ (s_44 : im_S) (hT_44 : tI s_44) (hF_44 : fr [(2, 2), (2, 3), (2, 4), (2, 5), (2, 11), (2, 13), (4, 0)] s0 s_44) (w44_2_1 : Int) (w44_2_1l : 0 ≤ w44_2_1) (w44_2_1h : w44_2_1 ≤ 400) (w44_2_1e : s_44.1 2 1 = w44_2_1) (w44_2_2 : Int) (w44_2_2l : 0 ≤ w44_2_2) (w44_2_2h : w44_2_2 ≤ 400) (w44_2_2e : s_44.1 2 2 = w44_2_2) (w44_2_3 : Int) (w44_2_3l : 0 ≤ w44_2_3) (w44_2_3h : w44_2_3 ≤ 65535) (w44_2_3e : s_44.1 2 3 = w44_2_3) (w44_2_4 : Int) (w44_2_4l : 0 ≤ w44_2_4) (w44_2_4h : w44_2_4 ≤ 3) (w44_2_4e : s_44.1 2 4 = w44_2_4) (i44_0 : w44_2_2 ≤ w44_2_1) (i44_1 : (w44_2_4 ≠ 0 ∨ w44_2_3 = 0 ∨ w44_2_2 < w44_2_1)), ir gG rm_P L ys (d + 83) rm_p_X7_readText (44, [], [], s_44) (fun r : im_Re => r.1 = none ∧ (tI r.2 ∧ fr [(2, 2), (2, 3), (2, 4), (2, 5), (2, 11), (2, 13), (4, 0)] s0 r.2 ∧ r.2.1 2 2 ≤ r.2.1 2 1 ∧ (r.2.1 2 4 ≠ 0 ∨ r.2.1 2 3 = 0 ∨ r.2.1 2 2 < r.2.1 2 1))) := by
    intro s_44 hT_44 hF_44 w44_2_1 w44_2_1l w44_2_1h w44_2_1e w44_2_2 w44_2_2l w44_2_2h w44_2_2e w44_2_3 w44_2_3l w44_2_3h w44_2_3e w44_2_4 w44_2_4l w44_2_4h w44_2_4e i44_0 i44_1
    exact ir_vret rfl rfl ⟨rfl, hT_44, hF_44, (by first | omega | (dsimp only; omega)), (by first | omega | (dsimp only; omega))⟩
  have J7 : ∀ n : Nat, ∀ (q7_l2 : Int) (q7_l2l : 0 ≤ q7_l2) (q7_l2h : q7_l2 ≤ 400) (s_7 : im_S) (hT_7 : tI s_7) (hF_7 : fr [(2, 2), (2, 3), (2, 4), (2, 5), (2, 11), (2, 13), (4, 0)] s0 s_7) (w7_2_1 : Int) (w7_2_1l : 0 ≤ w7_2_1) (w7_2_1h : w7_2_1 ≤ 400) (w7_2_1e : s_7.1 2 1 = w7_2_1) (w7_2_2 : Int) (w7_2_2l : 0 ≤ w7_2_2) (w7_2_2h : w7_2_2 ≤ 400) (w7_2_2e : s_7.1 2 2 = w7_2_2) (w7_2_3 : Int) (w7_2_3l : 0 ≤ w7_2_3) (w7_2_3h : w7_2_3 ≤ 65535) (w7_2_3e : s_7.1 2 3 = w7_2_3) (w7_2_4 : Int) (w7_2_4l : 0 ≤ w7_2_4) (w7_2_4h : w7_2_4 ≤ 3) (w7_2_4e : s_7.1 2 4 = w7_2_4) (i7_0 : w7_2_2 ≤ w7_2_1) (i7_1 : (w7_2_4 ≠ 0 ∨ w7_2_3 = 0 ∨ w7_2_2 < w7_2_1)), (400 + 1 - q7_l2) ≤ (n : Int) → ir gG rm_P L ys (d + 83) rm_p_X7_readText (7, [(0, (2, ((2 : Nat) : Int))), (1, (0, x1)), (2, (0, q7_l2))], [], s_7) (fun r : im_Re => r.1 = none ∧ (tI r.2 ∧ fr [(2, 2), (2, 3), (2, 4), (2, 5), (2, 11), (2, 13), (4, 0)] s0 r.2 ∧ r.2.1 2 2 ≤ r.2.1 2 1 ∧ (r.2.1 2 4 ≠ 0 ∨ r.2.1 2 3 = 0 ∨ r.2.1 2 2 < r.2.1 2 1))) := by
    intro n
    induction n with
    | zero => intro q7_l2 q7_l2l q7_l2h s_7 hT_7 hF_7 w7_2_1 w7_2_1l w7_2_1h w7_2_1e w7_2_2 w7_2_2l w7_2_2h w7_2_2e w7_2_3 w7_2_3l w7_2_3h w7_2_3e w7_2_4 w7_2_4l w7_2_4h w7_2_4e i7_0 i7_1 hr; exfalso; omega
    | succ n ih7 =>
      intro q7_l2 q7_l2l q7_l2h s_7 hT_7 hF_7 w7_2_1 w7_2_1l w7_2_1h w7_2_1e w7_2_2 w7_2_2l w7_2_2h w7_2_2e w7_2_3 w7_2_3l w7_2_3h w7_2_3e w7_2_4 w7_2_4l w7_2_4h w7_2_4e i7_0 i7_1 hr
      refine ir_l (pc' := 8) rfl rfl rfl rfl rfl rfl ?_
      refine ir_k (pc' := 11) (v := (0, 400)) rfl rfl rfl (fun _ => rfl) ?_
      refine ir_c_ge (pt := 44) (pc' := 14) rfl rfl rfl (fun c1 => ?_) (fun c1 => ?_)
      · refine ir_w [] trivial ?_
        exact J44 s_7 hT_7 hF_7 (w7_2_1) (by omega) (by omega) w7_2_1e (w7_2_2) (by omega) (by omega) w7_2_2e (w7_2_3) (by omega) (by omega) w7_2_3e (w7_2_4) (by omega) (by omega) w7_2_4e (by omega) (by omega)
      · refine ir_l (pc' := 15) rfl rfl rfl rfl rfl rfl ?_
        refine ir_getI (pc' := 18) rfl rfl rfl (gG_at tsk_2) rfl (by decide) (by decide) w7_2_3e (by omega) (by omega) ?_
        refine ir_k (pc' := 20) (v := (0, 124)) rfl rfl rfl (fun _ => rfl) ?_
        refine ir_c_ne (pt := 44) (pc' := 23) rfl rfl rfl (fun c2 => ?_) (fun c2 => ?_)
        · refine ir_w [] trivial ?_
          exact J44 s_7 hT_7 hF_7 (w7_2_1) (by omega) (by omega) w7_2_1e (w7_2_2) (by omega) (by omega) w7_2_2e (w7_2_3) (by omega) (by omega) w7_2_3e (w7_2_4) (by omega) (by omega) w7_2_4e (by omega) (by omega)
        · refine ir_l (pc' := 24) rfl rfl rfl rfl rfl rfl ?_
          refine ir_cVV (pc' := 27) rfl rfl rfl rfl rfl (Nat.le_of_ble_eq_true rfl) oo_X7_step (gG_at tsk_2) (sf_step7 L ys (d + 77) s_7 hT_7  (by omega) (by omega) (by omega)) (fun s4 hr => ?_)
          obtain ⟨hT4, hG4, p4_0, p4_1⟩ := hr
          have hF4 := fr_trans hF_7 hG4 (by decide)
          have e5 : s4.1 2 1 = w7_2_1 := (hG4.1 _ _ tsk_2 1 (by decide)).trans w7_2_1e
          obtain ⟨z6, z6e, z6l, z6h⟩ := tI_i tf_2_2 tsk_2 hT4
          obtain ⟨z7, z7e, z7l, z7h⟩ := tI_i tf_2_3 tsk_2 hT4
          obtain ⟨z8, z8e, z8l, z8h⟩ := tI_i tf_2_4 tsk_2 hT4
          refine ir_l (pc' := 28) rfl rfl rfl rfl rfl rfl ?_
          refine ir_l (pc' := 29) rfl rfl rfl rfl rfl rfl ?_
          refine ir_cVV (pc' := 32) rfl rfl rfl rfl rfl (Nat.le_of_ble_eq_true rfl) oo_X7_readAll (gG_at tsk_2) (sf_readAll7_d0 L ys d s4 hT4 (x1) (by omega) (by omega) (by omega) (by omega)) (fun s10 hr => ?_)
          obtain ⟨hT10, hG10, p10_0, p10_1⟩ := hr
          have hF10 := fr_trans hF4 hG10 (by decide)
          have e11 : s10.1 2 1 = w7_2_1 := (hG10.1 _ _ tsk_2 1 (by decide)).trans e5
          obtain ⟨z12, z12e, z12l, z12h⟩ := tI_i tf_2_2 tsk_2 hT10
          obtain ⟨z13, z13e, z13l, z13h⟩ := tI_i tf_2_3 tsk_2 hT10
          obtain ⟨z14, z14e, z14l, z14h⟩ := tI_i tf_2_4 tsk_2 hT10
          refine ir_l (pc' := 33) rfl rfl rfl rfl rfl rfl ?_
          refine ir_k (pc' := 35) (v := (0, 12)) rfl rfl rfl (fun _ => rfl) ?_
          refine ir_cVV (pc' := 38) rfl rfl rfl rfl rfl (Nat.le_of_ble_eq_true rfl) oo_X7_emit (gG_at tsk_2) (sf_emit7 L ys (d + 82) s10 hT10 (12) (by omega) (by omega) ) (fun s16 hr => ?_)
          obtain ⟨hT16, hG16⟩ := hr
          have hF16 := fr_trans hF10 hG16 (by decide)
          have e17 : s16.1 2 1 = w7_2_1 := (hG16.1 _ _ tsk_2 1 (by decide)).trans e11
          have e18 : s16.1 2 2 = z12 := (hG16.1 _ _ tsk_2 2 (by decide)).trans z12e
          have e19 : s16.1 2 3 = z13 := (hG16.1 _ _ tsk_2 3 (by decide)).trans z13e
          have e20 : s16.1 2 4 = z14 := (hG16.1 _ _ tsk_2 4 (by decide)).trans z14e
          refine ir_inc (pc' := 41) rfl rfl rfl rfl rfl (by omega) (by omega) ?_
          refine ir_goto (pc' := 7) rfl rfl ?_
          refine ir_w [(0, (2, ((2 : Nat) : Int))), (1, (0, x1)), (2, (0, (q7_l2 + 1)))] ⟨rfl, rfl, rfl, trivial⟩ ?_
          exact ih7 ((q7_l2 + 1)) (by omega) (by omega) s16 hT16 hF16 (w7_2_1) (by omega) (by omega) e17 (z12) (by omega) (by omega) e18 (z13) (by omega) (by omega) e19 (z14) (by omega) (by omega) e20 (by omega) (by omega) (by omega)
  obtain ⟨z21, z21e, z21l, z21h⟩ := tI_i tf_2_1 tsk_2 hT0
  obtain ⟨z22, z22e, z22l, z22h⟩ := tI_i tf_2_2 tsk_2 hT0
  obtain ⟨z23, z23e, z23l, z23h⟩ := tI_i tf_2_3 tsk_2 hT0
  obtain ⟨z24, z24e, z24l, z24h⟩ := tI_i tf_2_4 tsk_2 hT0
  refine ir_l (pc' := 1) rfl rfl rfl rfl rfl rfl ?_
  refine ir_l (pc' := 2) rfl rfl rfl rfl rfl rfl ?_
  refine ir_cVV (pc' := 5) rfl rfl rfl rfl rfl (Nat.le_of_ble_eq_true rfl) oo_X7_readAll (gG_at tsk_2) (sf_readAll7_d0 L ys d s0 hT0 (x1) (by omega) (by omega) (by omega) (by omega)) (fun s26 hr => ?_)
  obtain ⟨hT26, hG26, p26_0, p26_1⟩ := hr
  have hF26 := fr_trans hF0 hG26 (by decide)
  have e27 : s26.1 2 1 = z21 := (hG26.1 _ _ tsk_2 1 (by decide)).trans z21e
  obtain ⟨z28, z28e, z28l, z28h⟩ := tI_i tf_2_2 tsk_2 hT26
  obtain ⟨z29, z29e, z29l, z29h⟩ := tI_i tf_2_3 tsk_2 hT26
  obtain ⟨z30, z30e, z30l, z30h⟩ := tI_i tf_2_4 tsk_2 hT26
  refine ir_k (pc' := 6) (v := (0, 0)) rfl rfl rfl (fun _ => rfl) ?_
  refine ir_s (pc' := 7) rfl rfl rfl rfl rfl rfl ?_
  refine ir_w [(0, (2, ((2 : Nat) : Int))), (1, (0, x1)), (2, (0, 0))] ⟨rfl, rfl, rfl, trivial⟩ ?_
  exact J7 _ (0) (by omega) (by omega) s26 hT26 hF26 (z21) (by omega) (by omega) e27 (z28) (by omega) (by omega) z28e (z29) (by omega) (by omega) z29e (z30) (by omega) (by omega) z30e (by omega) (by omega) (Int.self_le_toNat _)
theorem sf_read7 (L : Nat) (ys : Nat → Int32) (d : Nat) (s0 : im_S) (hT0 : tI s0) (x1 : Int) (x1l : 0 ≤ x1) (x1h : x1 ≤ 400) : icI gG rm_P L ys 0 (d + 85) 191 [(2, ((2 : Nat) : Int)), (0, x1)] s0 (fun z s => tI s ∧ fr [(2, 1), (2, 2), (2, 3), (2, 4), (2, 5), (2, 11), (2, 13), (4, 0)] s0 s ∧ 0 ≤ z ∧ z ≤ 3) := by
  refine ic_startM (M := rm_p_X7_read) om_X7_read (Nat.le_of_ble_eq_true rfl) ?_
  refine ir_w [(0, (2, ((2 : Nat) : Int))), (1, (0, x1))] ⟨rfl, rfl, trivial⟩ ?_
  have hF0 := fr_refl [(2, 1), (2, 2), (2, 3), (2, 4), (2, 5), (2, 11), (2, 13), (4, 0)] s0
  have J64 : ∀ (s_64 : im_S) (hT_64 : tI s_64) (hF_64 : fr [(2, 1), (2, 2), (2, 3), (2, 4), (2, 5), (2, 11), (2, 13), (4, 0)] s0 s_64) (w64_2_0e : s_64.1 2 0 = ((3 : Nat) : Int)) (w64_2_1 : Int) (w64_2_1l : 0 ≤ w64_2_1) (w64_2_1h : w64_2_1 ≤ 400) (w64_2_1e : s_64.1 2 1 = w64_2_1) (w64_2_2 : Int) (w64_2_2l : 0 ≤ w64_2_2) (w64_2_2h : w64_2_2 ≤ 400) (w64_2_2e : s_64.1 2 2 = w64_2_2) (w64_2_3 : Int) (w64_2_3l : 0 ≤ w64_2_3) (w64_2_3h : w64_2_3 ≤ 65535) (w64_2_3e : s_64.1 2 3 = w64_2_3) (w64_2_4 : Int) (w64_2_4l : 0 ≤ w64_2_4) (w64_2_4h : w64_2_4 ≤ 3) (w64_2_4e : s_64.1 2 4 = w64_2_4), ir gG rm_P L ys (d + 84) rm_p_X7_read (64, [(0, (2, ((2 : Nat) : Int)))], [], s_64) (fun r : im_Re => ∃ z, r.1 = some (0, z) ∧ (tI r.2 ∧ fr [(2, 1), (2, 2), (2, 3), (2, 4), (2, 5), (2, 11), (2, 13), (4, 0)] s0 r.2 ∧ 0 ≤ z ∧ z ≤ 3)) := by
    intro s_64 hT_64 hF_64 w64_2_0e w64_2_1 w64_2_1l w64_2_1h w64_2_1e w64_2_2 w64_2_2l w64_2_2h w64_2_2e w64_2_3 w64_2_3l w64_2_3h w64_2_3e w64_2_4 w64_2_4l w64_2_4h w64_2_4e
    refine ir_l (pc' := 65) rfl rfl rfl rfl rfl rfl ?_
    refine ir_getI (pc' := 68) rfl rfl rfl (gG_at tsk_2) rfl (by decide) (by decide) w64_2_4e (by omega) (by omega) ?_
    exact ir_iret rfl rfl ⟨_, rfl, hT_64, hF_64, by omega, by omega⟩
  obtain ⟨z1, z1e, z1l, z1h⟩ := tI_i tf_2_1 tsk_2 hT0
  obtain ⟨z2, z2e, z2l, z2h⟩ := tI_i tf_2_2 tsk_2 hT0
  obtain ⟨z3, z3e, z3l, z3h⟩ := tI_i tf_2_3 tsk_2 hT0
  obtain ⟨z4, z4e, z4l, z4h⟩ := tI_i tf_2_4 tsk_2 hT0
  refine ir_l (pc' := 1) rfl rfl rfl rfl rfl rfl ?_
  refine ir_l (pc' := 2) rfl rfl rfl rfl rfl rfl ?_
  refine ir_l (pc' := 3) rfl rfl rfl rfl rfl rfl ?_
  refine ir_tgr (pc' := 6) rfl rfl rfl tf_2_0 tsk_2 hT0 (fun b5 b5e b5k => ?_)
  obtain rfl := tsg_3 b5k
  refine ir_tlen (pc' := 7) rfl rfl te_3 (by decide) tsk_3 ?_
  refine ir_cSI (pc' := 10) rfl rfl rfl rfl rfl rfl (Nat.le_of_ble_eq_true rfl) (sf_min L ys (d + 83) s0 (x1) (by omega) (by omega) (((400 : Nat) : Int)) (by omega) (by omega)) (fun z6 s7 hr => ?_)
  obtain ⟨rfl, z6p0, z6p1, z6p2⟩ := hr
  refine ir_tpi (pc' := 13) rfl rfl rfl tf_2_1 rfl tsk_2 hT0 rfl (by omega) (by omega) (fun s8 hT8 e8 g8 r8 => ?_)
  have hF8 := fr_put (k := 2) hF0 (by decide) tsk_2 g8 r8
  have e9 : s8.1 2 2 = z2 := (g8 2 2 (fun z => absurd z.2 (by decide))).trans z2e
  have e10 : s8.1 2 3 = z3 := (g8 2 3 (fun z => absurd z.2 (by decide))).trans z3e
  have e11 : s8.1 2 4 = z4 := (g8 2 4 (fun z => absurd z.2 (by decide))).trans z4e
  have e12 : s8.1 2 0 = ((3 : Nat) : Int) := (g8 2 0 (fun z => absurd z.2 (by decide))).trans b5e
  refine ir_l (pc' := 14) rfl rfl rfl rfl rfl rfl ?_
  refine ir_k (pc' := 15) (v := (0, 0)) rfl rfl rfl (fun _ => rfl) ?_
  refine ir_tpi (pc' := 18) rfl rfl rfl tf_2_2 rfl tsk_2 hT8 rfl (by omega) (by omega) (fun s13 hT13 e13 g13 r13 => ?_)
  have hF13 := fr_put (k := 2) hF8 (by decide) tsk_2 g13 r13
  have e14 : s13.1 2 3 = z3 := (g13 2 3 (fun z => absurd z.2 (by decide))).trans e10
  have e15 : s13.1 2 4 = z4 := (g13 2 4 (fun z => absurd z.2 (by decide))).trans e11
  have e16 : s13.1 2 0 = ((3 : Nat) : Int) := (g13 2 0 (fun z => absurd z.2 (by decide))).trans e12
  have e17 : s13.1 2 1 = z6 := (g13 2 1 (fun z => absurd z.2 (by decide))).trans e8
  refine ir_l (pc' := 19) rfl rfl rfl rfl rfl rfl ?_
  refine ir_k (pc' := 20) (v := (0, 0)) rfl rfl rfl (fun _ => rfl) ?_
  refine ir_tpi (pc' := 23) rfl rfl rfl tf_2_4 rfl tsk_2 hT13 rfl (by omega) (by omega) (fun s18 hT18 e18 g18 r18 => ?_)
  have hF18 := fr_put (k := 2) hF13 (by decide) tsk_2 g18 r18
  have e19 : s18.1 2 3 = z3 := (g18 2 3 (fun z => absurd z.2 (by decide))).trans e14
  have e20 : s18.1 2 0 = ((3 : Nat) : Int) := (g18 2 0 (fun z => absurd z.2 (by decide))).trans e16
  have e21 : s18.1 2 1 = z6 := (g18 2 1 (fun z => absurd z.2 (by decide))).trans e17
  have e22 : s18.1 2 2 = 0 := (g18 2 2 (fun z => absurd z.2 (by decide))).trans e13
  refine ir_l (pc' := 24) rfl rfl rfl rfl rfl rfl ?_
  refine ir_k (pc' := 26) (v := (0, (-2))) rfl rfl rfl (fun _ => rfl) ?_
  refine ir_tpi (pc' := 29) rfl rfl rfl tf_2_5 rfl tsk_2 hT18 rfl (by omega) (by omega) (fun s23 hT23 e23 g23 r23 => ?_)
  have hF23 := fr_put (k := 2) hF18 (by decide) tsk_2 g23 r23
  have e24 : s23.1 2 3 = z3 := (g23 2 3 (fun z => absurd z.2 (by decide))).trans e19
  have e25 : s23.1 2 0 = ((3 : Nat) : Int) := (g23 2 0 (fun z => absurd z.2 (by decide))).trans e20
  have e26 : s23.1 2 1 = z6 := (g23 2 1 (fun z => absurd z.2 (by decide))).trans e21
  have e27 : s23.1 2 2 = 0 := (g23 2 2 (fun z => absurd z.2 (by decide))).trans e22
  have e28 : s23.1 2 4 = 0 := (g23 2 4 (fun z => absurd z.2 (by decide))).trans e18
  refine ir_l (pc' := 30) rfl rfl rfl rfl rfl rfl ?_
  refine ir_k (pc' := 31) (v := (0, 0)) rfl rfl rfl (fun _ => rfl) ?_
  refine ir_tpi (pc' := 34) rfl rfl rfl tf_2_11 rfl tsk_2 hT23 rfl (by omega) (by omega) (fun s29 hT29 e29 g29 r29 => ?_)
  have hF29 := fr_put (k := 2) hF23 (by decide) tsk_2 g29 r29
  have e30 : s29.1 2 3 = z3 := (g29 2 3 (fun z => absurd z.2 (by decide))).trans e24
  have e31 : s29.1 2 0 = ((3 : Nat) : Int) := (g29 2 0 (fun z => absurd z.2 (by decide))).trans e25
  have e32 : s29.1 2 1 = z6 := (g29 2 1 (fun z => absurd z.2 (by decide))).trans e26
  have e33 : s29.1 2 2 = 0 := (g29 2 2 (fun z => absurd z.2 (by decide))).trans e27
  have e34 : s29.1 2 4 = 0 := (g29 2 4 (fun z => absurd z.2 (by decide))).trans e28
  have e35 : s29.1 2 5 = (-2) := (g29 2 5 (fun z => absurd z.2 (by decide))).trans e23
  refine ir_l (pc' := 35) rfl rfl rfl rfl rfl rfl ?_
  refine ir_k (pc' := 36) (v := (0, 0)) rfl rfl rfl (fun _ => rfl) ?_
  refine ir_tpi (pc' := 39) rfl rfl rfl tf_2_13 rfl tsk_2 hT29 rfl (by omega) (by omega) (fun s36 hT36 e36 g36 r36 => ?_)
  have hF36 := fr_put (k := 2) hF29 (by decide) tsk_2 g36 r36
  have e37 : s36.1 2 3 = z3 := (g36 2 3 (fun z => absurd z.2 (by decide))).trans e30
  have e38 : s36.1 2 0 = ((3 : Nat) : Int) := (g36 2 0 (fun z => absurd z.2 (by decide))).trans e31
  have e39 : s36.1 2 1 = z6 := (g36 2 1 (fun z => absurd z.2 (by decide))).trans e32
  have e40 : s36.1 2 2 = 0 := (g36 2 2 (fun z => absurd z.2 (by decide))).trans e33
  have e41 : s36.1 2 4 = 0 := (g36 2 4 (fun z => absurd z.2 (by decide))).trans e34
  have e42 : s36.1 2 5 = (-2) := (g36 2 5 (fun z => absurd z.2 (by decide))).trans e35
  have e43 : s36.1 2 11 = 0 := (g36 2 11 (fun z => absurd z.2 (by decide))).trans e29
  refine ir_l (pc' := 40) rfl rfl rfl rfl rfl rfl ?_
  refine ir_cVV (pc' := 43) rfl rfl rfl rfl rfl (Nat.le_of_ble_eq_true rfl) oo_X7_look (gG_at tsk_2) (sf_look7 L ys (d + 79) s36 hT36  (by omega)) (fun s45 hr => ?_)
  obtain ⟨hT45, hG45, p45_0, p45_1⟩ := hr
  have hF45 := fr_trans hF36 hG45 (by decide)
  have e46 : s45.1 2 0 = ((3 : Nat) : Int) := (hG45.1 _ _ tsk_2 0 (by decide)).trans e38
  have e47 : s45.1 2 1 = z6 := (hG45.1 _ _ tsk_2 1 (by decide)).trans e39
  have e48 : s45.1 2 11 = 0 := (hG45.1 _ _ tsk_2 11 (by decide)).trans e43
  have e49 : s45.1 2 13 = 0 := (hG45.1 _ _ tsk_2 13 (by decide)).trans e36
  obtain ⟨z50, z50e, z50l, z50h⟩ := tI_i tf_2_2 tsk_2 hT45
  obtain ⟨z51, z51e, z51l, z51h⟩ := tI_i tf_2_3 tsk_2 hT45
  obtain ⟨z52, z52e, z52l, z52h⟩ := tI_i tf_2_4 tsk_2 hT45
  refine ir_l (pc' := 44) rfl rfl rfl rfl rfl rfl ?_
  refine ir_k (pc' := 45) (v := (0, 0)) rfl rfl rfl (fun _ => rfl) ?_
  refine ir_cVV (pc' := 48) rfl rfl rfl rfl rfl (Nat.le_of_ble_eq_true rfl) oo_X7_readText (gG_at tsk_2) (sf_readText7_d0 L ys d s45 hT45 (0) (by omega) (by omega) (by omega) (by omega)) (fun s54 hr => ?_)
  obtain ⟨hT54, hG54, p54_0, p54_1⟩ := hr
  have hF54 := fr_trans hF45 hG54 (by decide)
  have e55 : s54.1 2 0 = ((3 : Nat) : Int) := (hG54.1 _ _ tsk_2 0 (by decide)).trans e46
  have e56 : s54.1 2 1 = z6 := (hG54.1 _ _ tsk_2 1 (by decide)).trans e47
  obtain ⟨z57, z57e, z57l, z57h⟩ := tI_i tf_2_2 tsk_2 hT54
  obtain ⟨z58, z58e, z58l, z58h⟩ := tI_i tf_2_3 tsk_2 hT54
  obtain ⟨z59, z59e, z59l, z59h⟩ := tI_i tf_2_4 tsk_2 hT54
  refine ir_l (pc' := 49) rfl rfl rfl rfl rfl rfl ?_
  refine ir_getI (pc' := 52) rfl rfl rfl (gG_at tsk_2) rfl (by decide) (by decide) z58e (by omega) (by omega) ?_
  refine ir_z_eq (pt := 64) (pc' := 55) rfl rfl rfl (fun c60 => ?_) (fun c60 => ?_)
  · refine ir_w [(0, (2, ((2 : Nat) : Int)))] ⟨rfl, trivial⟩ ?_
    exact J64 s54 hT54 hF54 e55 (z6) (by omega) (by omega) e56 (z57) (by omega) (by omega) z57e (z58) (by omega) (by omega) z58e (z59) (by omega) (by omega) z59e
  · refine ir_l (pc' := 56) rfl rfl rfl rfl rfl rfl ?_
    refine ir_k (pc' := 57) (v := (0, 2)) rfl rfl rfl (fun _ => rfl) ?_
    refine ir_l (pc' := 58) rfl rfl rfl rfl rfl rfl ?_
    refine ir_getI (pc' := 61) rfl rfl rfl (gG_at tsk_2) rfl (by decide) (by decide) z57e (by omega) (by omega) ?_
    refine ir_cVV (pc' := 64) rfl rfl rfl rfl rfl (Nat.le_of_ble_eq_true rfl) oo_X7_fail (gG_at tsk_2) (sf_fail7 L ys (d + 83) s54 hT54 (2) (by omega) (by omega) (z57) (by omega) (by omega) ) (fun s62 hr => ?_)
    obtain ⟨hT62, hG62, p62_0⟩ := hr
    have hF62 := fr_trans hF54 hG62 (by decide)
    have e63 : s62.1 2 0 = ((3 : Nat) : Int) := (hG62.1 _ _ tsk_2 0 (by decide)).trans e55
    have e64 : s62.1 2 1 = z6 := (hG62.1 _ _ tsk_2 1 (by decide)).trans e56
    have e65 : s62.1 2 2 = z57 := (hG62.1 _ _ tsk_2 2 (by decide)).trans z57e
    obtain ⟨z66, z66e, z66l, z66h⟩ := tI_i tf_2_3 tsk_2 hT62
    obtain ⟨z67, z67e, z67l, z67h⟩ := tI_i tf_2_4 tsk_2 hT62
    refine ir_w [(0, (2, ((2 : Nat) : Int)))] ⟨rfl, trivial⟩ ?_
    exact J64 s62 hT62 hF62 e63 (z6) (by omega) (by omega) e64 (z57) (by omega) (by omega) e65 (z66) (by omega) (by omega) z66e (z67) (by omega) (by omega) z67e
theorem sf_isAtom9 (L : Nat) (ys : Nat → Int32) (d : Nat) (s0 : im_S) (hT0 : tI s0) (x1 : Int) (x1l : -2147483648 ≤ x1) (x1h : x1 ≤ 2147483647) : icI gG rm_P L ys 0 (d + 1) 214 [(2, ((0 : Nat) : Int)), (0, x1)] s0 (fun z s => tI s ∧ fr [] s0 s ∧ 0 ≤ z ∧ z ≤ 1 ∧ (z = 0 ∨ (0 ≤ x1 ∧ x1 ≤ 9))) := by
  refine ic_startM (M := rm_p_X9_isAtom) om_X9_isAtom (Nat.le_of_ble_eq_true rfl) ?_
  refine ir_w [(0, (2, ((0 : Nat) : Int))), (1, (0, x1))] ⟨rfl, rfl, trivial⟩ ?_
  have hF0 := fr_refl [] s0
  have J27 : ∀ (q27_s0 : Int) (q27_s0l : 0 ≤ q27_s0) (q27_s0h : q27_s0 ≤ 1) (s_27 : im_S) (hT_27 : tI s_27) (hF_27 : fr [] s0 s_27) (w27_0_3 : Int) (w27_0_3l : 0 ≤ w27_0_3) (w27_0_3h : w27_0_3 ≤ 1) (w27_0_3e : s_27.1 0 3 = w27_0_3), ir gG rm_P L ys d rm_p_X9_isAtom (27, [], [(0, q27_s0)], s_27) (fun r : im_Re => ∃ z, r.1 = some (0, z) ∧ (tI r.2 ∧ fr [] s0 r.2 ∧ 0 ≤ z ∧ z ≤ 1 ∧ (z = 0 ∨ (0 ≤ x1 ∧ x1 ≤ 9)))) := by
    intro q27_s0 q27_s0l q27_s0h s_27 hT_27 hF_27 w27_0_3 w27_0_3l w27_0_3h w27_0_3e
    exact ir_zret rfl rfl (by omega) ⟨_, rfl, hT_27, hF_27, by omega, by omega, (by first | omega | (dsimp only; omega))⟩
  have J26 : ∀ (s_26 : im_S) (hT_26 : tI s_26) (hF_26 : fr [] s0 s_26) (w26_0_3 : Int) (w26_0_3l : 0 ≤ w26_0_3) (w26_0_3h : w26_0_3 ≤ 1) (w26_0_3e : s_26.1 0 3 = w26_0_3), ir gG rm_P L ys d rm_p_X9_isAtom (26, [], [], s_26) (fun r : im_Re => ∃ z, r.1 = some (0, z) ∧ (tI r.2 ∧ fr [] s0 r.2 ∧ 0 ≤ z ∧ z ≤ 1 ∧ (z = 0 ∨ (0 ≤ x1 ∧ x1 ≤ 9)))) := by
    intro s_26 hT_26 hF_26 w26_0_3 w26_0_3l w26_0_3h w26_0_3e
    refine ir_k (pc' := 27) (v := (0, 0)) rfl rfl rfl (fun _ => rfl) ?_
    refine ir_w [] trivial ?_
    exact J27 (0) (by omega) (by omega) s_26 hT_26 hF_26 (w26_0_3) (by omega) (by omega) w26_0_3e
  refine ir_l (pc' := 1) rfl rfl rfl rfl rfl rfl ?_
  refine ir_tgi (pc' := 4) rfl rfl rfl tf_0_3 tsk_0 hT0 (fun z1 z1e z1l z1h => ?_)
  refine ir_z_eq (pt := 26) (pc' := 7) rfl rfl rfl (fun c2 => ?_) (fun c2 => ?_)
  · refine ir_w [] trivial ?_
    exact J26 s0 hT0 hF0 (z1) (by omega) (by omega) z1e
  · refine ir_l (pc' := 8) rfl rfl rfl rfl rfl rfl ?_
    refine ir_z_lt (pt := 26) (pc' := 11) rfl rfl rfl (fun c3 => ?_) (fun c3 => ?_)
    · refine ir_w [] trivial ?_
      exact J26 s0 hT0 hF0 (z1) (by omega) (by omega) z1e
    · refine ir_l (pc' := 12) rfl rfl rfl rfl rfl rfl ?_
      refine ir_l (pc' := 13) rfl rfl rfl rfl rfl rfl ?_
      refine ir_tgr (pc' := 16) rfl rfl rfl tf_0_5 tsk_0 hT0 (fun b4 b4e b4k => ?_)
      obtain rfl := tsg_2 b4k
      refine ir_tgi (pc' := 19) rfl rfl rfl tf_2_11 tsk_2 hT0 (fun z5 z5e z5l z5h => ?_)
      refine ir_c_ge (pt := 26) (pc' := 22) rfl rfl rfl (fun c6 => ?_) (fun c6 => ?_)
      · refine ir_w [] trivial ?_
        exact J26 s0 hT0 hF0 (z1) (by omega) (by omega) z1e
      · refine ir_k (pc' := 23) (v := (0, 1)) rfl rfl rfl (fun _ => rfl) ?_
        refine ir_goto (pc' := 27) rfl rfl ?_
        refine ir_w [] trivial ?_
        exact J27 (1) (by omega) (by omega) s0 hT0 hF0 (z1) (by omega) (by omega) z1e
theorem sf_atom9 (L : Nat) (ys : Nat → Int32) (d : Nat) (s0 : im_S) (hT0 : tI s0) (x1 : Int) (x1l : -2147483648 ≤ x1) (x1h : x1 ≤ 2147483647) (x2 : Int) (x2l : -2147483648 ≤ x2) (x2h : x2 ≤ 2147483647) : icI gG rm_P L ys 0 (d + 4) 206 [(2, ((0 : Nat) : Int)), (0, x1), (0, x2)] s0 (fun z s => tI s ∧ fr [] s0 s ∧ -2147483648 ≤ z ∧ z ≤ 2147483647) := by
  refine ic_startM (M := rm_p_X9_atom) om_X9_atom (Nat.le_of_ble_eq_true rfl) ?_
  refine ir_w [(0, (2, ((0 : Nat) : Int))), (1, (0, x1)), (2, (0, x2))] ⟨rfl, rfl, rfl, trivial⟩ ?_
  have hF0 := fr_refl [] s0
  have J116 : ∀ (q116_s0 : Int) (q116_s0l : -2147483648 ≤ q116_s0) (q116_s0h : q116_s0 ≤ 2147483647) (s_116 : im_S) (hT_116 : tI s_116) (hF_116 : fr [] s0 s_116) (w116_0_4e : s_116.1 0 4 = ((1 : Nat) : Int)) (w116_0_5e : s_116.1 0 5 = ((2 : Nat) : Int)) (w116_2_9e : s_116.1 2 9 = ((60 : Nat) : Int)), ir gG rm_P L ys (d + 3) rm_p_X9_atom (116, [], [(0, q116_s0)], s_116) (fun r : im_Re => ∃ z, r.1 = some (0, z) ∧ (tI r.2 ∧ fr [] s0 r.2 ∧ -2147483648 ≤ z ∧ z ≤ 2147483647)) := by
    intro q116_s0 q116_s0l q116_s0h s_116 hT_116 hF_116 w116_0_4e w116_0_5e w116_2_9e
    exact ir_iret rfl rfl ⟨_, rfl, hT_116, hF_116, by omega, by omega⟩
  have J67 : ∀ (q67_s0 : Int) (q67_s0l : -2 ≤ q67_s0) (q67_s0h : q67_s0 ≤ 8) (s_67 : im_S) (hT_67 : tI s_67) (hF_67 : fr [] s0 s_67) (w67_0_5e : s_67.1 0 5 = ((2 : Nat) : Int)) (w67_2_9e : s_67.1 2 9 = ((60 : Nat) : Int)), ir gG rm_P L ys (d + 3) rm_p_X9_atom (67, [], [(0, q67_s0)], s_67) (fun r : im_Re => ∃ z, r.1 = some (0, z) ∧ (tI r.2 ∧ fr [] s0 r.2 ∧ -2147483648 ≤ z ∧ z ≤ 2147483647)) := by
    intro q67_s0 q67_s0l q67_s0h s_67 hT_67 hF_67 w67_0_5e w67_2_9e
    exact ir_iret rfl rfl ⟨_, rfl, hT_67, hF_67, by omega, by omega⟩
  have J18 : ∀ (s_18 : im_S) (hT_18 : tI s_18) (hF_18 : fr [] s0 s_18), ir gG rm_P L ys (d + 3) rm_p_X9_atom (18, [], [], s_18) (fun r : im_Re => ∃ z, r.1 = some (0, z) ∧ (tI r.2 ∧ fr [] s0 r.2 ∧ -2147483648 ≤ z ∧ z ≤ 2147483647)) := by
    intro s_18 hT_18 hF_18
    refine ir_k (pc' := 20) (v := (0, (-2000000000))) rfl rfl rfl (fun _ => rfl) ?_
    exact ir_iret rfl rfl ⟨_, rfl, hT_18, hF_18, by omega, by omega⟩
  refine ir_l (pc' := 1) rfl rfl rfl rfl rfl rfl ?_
  refine ir_l (pc' := 2) rfl rfl rfl rfl rfl rfl ?_
  refine ir_cVI (pc' := 5) rfl rfl rfl rfl rfl (Nat.le_of_ble_eq_true rfl) oo_X9_isAtom (gG_at tsk_0) (sf_isAtom9 L ys (d + 2) s0 hT0 (x1) (by omega) (by omega) ) (fun z1 s2 hr => ?_)
  obtain ⟨hT2, hG2, z1l, z1h, p2_0⟩ := hr
  have hF2 := fr_trans hF0 hG2 (by decide)
  refine ir_z_eq (pt := 18) (pc' := 8) rfl rfl rfl (fun c3 => ?_) (fun c3 => ?_)
  · refine ir_w [] trivial ?_
    exact J18 s2 hT2 hF2
  · refine ir_l (pc' := 9) rfl rfl rfl rfl rfl rfl ?_
    refine ir_z_lt (pt := 18) (pc' := 12) rfl rfl rfl (fun c4 => ?_) (fun c4 => ?_)
    · refine ir_w [] trivial ?_
      exact J18 s2 hT2 hF2
    · refine ir_l (pc' := 13) rfl rfl rfl rfl rfl rfl ?_
      refine ir_k (pc' := 15) (v := (0, 12)) rfl rfl rfl (fun _ => rfl) ?_
      refine ir_c_le (pt := 21) (pc' := 18) rfl rfl rfl (fun c5 => ?_) (fun c5 => ?_)
      · refine ir_l (pc' := 22) rfl rfl rfl rfl rfl rfl ?_
        refine ir_tgr (pc' := 25) rfl rfl rfl tf_0_5 tsk_0 hT2 (fun b6 b6e b6k => ?_)
        obtain rfl := tsg_2 b6k
        refine ir_tgr (pc' := 28) rfl rfl rfl tf_2_9 tsk_2 hT2 (fun b7 b7e b7k => ?_)
        obtain rfl := tsg_7 b7k
        refine ir_l (pc' := 29) rfl rfl rfl rfl rfl rfl ?_
        refine ir_taa (pc' := 30) (k2 := 4) rfl rfl te_7 (by decide) tsk_7 hT2 (by omega) (by omega) (fun b8 b8k => ?_)
        refine ir_s (pc' := 31) rfl rfl rfl rfl rfl rfl ?_
        refine ir_l (pc' := 32) rfl rfl rfl rfl rfl rfl ?_
        refine ir_k (pc' := 34) (v := (0, 8)) rfl rfl rfl (fun _ => rfl) ?_
        refine ir_c_gt (pt := 45) (pc' := 37) rfl rfl rfl (fun c9 => ?_) (fun c9 => ?_)
        · refine ir_l (pc' := 46) rfl rfl rfl rfl rfl rfl ?_
          refine ir_k (pc' := 48) (v := (0, 9)) rfl rfl rfl (fun _ => rfl) ?_
          refine ir_c_ne (pt := 68) (pc' := 51) rfl rfl rfl (fun c10 => ?_) (fun c10 => ?_)
          · refine ir_l (pc' := 69) rfl rfl rfl rfl rfl rfl ?_
            refine ir_k (pc' := 71) (v := (0, 10)) rfl rfl rfl (fun _ => rfl) ?_
            refine ir_c_ne (pt := 84) (pc' := 74) rfl rfl rfl (fun c11 => ?_) (fun c11 => ?_)
            · refine ir_l (pc' := 85) rfl rfl rfl rfl rfl rfl ?_
              refine ir_tgr (pc' := 88) rfl rfl rfl tf_0_4 tsk_0 hT2 (fun b12 b12e b12k => ?_)
              obtain rfl := tsg_1 b12k
              refine ir_l (pc' := 89) rfl rfl rfl rfl rfl rfl ?_
              refine ir_cVI (pc' := 92) rfl rfl rfl rfl rfl (Nat.le_of_ble_eq_true rfl) oo_X4_rootsOf (gG_at tsk_1) (sf_rootsOf4 L ys d s2 hT2 (x1) (by omega) (by omega) ) (fun z13 s14 hr => ?_)
              obtain ⟨hT14, hG14, z13l, z13h⟩ := hr
              have hF14 := fr_trans hF2 hG14 (by decide)
              have e15 : s14.1 0 5 = ((2 : Nat) : Int) := (hG14.1 _ _ tsk_0 5 (by decide)).trans b6e
              have e16 : s14.1 2 9 = ((60 : Nat) : Int) := (hG14.1 _ _ tsk_2 9 (by decide)).trans b7e
              have e17 : s14.1 0 4 = ((1 : Nat) : Int) := (hG14.1 _ _ tsk_0 4 (by decide)).trans b12e
              refine ir_s (pc' := 94) rfl rfl rfl rfl rfl rfl ?_
              refine ir_l (pc' := 95) rfl rfl rfl rfl rfl rfl ?_
              refine ir_k (pc' := 97) (v := (0, 11)) rfl rfl rfl (fun _ => rfl) ?_
              refine ir_c_ne (pt := 105) (pc' := 100) rfl rfl rfl (fun c18 => ?_) (fun c18 => ?_)
              · refine ir_l (pc' := 106) rfl rfl rfl rfl rfl rfl ?_
                refine ir_tgr (pc' := 109) rfl rfl rfl tf_0_7 tsk_0 hT14 (fun b19 b19e b19k => ?_)
                obtain rfl := tsg_11 b19k
                refine ir_l (pc' := 110) rfl rfl rfl rfl rfl rfl ?_
                refine ir_cVI (pc' := 113) rfl rfl rfl rfl rfl (Nat.le_of_ble_eq_true rfl) oo_X0_distinctRoots (gG_at tsk_11) (sf_distinctRoots0 L ys (d + 1) s14 hT14 (x1) (by omega) (by omega) ) (fun z20 s21 hr => ?_)
                obtain ⟨hT21, hG21, z20l, z20h⟩ := hr
                have hF21 := fr_trans hF14 hG21 (by decide)
                have e22 : s21.1 0 5 = ((2 : Nat) : Int) := (hG21.1 _ _ tsk_0 5 (by decide)).trans e15
                have e23 : s21.1 2 9 = ((60 : Nat) : Int) := (hG21.1 _ _ tsk_2 9 (by decide)).trans e16
                have e24 : s21.1 0 4 = ((1 : Nat) : Int) := (hG21.1 _ _ tsk_0 4 (by decide)).trans e17
                have e25 : s21.1 0 7 = ((84 : Nat) : Int) := (hG21.1 _ _ tsk_0 7 (by decide)).trans b19e
                refine ir_l (pc' := 115) rfl rfl rfl rfl rfl rfl ?_
                refine ir_iiA (pc' := 116) rfl rfl rfl rfl (fun z26 z26l z26h => ?_)
                refine ir_w [] trivial ?_
                exact J116 (z26) (by omega) (by omega) s21 hT21 hF21 e24 e22 e23
              · refine ir_l (pc' := 102) rfl rfl rfl rfl rfl rfl ?_
                refine ir_goto (pc' := 116) rfl rfl ?_
                refine ir_w [] trivial ?_
                exact J116 (z13) (by omega) (by omega) s14 hT14 hF14 e17 e15 e16
            · refine ir_l (pc' := 75) rfl rfl rfl rfl rfl rfl ?_
              refine ir_getR (pc' := 78) rfl rfl rfl (gG_at tsk_0) rfl b6e ?_
              refine ir_tgr (pc' := 81) rfl rfl rfl tf_2_10 tsk_2 hT2 (fun b27 b27e b27k => ?_)
              obtain rfl := tsg_8 b27k
              refine ir_l (pc' := 82) rfl rfl rfl rfl rfl rfl ?_
              refine ir_tia (pc' := 83) rfl rfl te_8 (by decide) tsk_8 hT2 (by omega) (by omega) (fun z28 z28e z28l z28h => ?_)
              clear z28e
              exact ir_iret rfl rfl ⟨_, rfl, hT2, hF2, by omega, by omega⟩
          · refine ir_l (pc' := 52) rfl rfl rfl rfl rfl rfl ?_
            refine ir_tgi (pc' := 55) rfl rfl rfl tf_4_0 b8k hT2 (fun z29 z29e z29l z29h => ?_)
            refine ir_z_ge (pt := 63) (pc' := 58) rfl rfl rfl (fun c30 => ?_) (fun c30 => ?_)
            · refine ir_l (pc' := 64) rfl rfl rfl rfl rfl rfl ?_
              refine ir_getI (pc' := 67) rfl rfl rfl (gG_at b8k) rfl (by decide) (by decide) z29e (by omega) (by omega) ?_
              refine ir_w [] trivial ?_
              exact J67 (z29) (by omega) (by omega) s2 hT2 hF2 b6e b7e
            · refine ir_k (pc' := 60) (v := (0, (-2))) rfl rfl rfl (fun _ => rfl) ?_
              refine ir_goto (pc' := 67) rfl rfl ?_
              refine ir_w [] trivial ?_
              exact J67 ((-2)) (by omega) (by omega) s2 hT2 hF2 b6e b7e
        · refine ir_l (pc' := 38) rfl rfl rfl rfl rfl rfl ?_
          refine ir_tgr (pc' := 41) rfl rfl rfl tf_4_1 b8k hT2 (fun b31 b31e b31k => ?_)
          refine ir_l (pc' := 42) rfl rfl rfl rfl rfl rfl ?_
          refine ir_tla (pc' := 43) rfl rfl te_6 (by decide) b31k hT2 (by omega) (by omega) (fun z32 z32e z32l z32h => ?_)
          clear z32e
          refine ir_j1A (pc' := 44) rfl rfl rfl rfl (fun z33 z33e z33l z33h => ?_)
          clear z33e
          exact ir_iret rfl rfl ⟨_, rfl, hT2, hF2, by omega, by omega⟩
      · refine ir_w [] trivial ?_
        exact J18 s2 hT2 hF2
theorem sf_isFraction9 (L : Nat) (ys : Nat → Int32) (d : Nat) (s0 : im_S) (hT0 : tI s0) (x0 : Int) (x0l : -2147483648 ≤ x0) (x0h : x0 ≤ 2147483647) (x1 : Int) (x1l : -2147483648 ≤ x1) (x1h : x1 ≤ 2147483647) : icI gG rm_P L ys 0 (d + 1) 216 [(0, x0), (0, x1)] s0 (fun z s => tI s ∧ fr [] s0 s ∧ 0 ≤ z ∧ z ≤ 1 ∧ (z = 0 ∨ 1 ≤ x1)) := by
  refine ic_startM (M := rm_p_X9_isFraction) om_X9_isFraction (Nat.le_of_ble_eq_true rfl) ?_
  refine ir_w [(0, (0, x0)), (1, (0, x1))] ⟨rfl, rfl, trivial⟩ ?_
  have hF0 := fr_refl [] s0
  have J37 : ∀ (q37_s0 : Int) (q37_s0l : 0 ≤ q37_s0) (q37_s0h : q37_s0 ≤ 1) (s_37 : im_S) (hT_37 : tI s_37) (hF_37 : fr [] s0 s_37), ir gG rm_P L ys d rm_p_X9_isFraction (37, [], [(0, q37_s0)], s_37) (fun r : im_Re => ∃ z, r.1 = some (0, z) ∧ (tI r.2 ∧ fr [] s0 r.2 ∧ 0 ≤ z ∧ z ≤ 1 ∧ (z = 0 ∨ 1 ≤ x1))) := by
    intro q37_s0 q37_s0l q37_s0h s_37 hT_37 hF_37
    exact ir_zret rfl rfl (by omega) ⟨_, rfl, hT_37, hF_37, by omega, by omega, (by first | omega | (dsimp only; omega))⟩
  have J36 : ∀ (s_36 : im_S) (hT_36 : tI s_36) (hF_36 : fr [] s0 s_36), ir gG rm_P L ys d rm_p_X9_isFraction (36, [], [], s_36) (fun r : im_Re => ∃ z, r.1 = some (0, z) ∧ (tI r.2 ∧ fr [] s0 r.2 ∧ 0 ≤ z ∧ z ≤ 1 ∧ (z = 0 ∨ 1 ≤ x1))) := by
    intro s_36 hT_36 hF_36
    refine ir_k (pc' := 37) (v := (0, 0)) rfl rfl rfl (fun _ => rfl) ?_
    refine ir_w [] trivial ?_
    exact J37 (0) (by omega) (by omega) s_36 hT_36 hF_36
  refine ir_l (pc' := 1) rfl rfl rfl rfl rfl rfl ?_
  refine ir_k (pc' := 2) (v := (0, 1)) rfl rfl rfl (fun _ => rfl) ?_
  refine ir_c_lt (pt := 36) (pc' := 5) rfl rfl rfl (fun c1 => ?_) (fun c1 => ?_)
  · refine ir_w [] trivial ?_
    exact J36 s0 hT0 hF0
  · refine ir_l (pc' := 6) rfl rfl rfl rfl rfl rfl ?_
    refine ir_i2l (pc' := 7) rfl rfl (by omega) (by omega) ?_
    refine ir_k (pc' := 10) (v := (1, 1000000000)) rfl rfl rfl (fun _ => rfl) ?_
    refine ir_lcmp (pc' := 11) rfl rfl (by omega) (by omega) (by omega) (by omega) (fun z2 z2c => ?_)
    refine ir_z_gt (pt := 36) (pc' := 14) rfl rfl rfl (fun c3 => ?_) (fun c3 => ?_)
    · refine ir_w [] trivial ?_
      exact J36 s0 hT0 hF0
    · refine ir_l (pc' := 15) rfl rfl rfl rfl rfl rfl ?_
      refine ir_i2l (pc' := 16) rfl rfl (by omega) (by omega) ?_
      refine ir_k (pc' := 19) (v := (1, (-1000000000))) rfl rfl rfl (fun _ => rfl) ?_
      refine ir_lcmp (pc' := 20) rfl rfl (by omega) (by omega) (by omega) (by omega) (fun z4 z4c => ?_)
      refine ir_z_lt (pt := 36) (pc' := 23) rfl rfl rfl (fun c5 => ?_) (fun c5 => ?_)
      · refine ir_w [] trivial ?_
        exact J36 s0 hT0 hF0
      · refine ir_l (pc' := 24) rfl rfl rfl rfl rfl rfl ?_
        refine ir_i2l (pc' := 25) rfl rfl (by omega) (by omega) ?_
        refine ir_k (pc' := 28) (v := (1, 1000000000)) rfl rfl rfl (fun _ => rfl) ?_
        refine ir_lcmp (pc' := 29) rfl rfl (by omega) (by omega) (by omega) (by omega) (fun z6 z6c => ?_)
        refine ir_z_gt (pt := 36) (pc' := 32) rfl rfl rfl (fun c7 => ?_) (fun c7 => ?_)
        · refine ir_w [] trivial ?_
          exact J36 s0 hT0 hF0
        · refine ir_k (pc' := 33) (v := (0, 1)) rfl rfl rfl (fun _ => rfl) ?_
          refine ir_goto (pc' := 37) rfl rfl ?_
          refine ir_w [] trivial ?_
          exact J37 (1) (by omega) (by omega) s0 hT0 hF0
theorem sf_cellOf9 (L : Nat) (ys : Nat → Int32) (d : Nat) (s0 : im_S) (hT0 : tI s0) (x1 : Int) (x1l : -2147483648 ≤ x1) (x1h : x1 ≤ 2147483647) (x2 : Int) (x2l : -2147483648 ≤ x2) (x2h : x2 ≤ 2147483647) : icI gG rm_P L ys 0 (d + 7) 207 [(2, ((0 : Nat) : Int)), (0, x1), (0, x2)] s0 (fun z s => tI s ∧ fr [(19, 1), (19, 2), (25, 1), (25, 2)] s0 s ∧ -1 ≤ z ∧ z ≤ 160) := by
  refine ic_startM (M := rm_p_X9_cellOf) om_X9_cellOf (Nat.le_of_ble_eq_true rfl) ?_
  refine ir_w [(0, (2, ((0 : Nat) : Int))), (1, (0, x1)), (2, (0, x2))] ⟨rfl, rfl, rfl, trivial⟩ ?_
  have hF0 := fr_refl [(19, 1), (19, 2), (25, 1), (25, 2)] s0
  have J15 : ∀ (s_15 : im_S) (hT_15 : tI s_15) (hF_15 : fr [(19, 1), (19, 2), (25, 1), (25, 2)] s0 s_15) (w15_0_3 : Int) (w15_0_3l : 0 ≤ w15_0_3) (w15_0_3h : w15_0_3 ≤ 1) (w15_0_3e : s_15.1 0 3 = w15_0_3), ir gG rm_P L ys (d + 6) rm_p_X9_cellOf (15, [], [], s_15) (fun r : im_Re => ∃ z, r.1 = some (0, z) ∧ (tI r.2 ∧ fr [(19, 1), (19, 2), (25, 1), (25, 2)] s0 r.2 ∧ -1 ≤ z ∧ z ≤ 160)) := by
    intro s_15 hT_15 hF_15 w15_0_3 w15_0_3l w15_0_3h w15_0_3e
    refine ir_k (pc' := 16) (v := (0, (-1))) rfl rfl rfl (fun _ => rfl) ?_
    exact ir_iret rfl rfl ⟨_, rfl, hT_15, hF_15, by omega, by omega⟩
  refine ir_l (pc' := 1) rfl rfl rfl rfl rfl rfl ?_
  refine ir_tgi (pc' := 4) rfl rfl rfl tf_0_3 tsk_0 hT0 (fun z1 z1e z1l z1h => ?_)
  refine ir_z_eq (pt := 15) (pc' := 7) rfl rfl rfl (fun c2 => ?_) (fun c2 => ?_)
  · refine ir_w [] trivial ?_
    exact J15 s0 hT0 hF0 (z1) (by omega) (by omega) z1e
  · refine ir_l (pc' := 8) rfl rfl rfl rfl rfl rfl ?_
    refine ir_l (pc' := 9) rfl rfl rfl rfl rfl rfl ?_
    refine ir_cSI (pc' := 12) rfl rfl rfl rfl rfl rfl (Nat.le_of_ble_eq_true rfl) (sf_isFraction9 L ys (d + 5) s0 hT0 (x1) (by omega) (by omega) (x2) (by omega) (by omega) ) (fun z3 s4 hr => ?_)
    obtain ⟨hT4, hG4, z3l, z3h, p4_0⟩ := hr
    have hF4 := fr_trans hF0 hG4 (by decide)
    have e5 : s4.1 0 3 = z1 := (hG4.1 _ _ tsk_0 3 (by decide)).trans z1e
    refine ir_z_ne (pt := 17) (pc' := 15) rfl rfl rfl (fun c6 => ?_) (fun c6 => ?_)
    · refine ir_l (pc' := 18) rfl rfl rfl rfl rfl rfl ?_
      refine ir_tgr (pc' := 21) rfl rfl rfl tf_0_4 tsk_0 hT4 (fun b7 b7e b7k => ?_)
      obtain rfl := tsg_1 b7k
      refine ir_l (pc' := 22) rfl rfl rfl rfl rfl rfl ?_
      refine ir_l (pc' := 23) rfl rfl rfl rfl rfl rfl ?_
      refine ir_cSI (pc' := 26) rfl rfl rfl rfl rfl rfl (Nat.le_of_ble_eq_true rfl) (sf_fdI L ys (d + 5) s4 (x1) (by omega) (by omega) (x2) (by omega) (by omega)) (fun z8 s9 hr => ?_)
      obtain ⟨rfl, z8p0, z8p1⟩ := hr
      refine ir_i2l (pc' := 27) rfl rfl (by omega) (by omega) ?_
      refine ir_l (pc' := 28) rfl rfl rfl rfl rfl rfl ?_
      refine ir_l (pc' := 29) rfl rfl rfl rfl rfl rfl ?_
      refine ir_cSI (pc' := 32) rfl rfl rfl rfl rfl rfl (Nat.le_of_ble_eq_true rfl) (sf_fmI L ys (d + 5) s4 (x1) (by omega) (by omega) (x2) (by omega) (by omega)) (fun z10 s11 hr => ?_)
      obtain ⟨rfl, z10p0, z10p1⟩ := hr
      refine ir_i2l (pc' := 33) rfl rfl (by omega) (by omega) ?_
      refine ir_l (pc' := 34) rfl rfl rfl rfl rfl rfl ?_
      refine ir_i2l (pc' := 35) rfl rfl (by omega) (by omega) ?_
      refine ir_cVI (pc' := 38) rfl rfl rfl rfl rfl (Nat.le_of_ble_eq_true rfl) oo_X4_locate (gG_at tsk_1) (sf_locate4 L ys d s4 hT4 (z8) (by omega) (by omega) (z10) (by omega) (by omega) (x2) (by omega) (by omega) ) (fun z12 s13 hr => ?_)
      obtain ⟨hT13, hG13, z12l, z12h⟩ := hr
      have hF13 := fr_trans hF4 hG13 (by decide)
      have e14 : s13.1 0 3 = z1 := (hG13.1 _ _ tsk_0 3 (by decide)).trans e5
      have e15 : s13.1 0 4 = ((1 : Nat) : Int) := (hG13.1 _ _ tsk_0 4 (by decide)).trans b7e
      exact ir_iret rfl rfl ⟨_, rfl, hT13, hF13, by omega, by omega⟩
    · refine ir_w [] trivial ?_
      exact J15 s4 hT4 hF4 (z1) (by omega) (by omega) e5
theorem sf_isRoot9 (L : Nat) (ys : Nat → Int32) (d : Nat) (s0 : im_S) (hT0 : tI s0) (x1 : Int) (x1l : -2147483648 ≤ x1) (x1h : x1 ≤ 2147483647) : icI gG rm_P L ys 0 (d + 1) 217 [(2, ((0 : Nat) : Int)), (0, x1)] s0 (fun z s => tI s ∧ fr [] s0 s ∧ 0 ≤ z ∧ z ≤ 1) := by
  refine ic_startM (M := rm_p_X9_isRoot) om_X9_isRoot (Nat.le_of_ble_eq_true rfl) ?_
  refine ir_w [(0, (2, ((0 : Nat) : Int))), (1, (0, x1))] ⟨rfl, rfl, trivial⟩ ?_
  have hF0 := fr_refl [] s0
  have J27 : ∀ (q27_s0 : Int) (q27_s0l : 0 ≤ q27_s0) (q27_s0h : q27_s0 ≤ 1) (s_27 : im_S) (hT_27 : tI s_27) (hF_27 : fr [] s0 s_27) (w27_0_3 : Int) (w27_0_3l : 0 ≤ w27_0_3) (w27_0_3h : w27_0_3 ≤ 1) (w27_0_3e : s_27.1 0 3 = w27_0_3), ir gG rm_P L ys d rm_p_X9_isRoot (27, [], [(0, q27_s0)], s_27) (fun r : im_Re => ∃ z, r.1 = some (0, z) ∧ (tI r.2 ∧ fr [] s0 r.2 ∧ 0 ≤ z ∧ z ≤ 1)) := by
    intro q27_s0 q27_s0l q27_s0h s_27 hT_27 hF_27 w27_0_3 w27_0_3l w27_0_3h w27_0_3e
    exact ir_zret rfl rfl (by omega) ⟨_, rfl, hT_27, hF_27, by omega, by omega⟩
  have J26 : ∀ (s_26 : im_S) (hT_26 : tI s_26) (hF_26 : fr [] s0 s_26) (w26_0_3 : Int) (w26_0_3l : 0 ≤ w26_0_3) (w26_0_3h : w26_0_3 ≤ 1) (w26_0_3e : s_26.1 0 3 = w26_0_3), ir gG rm_P L ys d rm_p_X9_isRoot (26, [], [], s_26) (fun r : im_Re => ∃ z, r.1 = some (0, z) ∧ (tI r.2 ∧ fr [] s0 r.2 ∧ 0 ≤ z ∧ z ≤ 1)) := by
    intro s_26 hT_26 hF_26 w26_0_3 w26_0_3l w26_0_3h w26_0_3e
    refine ir_k (pc' := 27) (v := (0, 0)) rfl rfl rfl (fun _ => rfl) ?_
    refine ir_w [] trivial ?_
    exact J27 (0) (by omega) (by omega) s_26 hT_26 hF_26 (w26_0_3) (by omega) (by omega) w26_0_3e
  refine ir_l (pc' := 1) rfl rfl rfl rfl rfl rfl ?_
  refine ir_tgi (pc' := 4) rfl rfl rfl tf_0_3 tsk_0 hT0 (fun z1 z1e z1l z1h => ?_)
  refine ir_z_eq (pt := 26) (pc' := 7) rfl rfl rfl (fun c2 => ?_) (fun c2 => ?_)
  · refine ir_w [] trivial ?_
    exact J26 s0 hT0 hF0 (z1) (by omega) (by omega) z1e
  · refine ir_l (pc' := 8) rfl rfl rfl rfl rfl rfl ?_
    refine ir_z_lt (pt := 26) (pc' := 11) rfl rfl rfl (fun c3 => ?_) (fun c3 => ?_)
    · refine ir_w [] trivial ?_
      exact J26 s0 hT0 hF0 (z1) (by omega) (by omega) z1e
    · refine ir_l (pc' := 12) rfl rfl rfl rfl rfl rfl ?_
      refine ir_l (pc' := 13) rfl rfl rfl rfl rfl rfl ?_
      refine ir_tgr (pc' := 16) rfl rfl rfl tf_0_4 tsk_0 hT0 (fun b4 b4e b4k => ?_)
      obtain rfl := tsg_1 b4k
      refine ir_tgi (pc' := 19) rfl rfl rfl tf_1_4 tsk_1 hT0 (fun z5 z5e z5l z5h => ?_)
      refine ir_c_ge (pt := 26) (pc' := 22) rfl rfl rfl (fun c6 => ?_) (fun c6 => ?_)
      · refine ir_w [] trivial ?_
        exact J26 s0 hT0 hF0 (z1) (by omega) (by omega) z1e
      · refine ir_k (pc' := 23) (v := (0, 1)) rfl rfl rfl (fun _ => rfl) ?_
        refine ir_goto (pc' := 27) rfl rfl ?_
        refine ir_w [] trivial ?_
        exact J27 (1) (by omega) (by omega) s0 hT0 hF0 (z1) (by omega) (by omega) z1e
theorem sf_common9 (L : Nat) (ys : Nat → Int32) (d : Nat) (s0 : im_S) (hT0 : tI s0) (x1 : Int) (x1l : -2147483648 ≤ x1) (x1h : x1 ≤ 2147483647) : icI gG rm_P L ys 0 (d + 3) 208 [(2, ((0 : Nat) : Int)), (0, x1)] s0 (fun z s => tI s ∧ fr [] s0 s ∧ -2147483648 ≤ z ∧ z ≤ 2147483647) := by
  refine ic_startM (M := rm_p_X9_common) om_X9_common (Nat.le_of_ble_eq_true rfl) ?_
  refine ir_w [(0, (2, ((0 : Nat) : Int))), (1, (0, x1))] ⟨rfl, rfl, trivial⟩ ?_
  have hF0 := fr_refl [] s0
  refine ir_l (pc' := 1) rfl rfl rfl rfl rfl rfl ?_
  refine ir_l (pc' := 2) rfl rfl rfl rfl rfl rfl ?_
  refine ir_cVI (pc' := 5) rfl rfl rfl rfl rfl (Nat.le_of_ble_eq_true rfl) oo_X9_isRoot (gG_at tsk_0) (sf_isRoot9 L ys (d + 1) s0 hT0 (x1) (by omega) (by omega) ) (fun z1 s2 hr => ?_)
  obtain ⟨hT2, hG2, z1l, z1h⟩ := hr
  have hF2 := fr_trans hF0 hG2 (by decide)
  refine ir_z_ne (pt := 10) (pc' := 8) rfl rfl rfl (fun c3 => ?_) (fun c3 => ?_)
  · refine ir_l (pc' := 11) rfl rfl rfl rfl rfl rfl ?_
    refine ir_tgr (pc' := 14) rfl rfl rfl tf_0_7 tsk_0 hT2 (fun b4 b4e b4k => ?_)
    obtain rfl := tsg_11 b4k
    refine ir_l (pc' := 15) rfl rfl rfl rfl rfl rfl ?_
    refine ir_tgr (pc' := 18) rfl rfl rfl tf_0_4 tsk_0 hT2 (fun b5 b5e b5k => ?_)
    obtain rfl := tsg_1 b5k
    refine ir_l (pc' := 19) rfl rfl rfl rfl rfl rfl ?_
    refine ir_cVR (pc' := 22) rfl rfl rfl rfl rfl (Nat.le_of_ble_eq_true rfl) oo_X4_rootAt (gG_at tsk_1) (sf_rootAt4 L ys d s2 hT2 (x1) (by omega) (by omega) ) (fun b6 s7 hr => ?_)
    obtain ⟨hT7, hG7, b6k⟩ := hr
    have hF7 := fr_trans hF2 hG7 (by decide)
    have e8 : s7.1 0 7 = ((84 : Nat) : Int) := (hG7.1 _ _ tsk_0 7 (by decide)).trans b4e
    have e9 : s7.1 0 4 = ((1 : Nat) : Int) := (hG7.1 _ _ tsk_0 4 (by decide)).trans b5e
    refine ir_tgi (pc' := 25) rfl rfl rfl tf_23_0 b6k hT7 (fun z10 z10e z10l z10h => ?_)
    refine ir_cVI (pc' := 28) rfl rfl rfl rfl rfl (Nat.le_of_ble_eq_true rfl) oo_X0_sharedDegree (gG_at tsk_11) (sf_sharedDegree0 L ys d s7 hT7 (z10) (by omega) (by omega) ) (fun z11 s12 hr => ?_)
    obtain ⟨hT12, hG12, z11l, z11h⟩ := hr
    have hF12 := fr_trans hF7 hG12 (by decide)
    have e13 : s12.1 0 7 = ((84 : Nat) : Int) := (hG12.1 _ _ tsk_0 7 (by decide)).trans e8
    have e14 : s12.1 0 4 = ((1 : Nat) : Int) := (hG12.1 _ _ tsk_0 4 (by decide)).trans e9
    have e15 : s12.1 b6 0 = z10 := (hG12.1 _ _ b6k 0 (by decide)).trans z10e
    exact ir_iret rfl rfl ⟨_, rfl, hT12, hF12, by omega, by omega⟩
  · refine ir_k (pc' := 9) (v := (0, (-1))) rfl rfl rfl (fun _ => rfl) ?_
    exact ir_iret rfl rfl ⟨_, rfl, hT2, hF2, by omega, by omega⟩
theorem sf_count9 (L : Nat) (ys : Nat → Int32) (d : Nat) (s0 : im_S) (hT0 : tI s0) (x1 : Int) (x1l : -2147483648 ≤ x1) (x1h : x1 ≤ 2147483647) : icI gG rm_P L ys 0 (d + 1) 209 [(2, ((0 : Nat) : Int)), (0, x1)] s0 (fun z s => tI s ∧ fr [] s0 s ∧ -2147483648 ≤ z ∧ z ≤ 2147483647) := by
  refine ic_startM (M := rm_p_X9_count) om_X9_count (Nat.le_of_ble_eq_true rfl) ?_
  refine ir_w [(0, (2, ((0 : Nat) : Int))), (1, (0, x1))] ⟨rfl, rfl, trivial⟩ ?_
  have hF0 := fr_refl [] s0
  have J80 : ∀ (q80_s0 : Int) (q80_s0l : -2147483648 ≤ q80_s0) (q80_s0h : q80_s0 ≤ 2147483647) (s_80 : im_S) (hT_80 : tI s_80) (hF_80 : fr [] s0 s_80) (w80_0_3 : Int) (w80_0_3l : 1 ≤ w80_0_3) (w80_0_3h : w80_0_3 ≤ 1) (w80_0_3e : s_80.1 0 3 = w80_0_3), ir gG rm_P L ys d rm_p_X9_count (80, [], [(0, q80_s0)], s_80) (fun r : im_Re => ∃ z, r.1 = some (0, z) ∧ (tI r.2 ∧ fr [] s0 r.2 ∧ -2147483648 ≤ z ∧ z ≤ 2147483647)) := by
    intro q80_s0 q80_s0l q80_s0h s_80 hT_80 hF_80 w80_0_3 w80_0_3l w80_0_3h w80_0_3e
    exact ir_iret rfl rfl ⟨_, rfl, hT_80, hF_80, by omega, by omega⟩
  refine ir_l (pc' := 1) rfl rfl rfl rfl rfl rfl ?_
  refine ir_z_ne (pt := 9) (pc' := 4) rfl rfl rfl (fun c1 => ?_) (fun c1 => ?_)
  · refine ir_l (pc' := 10) rfl rfl rfl rfl rfl rfl ?_
    refine ir_k (pc' := 11) (v := (0, 1)) rfl rfl rfl (fun _ => rfl) ?_
    refine ir_c_ne (pt := 19) (pc' := 14) rfl rfl rfl (fun c2 => ?_) (fun c2 => ?_)
    · refine ir_l (pc' := 20) rfl rfl rfl rfl rfl rfl ?_
      refine ir_k (pc' := 21) (v := (0, 2)) rfl rfl rfl (fun _ => rfl) ?_
      refine ir_c_ne (pt := 29) (pc' := 24) rfl rfl rfl (fun c3 => ?_) (fun c3 => ?_)
      · refine ir_l (pc' := 30) rfl rfl rfl rfl rfl rfl ?_
        refine ir_tgi (pc' := 33) rfl rfl rfl tf_0_3 tsk_0 hT0 (fun z4 z4e z4l z4h => ?_)
        refine ir_z_ne (pt := 38) (pc' := 36) rfl rfl rfl (fun c5 => ?_) (fun c5 => ?_)
        · refine ir_l (pc' := 39) rfl rfl rfl rfl rfl rfl ?_
          refine ir_k (pc' := 40) (v := (0, 3)) rfl rfl rfl (fun _ => rfl) ?_
          refine ir_c_ne (pt := 51) (pc' := 43) rfl rfl rfl (fun c6 => ?_) (fun c6 => ?_)
          · refine ir_l (pc' := 52) rfl rfl rfl rfl rfl rfl ?_
            refine ir_k (pc' := 53) (v := (0, 4)) rfl rfl rfl (fun _ => rfl) ?_
            refine ir_c_ne (pt := 64) (pc' := 56) rfl rfl rfl (fun c7 => ?_) (fun c7 => ?_)
            · refine ir_l (pc' := 65) rfl rfl rfl rfl rfl rfl ?_
              refine ir_k (pc' := 66) (v := (0, 5)) rfl rfl rfl (fun _ => rfl) ?_
              refine ir_c_ne (pt := 79) (pc' := 69) rfl rfl rfl (fun c8 => ?_) (fun c8 => ?_)
              · refine ir_k (pc' := 80) (v := (0, (-1))) rfl rfl rfl (fun _ => rfl) ?_
                refine ir_w [] trivial ?_
                exact J80 ((-1)) (by omega) (by omega) s0 hT0 hF0 (z4) (by omega) (by omega) z4e
              · refine ir_l (pc' := 70) rfl rfl rfl rfl rfl rfl ?_
                refine ir_tgr (pc' := 73) rfl rfl rfl tf_0_4 tsk_0 hT0 (fun b9 b9e b9k => ?_)
                obtain rfl := tsg_1 b9k
                refine ir_tgi (pc' := 76) rfl rfl rfl tf_1_7 tsk_1 hT0 (fun z10 z10e z10l z10h => ?_)
                refine ir_goto (pc' := 80) rfl rfl ?_
                refine ir_w [] trivial ?_
                exact J80 (z10) (by omega) (by omega) s0 hT0 hF0 (z4) (by omega) (by omega) z4e
            · refine ir_l (pc' := 57) rfl rfl rfl rfl rfl rfl ?_
              refine ir_tgr (pc' := 60) rfl rfl rfl tf_0_4 tsk_0 hT0 (fun b11 b11e b11k => ?_)
              obtain rfl := tsg_1 b11k
              refine ir_tgi (pc' := 63) rfl rfl rfl tf_1_4 tsk_1 hT0 (fun z12 z12e z12l z12h => ?_)
              exact ir_iret rfl rfl ⟨_, rfl, hT0, hF0, by omega, by omega⟩
          · refine ir_l (pc' := 44) rfl rfl rfl rfl rfl rfl ?_
            refine ir_tgr (pc' := 47) rfl rfl rfl tf_0_5 tsk_0 hT0 (fun b13 b13e b13k => ?_)
            obtain rfl := tsg_2 b13k
            refine ir_tgi (pc' := 50) rfl rfl rfl tf_2_11 tsk_2 hT0 (fun z14 z14e z14l z14h => ?_)
            exact ir_iret rfl rfl ⟨_, rfl, hT0, hF0, by omega, by omega⟩
        · refine ir_k (pc' := 37) (v := (0, (-1))) rfl rfl rfl (fun _ => rfl) ?_
          exact ir_iret rfl rfl ⟨_, rfl, hT0, hF0, by omega, by omega⟩
      · refine ir_l (pc' := 25) rfl rfl rfl rfl rfl rfl ?_
        refine ir_tgi (pc' := 28) rfl rfl rfl tf_0_0 tsk_0 hT0 (fun z15 z15e z15l z15h => ?_)
        exact ir_iret rfl rfl ⟨_, rfl, hT0, hF0, by omega, by omega⟩
    · refine ir_l (pc' := 15) rfl rfl rfl rfl rfl rfl ?_
      refine ir_tgi (pc' := 18) rfl rfl rfl tf_0_2 tsk_0 hT0 (fun z16 z16e z16l z16h => ?_)
      exact ir_iret rfl rfl ⟨_, rfl, hT0, hF0, by omega, by omega⟩
  · refine ir_l (pc' := 5) rfl rfl rfl rfl rfl rfl ?_
    refine ir_tgi (pc' := 8) rfl rfl rfl tf_0_1 tsk_0 hT0 (fun z17 z17e z17l z17h => ?_)
    exact ir_iret rfl rfl ⟨_, rfl, hT0, hF0, by omega, by omega⟩
theorem sf_exact9 (L : Nat) (ys : Nat → Int32) (d : Nat) (s0 : im_S) (hT0 : tI s0) (x1 : Int) (x1l : -2147483648 ≤ x1) (x1h : x1 ≤ 2147483647) (x2 : Int) (x2l : -2147483648 ≤ x2) (x2h : x2 ≤ 2147483647) : icI gG rm_P L ys 1 (d + 3) 210 [(2, ((0 : Nat) : Int)), (0, x1), (0, x2)] s0 (fun z s => tI s ∧ fr [] s0 s ∧ -9223372036854775808 ≤ z ∧ z ≤ 9223372036854775807) := by
  refine ic_startM (M := rm_p_X9_exact) om_X9_exact (Nat.le_of_ble_eq_true rfl) ?_
  refine ir_w [(0, (2, ((0 : Nat) : Int))), (1, (0, x1)), (2, (0, x2))] ⟨rfl, rfl, rfl, trivial⟩ ?_
  have hF0 := fr_refl [] s0
  have J56 : ∀ (q56_s0 : Int) (q56_s0l : -9223372036854775808 ≤ q56_s0) (q56_s0h : q56_s0 ≤ 9223372036854775807) (s_56 : im_S) (hT_56 : tI s_56) (hF_56 : fr [] s0 s_56) (w56_0_4e : s_56.1 0 4 = ((1 : Nat) : Int)), ir gG rm_P L ys (d + 2) rm_p_X9_exact (56, [], [(1, q56_s0)], s_56) (fun r : im_Re => ∃ z, r.1 = some (1, z) ∧ (tI r.2 ∧ fr [] s0 r.2 ∧ -9223372036854775808 ≤ z ∧ z ≤ 9223372036854775807)) := by
    intro q56_s0 q56_s0l q56_s0h s_56 hT_56 hF_56 w56_0_4e
    exact ir_lret rfl rfl ⟨_, rfl, hT_56, hF_56, by omega, by omega⟩
  have J17 : ∀ (s_17 : im_S) (hT_17 : tI s_17) (hF_17 : fr [] s0 s_17), ir gG rm_P L ys (d + 2) rm_p_X9_exact (17, [], [], s_17) (fun r : im_Re => ∃ z, r.1 = some (1, z) ∧ (tI r.2 ∧ fr [] s0 r.2 ∧ -9223372036854775808 ≤ z ∧ z ≤ 9223372036854775807)) := by
    intro s_17 hT_17 hF_17
    refine ir_k (pc' := 20) (v := (1, (-9000000000000000000))) rfl rfl rfl (fun _ => rfl) ?_
    exact ir_lret rfl rfl ⟨_, rfl, hT_17, hF_17, by omega, by omega⟩
  refine ir_l (pc' := 1) rfl rfl rfl rfl rfl rfl ?_
  refine ir_l (pc' := 2) rfl rfl rfl rfl rfl rfl ?_
  refine ir_cVI (pc' := 5) rfl rfl rfl rfl rfl (Nat.le_of_ble_eq_true rfl) oo_X9_isRoot (gG_at tsk_0) (sf_isRoot9 L ys (d + 1) s0 hT0 (x1) (by omega) (by omega) ) (fun z1 s2 hr => ?_)
  obtain ⟨hT2, hG2, z1l, z1h⟩ := hr
  have hF2 := fr_trans hF0 hG2 (by decide)
  refine ir_z_eq (pt := 17) (pc' := 8) rfl rfl rfl (fun c3 => ?_) (fun c3 => ?_)
  · refine ir_w [] trivial ?_
    exact J17 s2 hT2 hF2
  · refine ir_l (pc' := 9) rfl rfl rfl rfl rfl rfl ?_
    refine ir_z_lt (pt := 17) (pc' := 12) rfl rfl rfl (fun c4 => ?_) (fun c4 => ?_)
    · refine ir_w [] trivial ?_
      exact J17 s2 hT2 hF2
    · refine ir_l (pc' := 13) rfl rfl rfl rfl rfl rfl ?_
      refine ir_k (pc' := 14) (v := (0, 1)) rfl rfl rfl (fun _ => rfl) ?_
      refine ir_c_le (pt := 21) (pc' := 17) rfl rfl rfl (fun c5 => ?_) (fun c5 => ?_)
      · refine ir_l (pc' := 22) rfl rfl rfl rfl rfl rfl ?_
        refine ir_tgr (pc' := 25) rfl rfl rfl tf_0_4 tsk_0 hT2 (fun b6 b6e b6k => ?_)
        obtain rfl := tsg_1 b6k
        refine ir_l (pc' := 26) rfl rfl rfl rfl rfl rfl ?_
        refine ir_cVR (pc' := 29) rfl rfl rfl rfl rfl (Nat.le_of_ble_eq_true rfl) oo_X4_rootAt (gG_at tsk_1) (sf_rootAt4 L ys d s2 hT2 (x1) (by omega) (by omega) ) (fun b7 s8 hr => ?_)
        obtain ⟨hT8, hG8, b7k⟩ := hr
        have hF8 := fr_trans hF2 hG8 (by decide)
        have e9 : s8.1 0 4 = ((1 : Nat) : Int) := (hG8.1 _ _ tsk_0 4 (by decide)).trans b6e
        refine ir_s (pc' := 30) rfl rfl rfl rfl rfl rfl ?_
        refine ir_l (pc' := 31) rfl rfl rfl rfl rfl rfl ?_
        refine ir_tgi (pc' := 34) rfl rfl rfl tf_23_1 b7k hT8 (fun z10 z10e z10l z10h => ?_)
        refine ir_z_ne (pt := 41) (pc' := 37) rfl rfl rfl (fun c11 => ?_) (fun c11 => ?_)
        · refine ir_l (pc' := 42) rfl rfl rfl rfl rfl rfl ?_
          refine ir_z_ne (pt := 52) (pc' := 45) rfl rfl rfl (fun c12 => ?_) (fun c12 => ?_)
          · refine ir_l (pc' := 53) rfl rfl rfl rfl rfl rfl ?_
            refine ir_tgj (pc' := 56) rfl rfl rfl tf_23_3 b7k hT8 (fun z13 z13e z13l z13h => ?_)
            refine ir_w [] trivial ?_
            exact J56 (z13) (by omega) (by omega) s8 hT8 hF8 e9
          · refine ir_l (pc' := 46) rfl rfl rfl rfl rfl rfl ?_
            refine ir_tgj (pc' := 49) rfl rfl rfl tf_23_2 b7k hT8 (fun z14 z14e z14l z14h => ?_)
            refine ir_goto (pc' := 56) rfl rfl ?_
            refine ir_w [] trivial ?_
            exact J56 (z14) (by omega) (by omega) s8 hT8 hF8 e9
        · refine ir_k (pc' := 40) (v := (1, (-9000000000000000002))) rfl rfl rfl (fun _ => rfl) ?_
          exact ir_lret rfl rfl ⟨_, rfl, hT8, hF8, by omega, by omega⟩
      · refine ir_w [] trivial ?_
        exact J17 s2 hT2 hF2
