/-! WALKS OF THE CLASS'S METHODS, by program -/
theorem sf_readAll7_d1 (L : Nat) (ys : Nat → Int32) (d : Nat) (s0 : im_S) (hT0 : tI s0) (x1 : Int) (x1l : 1 ≤ x1) (x1h : x1 ≤ 1) (pr0 : s0.1 2 2 ≤ s0.1 2 1) (pr1 : (s0.1 2 4 ≠ 0 ∨ s0.1 2 3 = 0 ∨ s0.1 2 2 < s0.1 2 1)) : icV gG rm_P L ys (d + 80) 192 [(2, ((2 : Nat) : Int)), (0, x1)] s0 (fun s => tI s ∧ fr [(2, 2), (2, 3), (2, 4), (2, 5), (2, 11), (2, 13), (4, 0)] s0 s ∧ s.1 2 2 ≤ s.1 2 1 ∧ (s.1 2 4 ≠ 0 ∨ s.1 2 3 = 0 ∨ s.1 2 2 < s.1 2 1)) := by
  refine ic_startM (M := rm_p_X7_readAll) om_X7_readAll (Nat.le_of_ble_eq_true rfl) ?_
  refine ir_w [(0, (2, ((2 : Nat) : Int))), (1, (0, x1))] ⟨rfl, rfl, trivial⟩ ?_
  have hF0 := fr_refl [(2, 2), (2, 3), (2, 4), (2, 5), (2, 11), (2, 13), (4, 0)] s0
  have J44 : ∀ (s_44 : im_S) (hT_44 : tI s_44) (hF_44 : fr [(2, 2), (2, 3), (2, 4), (2, 5), (2, 11), (2, 13), (4, 0)] s0 s_44) (w44_2_1 : Int) (w44_2_1l : 0 ≤ w44_2_1) (w44_2_1h : w44_2_1 ≤ 400) (w44_2_1e : s_44.1 2 1 = w44_2_1) (w44_2_2 : Int) (w44_2_2l : 0 ≤ w44_2_2) (w44_2_2h : w44_2_2 ≤ 400) (w44_2_2e : s_44.1 2 2 = w44_2_2) (w44_2_3 : Int) (w44_2_3l : 0 ≤ w44_2_3) (w44_2_3h : w44_2_3 ≤ 65535) (w44_2_3e : s_44.1 2 3 = w44_2_3) (w44_2_4 : Int) (w44_2_4l : 0 ≤ w44_2_4) (w44_2_4h : w44_2_4 ≤ 3) (w44_2_4e : s_44.1 2 4 = w44_2_4) (i44_0 : w44_2_2 ≤ w44_2_1) (i44_1 : (w44_2_4 ≠ 0 ∨ w44_2_3 = 0 ∨ w44_2_2 < w44_2_1)), ir gG rm_P L ys (d + 79) rm_p_X7_readAll (44, [], [], s_44) (fun r : im_Re => r.1 = none ∧ (tI r.2 ∧ fr [(2, 2), (2, 3), (2, 4), (2, 5), (2, 11), (2, 13), (4, 0)] s0 r.2 ∧ r.2.1 2 2 ≤ r.2.1 2 1 ∧ (r.2.1 2 4 ≠ 0 ∨ r.2.1 2 3 = 0 ∨ r.2.1 2 2 < r.2.1 2 1))) := by
    intro s_44 hT_44 hF_44 w44_2_1 w44_2_1l w44_2_1h w44_2_1e w44_2_2 w44_2_2l w44_2_2h w44_2_2e w44_2_3 w44_2_3l w44_2_3h w44_2_3e w44_2_4 w44_2_4l w44_2_4h w44_2_4e i44_0 i44_1
    exact ir_vret rfl rfl ⟨rfl, hT_44, hF_44, (by first | omega | (dsimp only; omega)), (by first | omega | (dsimp only; omega))⟩
  have J7 : ∀ n : Nat, ∀ (q7_l2 : Int) (q7_l2l : 0 ≤ q7_l2) (q7_l2h : q7_l2 ≤ 400) (s_7 : im_S) (hT_7 : tI s_7) (hF_7 : fr [(2, 2), (2, 3), (2, 4), (2, 5), (2, 11), (2, 13), (4, 0)] s0 s_7) (w7_2_1 : Int) (w7_2_1l : 0 ≤ w7_2_1) (w7_2_1h : w7_2_1 ≤ 400) (w7_2_1e : s_7.1 2 1 = w7_2_1) (w7_2_2 : Int) (w7_2_2l : 0 ≤ w7_2_2) (w7_2_2h : w7_2_2 ≤ 400) (w7_2_2e : s_7.1 2 2 = w7_2_2) (w7_2_3 : Int) (w7_2_3l : 0 ≤ w7_2_3) (w7_2_3h : w7_2_3 ≤ 65535) (w7_2_3e : s_7.1 2 3 = w7_2_3) (w7_2_4 : Int) (w7_2_4l : 0 ≤ w7_2_4) (w7_2_4h : w7_2_4 ≤ 3) (w7_2_4e : s_7.1 2 4 = w7_2_4) (i7_0 : w7_2_2 ≤ w7_2_1) (i7_1 : (w7_2_4 ≠ 0 ∨ w7_2_3 = 0 ∨ w7_2_2 < w7_2_1)), (400 + 1 - q7_l2) ≤ (n : Int) → ir gG rm_P L ys (d + 79) rm_p_X7_readAll (7, [(0, (2, ((2 : Nat) : Int))), (1, (0, x1)), (2, (0, q7_l2))], [], s_7) (fun r : im_Re => r.1 = none ∧ (tI r.2 ∧ fr [(2, 2), (2, 3), (2, 4), (2, 5), (2, 11), (2, 13), (4, 0)] s0 r.2 ∧ r.2.1 2 2 ≤ r.2.1 2 1 ∧ (r.2.1 2 4 ≠ 0 ∨ r.2.1 2 3 = 0 ∨ r.2.1 2 2 < r.2.1 2 1))) := by
    intro n
    induction n with
    | zero => intro q7_l2 q7_l2l q7_l2h s_7 hT_7 hF_7 w7_2_1 w7_2_1l w7_2_1h w7_2_1e w7_2_2 w7_2_2l w7_2_2h w7_2_2e w7_2_3 w7_2_3l w7_2_3h w7_2_3e w7_2_4 w7_2_4l w7_2_4h w7_2_4e i7_0 i7_1 hr; exfalso; omega
    | succ n ih7 =>
      intro q7_l2 q7_l2l q7_l2h s_7 hT_7 hF_7 w7_2_1 w7_2_1l w7_2_1h w7_2_1e w7_2_2 w7_2_2l w7_2_2h w7_2_2e w7_2_3 w7_2_3l w7_2_3h w7_2_3e w7_2_4 w7_2_4l w7_2_4h w7_2_4e i7_0 i7_1 hr
      refine ir_l (pc' := 8) rfl rfl rfl rfl rfl rfl ?_
      refine ir_k (pc' := 11) (v := (0, 400)) rfl rfl rfl (fun _ => rfl) ?_
      refine ir_c_ge (pt := 44) (pc' := 14) rfl rfl rfl (fun c1 => ?_) (fun c1 => ?_)
      · refine ir_w [] trivial ?_
        exact J44 s_7 hT_7 hF_7 (w7_2_1) (by omega) (by omega) w7_2_1e (w7_2_2) (by omega) (by omega) w7_2_2e (w7_2_3) (by omega) (by omega) w7_2_3e (w7_2_4) (by omega) (by omega) w7_2_4e (by omega) (by omega)
      · refine ir_l (pc' := 15) rfl rfl rfl rfl rfl rfl ?_
        refine ir_getI (pc' := 18) rfl rfl rfl (gG_at tsk_2) rfl (by decide) (by decide) w7_2_3e (by omega) (by omega) ?_
        refine ir_k (pc' := 20) (v := (0, 38)) rfl rfl rfl (fun _ => rfl) ?_
        refine ir_c_ne (pt := 44) (pc' := 23) rfl rfl rfl (fun c2 => ?_) (fun c2 => ?_)
        · refine ir_w [] trivial ?_
          exact J44 s_7 hT_7 hF_7 (w7_2_1) (by omega) (by omega) w7_2_1e (w7_2_2) (by omega) (by omega) w7_2_2e (w7_2_3) (by omega) (by omega) w7_2_3e (w7_2_4) (by omega) (by omega) w7_2_4e (by omega) (by omega)
        · refine ir_l (pc' := 24) rfl rfl rfl rfl rfl rfl ?_
          refine ir_cVV (pc' := 27) rfl rfl rfl rfl rfl (Nat.le_of_ble_eq_true rfl) oo_X7_step (gG_at tsk_2) (sf_step7 L ys (d + 73) s_7 hT_7  (by omega) (by omega) (by omega)) (fun s4 hr => ?_)
          obtain ⟨hT4, hG4, p4_0, p4_1⟩ := hr
          have hF4 := fr_trans hF_7 hG4 (by decide)
          have e5 : s4.1 2 1 = w7_2_1 := (hG4.1 _ _ tsk_2 1 (by decide)).trans w7_2_1e
          obtain ⟨z6, z6e, z6l, z6h⟩ := tI_i tf_2_2 tsk_2 hT4
          obtain ⟨z7, z7e, z7l, z7h⟩ := tI_i tf_2_3 tsk_2 hT4
          obtain ⟨z8, z8e, z8l, z8h⟩ := tI_i tf_2_4 tsk_2 hT4
          refine ir_l (pc' := 28) rfl rfl rfl rfl rfl rfl ?_
          refine ir_l (pc' := 29) rfl rfl rfl rfl rfl rfl ?_
          refine ir_cVV (pc' := 32) rfl rfl rfl rfl rfl (Nat.le_of_ble_eq_true rfl) oo_X7_readOne (gG_at tsk_2) (sf_readOne7_d1 L ys d s4 hT4 (x1) (by omega) (by omega) (by omega) (by omega)) (fun s10 hr => ?_)
          obtain ⟨hT10, hG10, p10_0, p10_1⟩ := hr
          have hF10 := fr_trans hF4 hG10 (by decide)
          have e11 : s10.1 2 1 = w7_2_1 := (hG10.1 _ _ tsk_2 1 (by decide)).trans e5
          obtain ⟨z12, z12e, z12l, z12h⟩ := tI_i tf_2_2 tsk_2 hT10
          obtain ⟨z13, z13e, z13l, z13h⟩ := tI_i tf_2_3 tsk_2 hT10
          obtain ⟨z14, z14e, z14l, z14h⟩ := tI_i tf_2_4 tsk_2 hT10
          refine ir_l (pc' := 33) rfl rfl rfl rfl rfl rfl ?_
          refine ir_k (pc' := 35) (v := (0, 11)) rfl rfl rfl (fun _ => rfl) ?_
          refine ir_cVV (pc' := 38) rfl rfl rfl rfl rfl (Nat.le_of_ble_eq_true rfl) oo_X7_emit (gG_at tsk_2) (sf_emit7 L ys (d + 78) s10 hT10 (11) (by omega) (by omega) ) (fun s16 hr => ?_)
          obtain ⟨hT16, hG16⟩ := hr
          have hF16 := fr_trans hF10 hG16 (by decide)
          have e17 : s16.1 2 1 = w7_2_1 := (hG16.1 _ _ tsk_2 1 (by decide)).trans e11
          have e18 : s16.1 2 2 = z12 := (hG16.1 _ _ tsk_2 2 (by decide)).trans z12e
          have e19 : s16.1 2 3 = z13 := (hG16.1 _ _ tsk_2 3 (by decide)).trans z13e
          have e20 : s16.1 2 4 = z14 := (hG16.1 _ _ tsk_2 4 (by decide)).trans z14e
          refine ir_inc (pc' := 41) rfl rfl rfl rfl rfl (by omega) (by omega) ?_
          refine ir_goto (pc' := 7) rfl rfl ?_
          refine ir_w [(0, (2, ((2 : Nat) : Int))), (1, (0, x1)), (2, (0, (q7_l2 + 1)))] ⟨rfl, rfl, rfl, trivial⟩ ?_
          exact ih7 ((q7_l2 + 1)) (by omega) (by omega) s16 hT16 hF16 (w7_2_1) (by omega) (by omega) e17 (z12) (by omega) (by omega) e18 (z13) (by omega) (by omega) e19 (z14) (by omega) (by omega) e20 (by omega) (by omega) (by omega)
  obtain ⟨z21, z21e, z21l, z21h⟩ := tI_i tf_2_1 tsk_2 hT0
  obtain ⟨z22, z22e, z22l, z22h⟩ := tI_i tf_2_2 tsk_2 hT0
  obtain ⟨z23, z23e, z23l, z23h⟩ := tI_i tf_2_3 tsk_2 hT0
  obtain ⟨z24, z24e, z24l, z24h⟩ := tI_i tf_2_4 tsk_2 hT0
  refine ir_l (pc' := 1) rfl rfl rfl rfl rfl rfl ?_
  refine ir_l (pc' := 2) rfl rfl rfl rfl rfl rfl ?_
  refine ir_cVV (pc' := 5) rfl rfl rfl rfl rfl (Nat.le_of_ble_eq_true rfl) oo_X7_readOne (gG_at tsk_2) (sf_readOne7_d1 L ys d s0 hT0 (x1) (by omega) (by omega) (by omega) (by omega)) (fun s26 hr => ?_)
  obtain ⟨hT26, hG26, p26_0, p26_1⟩ := hr
  have hF26 := fr_trans hF0 hG26 (by decide)
  have e27 : s26.1 2 1 = z21 := (hG26.1 _ _ tsk_2 1 (by decide)).trans z21e
  obtain ⟨z28, z28e, z28l, z28h⟩ := tI_i tf_2_2 tsk_2 hT26
  obtain ⟨z29, z29e, z29l, z29h⟩ := tI_i tf_2_3 tsk_2 hT26
  obtain ⟨z30, z30e, z30l, z30h⟩ := tI_i tf_2_4 tsk_2 hT26
  refine ir_k (pc' := 6) (v := (0, 0)) rfl rfl rfl (fun _ => rfl) ?_
  refine ir_s (pc' := 7) rfl rfl rfl rfl rfl rfl ?_
  refine ir_w [(0, (2, ((2 : Nat) : Int))), (1, (0, x1)), (2, (0, 0))] ⟨rfl, rfl, rfl, trivial⟩ ?_
  exact J7 _ (0) (by omega) (by omega) s26 hT26 hF26 (z21) (by omega) (by omega) e27 (z28) (by omega) (by omega) z28e (z29) (by omega) (by omega) z29e (z30) (by omega) (by omega) z30e (by omega) (by omega) (Int.self_le_toNat _)
theorem sf_readText7_d1 (L : Nat) (ys : Nat → Int32) (d : Nat) (s0 : im_S) (hT0 : tI s0) (x1 : Int) (x1l : 1 ≤ x1) (x1h : x1 ≤ 1) (pr0 : s0.1 2 2 ≤ s0.1 2 1) (pr1 : (s0.1 2 4 ≠ 0 ∨ s0.1 2 3 = 0 ∨ s0.1 2 2 < s0.1 2 1)) : icV gG rm_P L ys (d + 81) 200 [(2, ((2 : Nat) : Int)), (0, x1)] s0 (fun s => tI s ∧ fr [(2, 2), (2, 3), (2, 4), (2, 5), (2, 11), (2, 13), (4, 0)] s0 s ∧ s.1 2 2 ≤ s.1 2 1 ∧ (s.1 2 4 ≠ 0 ∨ s.1 2 3 = 0 ∨ s.1 2 2 < s.1 2 1)) := by
  refine ic_startM (M := rm_p_X7_readText) om_X7_readText (Nat.le_of_ble_eq_true rfl) ?_
  refine ir_w [(0, (2, ((2 : Nat) : Int))), (1, (0, x1))] ⟨rfl, rfl, trivial⟩ ?_
  have hF0 := fr_refl [(2, 2), (2, 3), (2, 4), (2, 5), (2, 11), (2, 13), (4, 0)] s0
  have J44 : ∀ (s_44 : im_S) (hT_44 : tI s_44) (hF_44 : fr [(2, 2), (2, 3), (2, 4), (2, 5), (2, 11), (2, 13), (4, 0)] s0 s_44) (w44_2_1 : Int) (w44_2_1l : 0 ≤ w44_2_1) (w44_2_1h : w44_2_1 ≤ 400) (w44_2_1e : s_44.1 2 1 = w44_2_1) (w44_2_2 : Int) (w44_2_2l : 0 ≤ w44_2_2) (w44_2_2h : w44_2_2 ≤ 400) (w44_2_2e : s_44.1 2 2 = w44_2_2) (w44_2_3 : Int) (w44_2_3l : 0 ≤ w44_2_3) (w44_2_3h : w44_2_3 ≤ 65535) (w44_2_3e : s_44.1 2 3 = w44_2_3) (w44_2_4 : Int) (w44_2_4l : 0 ≤ w44_2_4) (w44_2_4h : w44_2_4 ≤ 3) (w44_2_4e : s_44.1 2 4 = w44_2_4) (i44_0 : w44_2_2 ≤ w44_2_1) (i44_1 : (w44_2_4 ≠ 0 ∨ w44_2_3 = 0 ∨ w44_2_2 < w44_2_1)), ir gG rm_P L ys (d + 80) rm_p_X7_readText (44, [], [], s_44) (fun r : im_Re => r.1 = none ∧ (tI r.2 ∧ fr [(2, 2), (2, 3), (2, 4), (2, 5), (2, 11), (2, 13), (4, 0)] s0 r.2 ∧ r.2.1 2 2 ≤ r.2.1 2 1 ∧ (r.2.1 2 4 ≠ 0 ∨ r.2.1 2 3 = 0 ∨ r.2.1 2 2 < r.2.1 2 1))) := by
    intro s_44 hT_44 hF_44 w44_2_1 w44_2_1l w44_2_1h w44_2_1e w44_2_2 w44_2_2l w44_2_2h w44_2_2e w44_2_3 w44_2_3l w44_2_3h w44_2_3e w44_2_4 w44_2_4l w44_2_4h w44_2_4e i44_0 i44_1
    exact ir_vret rfl rfl ⟨rfl, hT_44, hF_44, (by first | omega | (dsimp only; omega)), (by first | omega | (dsimp only; omega))⟩
  have J7 : ∀ n : Nat, ∀ (q7_l2 : Int) (q7_l2l : 0 ≤ q7_l2) (q7_l2h : q7_l2 ≤ 400) (s_7 : im_S) (hT_7 : tI s_7) (hF_7 : fr [(2, 2), (2, 3), (2, 4), (2, 5), (2, 11), (2, 13), (4, 0)] s0 s_7) (w7_2_1 : Int) (w7_2_1l : 0 ≤ w7_2_1) (w7_2_1h : w7_2_1 ≤ 400) (w7_2_1e : s_7.1 2 1 = w7_2_1) (w7_2_2 : Int) (w7_2_2l : 0 ≤ w7_2_2) (w7_2_2h : w7_2_2 ≤ 400) (w7_2_2e : s_7.1 2 2 = w7_2_2) (w7_2_3 : Int) (w7_2_3l : 0 ≤ w7_2_3) (w7_2_3h : w7_2_3 ≤ 65535) (w7_2_3e : s_7.1 2 3 = w7_2_3) (w7_2_4 : Int) (w7_2_4l : 0 ≤ w7_2_4) (w7_2_4h : w7_2_4 ≤ 3) (w7_2_4e : s_7.1 2 4 = w7_2_4) (i7_0 : w7_2_2 ≤ w7_2_1) (i7_1 : (w7_2_4 ≠ 0 ∨ w7_2_3 = 0 ∨ w7_2_2 < w7_2_1)), (400 + 1 - q7_l2) ≤ (n : Int) → ir gG rm_P L ys (d + 80) rm_p_X7_readText (7, [(0, (2, ((2 : Nat) : Int))), (1, (0, x1)), (2, (0, q7_l2))], [], s_7) (fun r : im_Re => r.1 = none ∧ (tI r.2 ∧ fr [(2, 2), (2, 3), (2, 4), (2, 5), (2, 11), (2, 13), (4, 0)] s0 r.2 ∧ r.2.1 2 2 ≤ r.2.1 2 1 ∧ (r.2.1 2 4 ≠ 0 ∨ r.2.1 2 3 = 0 ∨ r.2.1 2 2 < r.2.1 2 1))) := by
    intro n
    induction n with
    | zero => intro q7_l2 q7_l2l q7_l2h s_7 hT_7 hF_7 w7_2_1 w7_2_1l w7_2_1h w7_2_1e w7_2_2 w7_2_2l w7_2_2h w7_2_2e w7_2_3 w7_2_3l w7_2_3h w7_2_3e w7_2_4 w7_2_4l w7_2_4h w7_2_4e i7_0 i7_1 hr; exfalso; omega
    | succ n ih7 =>
      intro q7_l2 q7_l2l q7_l2h s_7 hT_7 hF_7 w7_2_1 w7_2_1l w7_2_1h w7_2_1e w7_2_2 w7_2_2l w7_2_2h w7_2_2e w7_2_3 w7_2_3l w7_2_3h w7_2_3e w7_2_4 w7_2_4l w7_2_4h w7_2_4e i7_0 i7_1 hr
      refine ir_l (pc' := 8) rfl rfl rfl rfl rfl rfl ?_
      refine ir_k (pc' := 11) (v := (0, 400)) rfl rfl rfl (fun _ => rfl) ?_
      refine ir_c_ge (pt := 44) (pc' := 14) rfl rfl rfl (fun c1 => ?_) (fun c1 => ?_)
      · refine ir_w [] trivial ?_
        exact J44 s_7 hT_7 hF_7 (w7_2_1) (by omega) (by omega) w7_2_1e (w7_2_2) (by omega) (by omega) w7_2_2e (w7_2_3) (by omega) (by omega) w7_2_3e (w7_2_4) (by omega) (by omega) w7_2_4e (by omega) (by omega)
      · refine ir_l (pc' := 15) rfl rfl rfl rfl rfl rfl ?_
        refine ir_getI (pc' := 18) rfl rfl rfl (gG_at tsk_2) rfl (by decide) (by decide) w7_2_3e (by omega) (by omega) ?_
        refine ir_k (pc' := 20) (v := (0, 124)) rfl rfl rfl (fun _ => rfl) ?_
        refine ir_c_ne (pt := 44) (pc' := 23) rfl rfl rfl (fun c2 => ?_) (fun c2 => ?_)
        · refine ir_w [] trivial ?_
          exact J44 s_7 hT_7 hF_7 (w7_2_1) (by omega) (by omega) w7_2_1e (w7_2_2) (by omega) (by omega) w7_2_2e (w7_2_3) (by omega) (by omega) w7_2_3e (w7_2_4) (by omega) (by omega) w7_2_4e (by omega) (by omega)
        · refine ir_l (pc' := 24) rfl rfl rfl rfl rfl rfl ?_
          refine ir_cVV (pc' := 27) rfl rfl rfl rfl rfl (Nat.le_of_ble_eq_true rfl) oo_X7_step (gG_at tsk_2) (sf_step7 L ys (d + 74) s_7 hT_7  (by omega) (by omega) (by omega)) (fun s4 hr => ?_)
          obtain ⟨hT4, hG4, p4_0, p4_1⟩ := hr
          have hF4 := fr_trans hF_7 hG4 (by decide)
          have e5 : s4.1 2 1 = w7_2_1 := (hG4.1 _ _ tsk_2 1 (by decide)).trans w7_2_1e
          obtain ⟨z6, z6e, z6l, z6h⟩ := tI_i tf_2_2 tsk_2 hT4
          obtain ⟨z7, z7e, z7l, z7h⟩ := tI_i tf_2_3 tsk_2 hT4
          obtain ⟨z8, z8e, z8l, z8h⟩ := tI_i tf_2_4 tsk_2 hT4
          refine ir_l (pc' := 28) rfl rfl rfl rfl rfl rfl ?_
          refine ir_l (pc' := 29) rfl rfl rfl rfl rfl rfl ?_
          refine ir_cVV (pc' := 32) rfl rfl rfl rfl rfl (Nat.le_of_ble_eq_true rfl) oo_X7_readAll (gG_at tsk_2) (sf_readAll7_d1 L ys d s4 hT4 (x1) (by omega) (by omega) (by omega) (by omega)) (fun s10 hr => ?_)
          obtain ⟨hT10, hG10, p10_0, p10_1⟩ := hr
          have hF10 := fr_trans hF4 hG10 (by decide)
          have e11 : s10.1 2 1 = w7_2_1 := (hG10.1 _ _ tsk_2 1 (by decide)).trans e5
          obtain ⟨z12, z12e, z12l, z12h⟩ := tI_i tf_2_2 tsk_2 hT10
          obtain ⟨z13, z13e, z13l, z13h⟩ := tI_i tf_2_3 tsk_2 hT10
          obtain ⟨z14, z14e, z14l, z14h⟩ := tI_i tf_2_4 tsk_2 hT10
          refine ir_l (pc' := 33) rfl rfl rfl rfl rfl rfl ?_
          refine ir_k (pc' := 35) (v := (0, 12)) rfl rfl rfl (fun _ => rfl) ?_
          refine ir_cVV (pc' := 38) rfl rfl rfl rfl rfl (Nat.le_of_ble_eq_true rfl) oo_X7_emit (gG_at tsk_2) (sf_emit7 L ys (d + 79) s10 hT10 (12) (by omega) (by omega) ) (fun s16 hr => ?_)
          obtain ⟨hT16, hG16⟩ := hr
          have hF16 := fr_trans hF10 hG16 (by decide)
          have e17 : s16.1 2 1 = w7_2_1 := (hG16.1 _ _ tsk_2 1 (by decide)).trans e11
          have e18 : s16.1 2 2 = z12 := (hG16.1 _ _ tsk_2 2 (by decide)).trans z12e
          have e19 : s16.1 2 3 = z13 := (hG16.1 _ _ tsk_2 3 (by decide)).trans z13e
          have e20 : s16.1 2 4 = z14 := (hG16.1 _ _ tsk_2 4 (by decide)).trans z14e
          refine ir_inc (pc' := 41) rfl rfl rfl rfl rfl (by omega) (by omega) ?_
          refine ir_goto (pc' := 7) rfl rfl ?_
          refine ir_w [(0, (2, ((2 : Nat) : Int))), (1, (0, x1)), (2, (0, (q7_l2 + 1)))] ⟨rfl, rfl, rfl, trivial⟩ ?_
          exact ih7 ((q7_l2 + 1)) (by omega) (by omega) s16 hT16 hF16 (w7_2_1) (by omega) (by omega) e17 (z12) (by omega) (by omega) e18 (z13) (by omega) (by omega) e19 (z14) (by omega) (by omega) e20 (by omega) (by omega) (by omega)
  obtain ⟨z21, z21e, z21l, z21h⟩ := tI_i tf_2_1 tsk_2 hT0
  obtain ⟨z22, z22e, z22l, z22h⟩ := tI_i tf_2_2 tsk_2 hT0
  obtain ⟨z23, z23e, z23l, z23h⟩ := tI_i tf_2_3 tsk_2 hT0
  obtain ⟨z24, z24e, z24l, z24h⟩ := tI_i tf_2_4 tsk_2 hT0
  refine ir_l (pc' := 1) rfl rfl rfl rfl rfl rfl ?_
  refine ir_l (pc' := 2) rfl rfl rfl rfl rfl rfl ?_
  refine ir_cVV (pc' := 5) rfl rfl rfl rfl rfl (Nat.le_of_ble_eq_true rfl) oo_X7_readAll (gG_at tsk_2) (sf_readAll7_d1 L ys d s0 hT0 (x1) (by omega) (by omega) (by omega) (by omega)) (fun s26 hr => ?_)
  obtain ⟨hT26, hG26, p26_0, p26_1⟩ := hr
  have hF26 := fr_trans hF0 hG26 (by decide)
  have e27 : s26.1 2 1 = z21 := (hG26.1 _ _ tsk_2 1 (by decide)).trans z21e
  obtain ⟨z28, z28e, z28l, z28h⟩ := tI_i tf_2_2 tsk_2 hT26
  obtain ⟨z29, z29e, z29l, z29h⟩ := tI_i tf_2_3 tsk_2 hT26
  obtain ⟨z30, z30e, z30l, z30h⟩ := tI_i tf_2_4 tsk_2 hT26
  refine ir_k (pc' := 6) (v := (0, 0)) rfl rfl rfl (fun _ => rfl) ?_
  refine ir_s (pc' := 7) rfl rfl rfl rfl rfl rfl ?_
  refine ir_w [(0, (2, ((2 : Nat) : Int))), (1, (0, x1)), (2, (0, 0))] ⟨rfl, rfl, rfl, trivial⟩ ?_
  exact J7 _ (0) (by omega) (by omega) s26 hT26 hF26 (z21) (by omega) (by omega) e27 (z28) (by omega) (by omega) z28e (z29) (by omega) (by omega) z29e (z30) (by omega) (by omega) z30e (by omega) (by omega) (Int.self_le_toNat _)
theorem sf_readOne7_d0 (L : Nat) (ys : Nat → Int32) (d : Nat) (s0 : im_S) (hT0 : tI s0) (x1 : Int) (x1l : 0 ≤ x1) (x1h : x1 ≤ 0) (pr0 : s0.1 2 2 ≤ s0.1 2 1) (pr1 : (s0.1 2 4 ≠ 0 ∨ s0.1 2 3 = 0 ∨ s0.1 2 2 < s0.1 2 1)) : icV gG rm_P L ys (d + 82) 196 [(2, ((2 : Nat) : Int)), (0, x1)] s0 (fun s => tI s ∧ fr [(2, 2), (2, 3), (2, 4), (2, 5), (2, 11), (2, 13), (4, 0)] s0 s ∧ s.1 2 2 ≤ s.1 2 1 ∧ (s.1 2 4 ≠ 0 ∨ s.1 2 3 = 0 ∨ s.1 2 2 < s.1 2 1)) := by
  refine ic_startM (M := rm_p_X7_readOne) om_X7_readOne (Nat.le_of_ble_eq_true rfl) ?_
  refine ir_w [(0, (2, ((2 : Nat) : Int))), (1, (0, x1))] ⟨rfl, rfl, trivial⟩ ?_
  have hF0 := fr_refl [(2, 2), (2, 3), (2, 4), (2, 5), (2, 11), (2, 13), (4, 0)] s0
  have J115 : ∀ (s_115 : im_S) (hT_115 : tI s_115) (hF_115 : fr [(2, 2), (2, 3), (2, 4), (2, 5), (2, 11), (2, 13), (4, 0)] s0 s_115) (w115_2_1 : Int) (w115_2_1l : 0 ≤ w115_2_1) (w115_2_1h : w115_2_1 ≤ 400) (w115_2_1e : s_115.1 2 1 = w115_2_1) (w115_2_2 : Int) (w115_2_2l : 0 ≤ w115_2_2) (w115_2_2h : w115_2_2 ≤ 400) (w115_2_2e : s_115.1 2 2 = w115_2_2) (w115_2_3 : Int) (w115_2_3l : 0 ≤ w115_2_3) (w115_2_3h : w115_2_3 ≤ 65535) (w115_2_3e : s_115.1 2 3 = w115_2_3) (w115_2_4 : Int) (w115_2_4l : 0 ≤ w115_2_4) (w115_2_4h : w115_2_4 ≤ 3) (w115_2_4e : s_115.1 2 4 = w115_2_4) (i115_0 : w115_2_2 ≤ w115_2_1) (i115_1 : (w115_2_4 ≠ 0 ∨ w115_2_3 = 0 ∨ w115_2_2 < w115_2_1)), ir gG rm_P L ys (d + 81) rm_p_X7_readOne (115, [], [], s_115) (fun r : im_Re => r.1 = none ∧ (tI r.2 ∧ fr [(2, 2), (2, 3), (2, 4), (2, 5), (2, 11), (2, 13), (4, 0)] s0 r.2 ∧ r.2.1 2 2 ≤ r.2.1 2 1 ∧ (r.2.1 2 4 ≠ 0 ∨ r.2.1 2 3 = 0 ∨ r.2.1 2 2 < r.2.1 2 1))) := by
    intro s_115 hT_115 hF_115 w115_2_1 w115_2_1l w115_2_1h w115_2_1e w115_2_2 w115_2_2l w115_2_2h w115_2_2e w115_2_3 w115_2_3l w115_2_3h w115_2_3e w115_2_4 w115_2_4l w115_2_4h w115_2_4e i115_0 i115_1
    exact ir_vret rfl rfl ⟨rfl, hT_115, hF_115, (by first | omega | (dsimp only; omega)), (by first | omega | (dsimp only; omega))⟩
  have J102 : ∀ (q102_l2 : Int) (q102_l2l : 0 ≤ q102_l2) (q102_l2h : q102_l2 ≤ 10) (s_102 : im_S) (hT_102 : tI s_102) (hF_102 : fr [(2, 2), (2, 3), (2, 4), (2, 5), (2, 11), (2, 13), (4, 0)] s0 s_102) (w102_2_1 : Int) (w102_2_1l : 0 ≤ w102_2_1) (w102_2_1h : w102_2_1 ≤ 400) (w102_2_1e : s_102.1 2 1 = w102_2_1) (w102_2_2 : Int) (w102_2_2l : 0 ≤ w102_2_2) (w102_2_2h : w102_2_2 ≤ 400) (w102_2_2e : s_102.1 2 2 = w102_2_2) (w102_2_3 : Int) (w102_2_3l : 0 ≤ w102_2_3) (w102_2_3h : w102_2_3 ≤ 65535) (w102_2_3e : s_102.1 2 3 = w102_2_3) (w102_2_4 : Int) (w102_2_4l : 0 ≤ w102_2_4) (w102_2_4h : w102_2_4 ≤ 3) (w102_2_4e : s_102.1 2 4 = w102_2_4) (i102_0 : w102_2_2 ≤ w102_2_1) (i102_1 : (w102_2_4 ≠ 0 ∨ w102_2_3 = 0 ∨ w102_2_2 < w102_2_1)), ir gG rm_P L ys (d + 81) rm_p_X7_readOne (102, [(0, (2, ((2 : Nat) : Int))), (2, (0, q102_l2))], [], s_102) (fun r : im_Re => r.1 = none ∧ (tI r.2 ∧ fr [(2, 2), (2, 3), (2, 4), (2, 5), (2, 11), (2, 13), (4, 0)] s0 r.2 ∧ r.2.1 2 2 ≤ r.2.1 2 1 ∧ (r.2.1 2 4 ≠ 0 ∨ r.2.1 2 3 = 0 ∨ r.2.1 2 2 < r.2.1 2 1))) := by
    intro q102_l2 q102_l2l q102_l2h s_102 hT_102 hF_102 w102_2_1 w102_2_1l w102_2_1h w102_2_1e w102_2_2 w102_2_2l w102_2_2h w102_2_2e w102_2_3 w102_2_3l w102_2_3h w102_2_3e w102_2_4 w102_2_4l w102_2_4h w102_2_4e i102_0 i102_1
    refine ir_l (pc' := 103) rfl rfl rfl rfl rfl rfl ?_
    refine ir_k (pc' := 104) (v := (0, 2)) rfl rfl rfl (fun _ => rfl) ?_
    refine ir_remN (pc' := 105) rfl rfl (by omega) (by omega) (by omega) (by omega) ?_
    refine ir_k (pc' := 106) (v := (0, 1)) rfl rfl rfl (fun _ => rfl) ?_
    refine ir_c_ne (pt := 115) (pc' := 109) rfl rfl rfl (fun c1 => ?_) (fun c1 => ?_)
    · refine ir_w [] trivial ?_
      exact J115 s_102 hT_102 hF_102 (w102_2_1) (by omega) (by omega) w102_2_1e (w102_2_2) (by omega) (by omega) w102_2_2e (w102_2_3) (by omega) (by omega) w102_2_3e (w102_2_4) (by omega) (by omega) w102_2_4e (by omega) (by omega)
    · refine ir_l (pc' := 110) rfl rfl rfl rfl rfl rfl ?_
      refine ir_k (pc' := 112) (v := (0, 10)) rfl rfl rfl (fun _ => rfl) ?_
      refine ir_cVV (pc' := 115) rfl rfl rfl rfl rfl (Nat.le_of_ble_eq_true rfl) oo_X7_emit (gG_at tsk_2) (sf_emit7 L ys (d + 80) s_102 hT_102 (10) (by omega) (by omega) ) (fun s3 hr => ?_)
      obtain ⟨hT3, hG3⟩ := hr
      have hF3 := fr_trans hF_102 hG3 (by decide)
      have e4 : s3.1 2 1 = w102_2_1 := (hG3.1 _ _ tsk_2 1 (by decide)).trans w102_2_1e
      have e5 : s3.1 2 2 = w102_2_2 := (hG3.1 _ _ tsk_2 2 (by decide)).trans w102_2_2e
      have e6 : s3.1 2 3 = w102_2_3 := (hG3.1 _ _ tsk_2 3 (by decide)).trans w102_2_3e
      have e7 : s3.1 2 4 = w102_2_4 := (hG3.1 _ _ tsk_2 4 (by decide)).trans w102_2_4e
      refine ir_w [] trivial ?_
      exact J115 s3 hT3 hF3 (w102_2_1) (by omega) (by omega) e4 (w102_2_2) (by omega) (by omega) e5 (w102_2_3) (by omega) (by omega) e6 (w102_2_4) (by omega) (by omega) e7 (by omega) (by omega)
  have J51 : ∀ (q51_l2 : Int) (q51_l2l : 0 ≤ q51_l2) (q51_l2h : q51_l2 ≤ 10) (s_51 : im_S) (hT_51 : tI s_51) (hF_51 : fr [(2, 2), (2, 3), (2, 4), (2, 5), (2, 11), (2, 13), (4, 0)] s0 s_51) (w51_2_1 : Int) (w51_2_1l : 0 ≤ w51_2_1) (w51_2_1h : w51_2_1 ≤ 400) (w51_2_1e : s_51.1 2 1 = w51_2_1) (w51_2_2 : Int) (w51_2_2l : 0 ≤ w51_2_2) (w51_2_2h : w51_2_2 ≤ 400) (w51_2_2e : s_51.1 2 2 = w51_2_2) (w51_2_3 : Int) (w51_2_3l : 0 ≤ w51_2_3) (w51_2_3h : w51_2_3 ≤ 65535) (w51_2_3e : s_51.1 2 3 = w51_2_3) (w51_2_4 : Int) (w51_2_4l : 0 ≤ w51_2_4) (w51_2_4h : w51_2_4 ≤ 3) (w51_2_4e : s_51.1 2 4 = w51_2_4) (i51_0 : w51_2_2 ≤ w51_2_1) (i51_1 : (w51_2_4 ≠ 0 ∨ w51_2_3 = 0 ∨ w51_2_2 < w51_2_1)), ir gG rm_P L ys (d + 81) rm_p_X7_readOne (51, [(0, (2, ((2 : Nat) : Int))), (1, (0, x1)), (2, (0, q51_l2))], [], s_51) (fun r : im_Re => r.1 = none ∧ (tI r.2 ∧ fr [(2, 2), (2, 3), (2, 4), (2, 5), (2, 11), (2, 13), (4, 0)] s0 r.2 ∧ r.2.1 2 2 ≤ r.2.1 2 1 ∧ (r.2.1 2 4 ≠ 0 ∨ r.2.1 2 3 = 0 ∨ r.2.1 2 2 < r.2.1 2 1))) := by
    intro q51_l2 q51_l2l q51_l2h s_51 hT_51 hF_51 w51_2_1 w51_2_1l w51_2_1h w51_2_1e w51_2_2 w51_2_2l w51_2_2h w51_2_2e w51_2_3 w51_2_3l w51_2_3h w51_2_3e w51_2_4 w51_2_4l w51_2_4h w51_2_4e i51_0 i51_1
    refine ir_l (pc' := 52) rfl rfl rfl rfl rfl rfl ?_
    refine ir_getI (pc' := 55) rfl rfl rfl (gG_at tsk_2) rfl (by decide) (by decide) w51_2_3e (by omega) (by omega) ?_
    refine ir_k (pc' := 57) (v := (0, 91)) rfl rfl rfl (fun _ => rfl) ?_
    refine ir_c_eq (pt := 67) (pc' := 60) rfl rfl rfl (fun c8 => ?_) (fun c8 => ?_)
    · refine ir_l (pc' := 68) rfl rfl rfl rfl rfl rfl ?_
      refine ir_k (pc' := 70) (v := (0, 10)) rfl rfl rfl (fun _ => rfl) ?_
      refine ir_c_lt (pt := 85) (pc' := 73) rfl rfl rfl (fun c9 => ?_) (fun c9 => ?_)
      · refine ir_l (pc' := 86) rfl rfl rfl rfl rfl rfl ?_
        refine ir_cVV (pc' := 89) rfl rfl rfl rfl rfl (Nat.le_of_ble_eq_true rfl) oo_X7_step (gG_at tsk_2) (sf_step7 L ys (d + 75) s_51 hT_51  (by omega) (by omega) (by omega)) (fun s11 hr => ?_)
        obtain ⟨hT11, hG11, p11_0, p11_1⟩ := hr
        have hF11 := fr_trans hF_51 hG11 (by decide)
        have e12 : s11.1 2 1 = w51_2_1 := (hG11.1 _ _ tsk_2 1 (by decide)).trans w51_2_1e
        obtain ⟨z13, z13e, z13l, z13h⟩ := tI_i tf_2_2 tsk_2 hT11
        obtain ⟨z14, z14e, z14l, z14h⟩ := tI_i tf_2_3 tsk_2 hT11
        obtain ⟨z15, z15e, z15l, z15h⟩ := tI_i tf_2_4 tsk_2 hT11
        refine ir_l (pc' := 90) rfl rfl rfl rfl rfl rfl ?_
        refine ir_l (pc' := 91) rfl rfl rfl rfl rfl rfl ?_
        refine ir_k (pc' := 92) (v := (0, 1)) rfl rfl rfl (fun _ => rfl) ?_
        refine ir_add (pc' := 93) rfl rfl (by omega) (by omega) ?_
        refine ir_cVV (pc' := 96) rfl rfl rfl rfl rfl (Nat.le_of_ble_eq_true rfl) oo_X7_readText (gG_at tsk_2) (sf_readText7_d1 L ys d s11 hT11 ((x1 + 1)) (by omega) (by omega) (by omega) (by omega)) (fun s17 hr => ?_)
        obtain ⟨hT17, hG17, p17_0, p17_1⟩ := hr
        have hF17 := fr_trans hF11 hG17 (by decide)
        have e18 : s17.1 2 1 = w51_2_1 := (hG17.1 _ _ tsk_2 1 (by decide)).trans e12
        obtain ⟨z19, z19e, z19l, z19h⟩ := tI_i tf_2_2 tsk_2 hT17
        obtain ⟨z20, z20e, z20l, z20h⟩ := tI_i tf_2_3 tsk_2 hT17
        obtain ⟨z21, z21e, z21l, z21h⟩ := tI_i tf_2_4 tsk_2 hT17
        refine ir_l (pc' := 97) rfl rfl rfl rfl rfl rfl ?_
        refine ir_k (pc' := 99) (v := (0, 93)) rfl rfl rfl (fun _ => rfl) ?_
        refine ir_cVV (pc' := 102) rfl rfl rfl rfl rfl (Nat.le_of_ble_eq_true rfl) oo_X7_expect (gG_at tsk_2) (sf_expect7 L ys (d + 74) s17 hT17 (93) (by omega) (by omega) (by omega) (by omega)) (fun s23 hr => ?_)
        obtain ⟨hT23, hG23, p23_0, p23_1⟩ := hr
        have hF23 := fr_trans hF17 hG23 (by decide)
        have e24 : s23.1 2 1 = w51_2_1 := (hG23.1 _ _ tsk_2 1 (by decide)).trans e18
        obtain ⟨z25, z25e, z25l, z25h⟩ := tI_i tf_2_2 tsk_2 hT23
        obtain ⟨z26, z26e, z26l, z26h⟩ := tI_i tf_2_3 tsk_2 hT23
        obtain ⟨z27, z27e, z27l, z27h⟩ := tI_i tf_2_4 tsk_2 hT23
        refine ir_w [(0, (2, ((2 : Nat) : Int))), (2, (0, q51_l2))] ⟨rfl, rfl, trivial⟩ ?_
        exact J102 (q51_l2) (by omega) (by omega) s23 hT23 hF23 (w51_2_1) (by omega) (by omega) e24 (z25) (by omega) (by omega) z25e (z26) (by omega) (by omega) z26e (z27) (by omega) (by omega) z27e (by omega) (by omega)
      · exfalso; omega
    · refine ir_l (pc' := 61) rfl rfl rfl rfl rfl rfl ?_
      refine ir_cVV (pc' := 64) rfl rfl rfl rfl rfl (Nat.le_of_ble_eq_true rfl) oo_X7_readAtom (gG_at tsk_2) (sf_readAtom7 L ys (d + 30) s_51 hT_51  (by omega) (by omega)) (fun s29 hr => ?_)
      obtain ⟨hT29, hG29, p29_0, p29_1⟩ := hr
      have hF29 := fr_trans hF_51 hG29 (by decide)
      have e30 : s29.1 2 1 = w51_2_1 := (hG29.1 _ _ tsk_2 1 (by decide)).trans w51_2_1e
      obtain ⟨z31, z31e, z31l, z31h⟩ := tI_i tf_2_2 tsk_2 hT29
      obtain ⟨z32, z32e, z32l, z32h⟩ := tI_i tf_2_3 tsk_2 hT29
      obtain ⟨z33, z33e, z33l, z33h⟩ := tI_i tf_2_4 tsk_2 hT29
      refine ir_goto (pc' := 102) rfl rfl ?_
      refine ir_w [(0, (2, ((2 : Nat) : Int))), (2, (0, q51_l2))] ⟨rfl, rfl, trivial⟩ ?_
      exact J102 (q51_l2) (by omega) (by omega) s29 hT29 hF29 (w51_2_1) (by omega) (by omega) e30 (z31) (by omega) (by omega) z31e (z32) (by omega) (by omega) z32e (z33) (by omega) (by omega) z33e (by omega) (by omega)
  have J4 : ∀ n : Nat, ∀ (q4_l2 : Int) (q4_l2l : 0 ≤ q4_l2) (q4_l2h : q4_l2 ≤ 10) (q4_l3 : Int) (q4_l3l : 0 ≤ q4_l3) (q4_l3h : q4_l3 ≤ 400) (s_4 : im_S) (hT_4 : tI s_4) (hF_4 : fr [(2, 2), (2, 3), (2, 4), (2, 5), (2, 11), (2, 13), (4, 0)] s0 s_4) (w4_2_1 : Int) (w4_2_1l : 0 ≤ w4_2_1) (w4_2_1h : w4_2_1 ≤ 400) (w4_2_1e : s_4.1 2 1 = w4_2_1) (w4_2_2 : Int) (w4_2_2l : 0 ≤ w4_2_2) (w4_2_2h : w4_2_2 ≤ 400) (w4_2_2e : s_4.1 2 2 = w4_2_2) (w4_2_3 : Int) (w4_2_3l : 0 ≤ w4_2_3) (w4_2_3h : w4_2_3 ≤ 65535) (w4_2_3e : s_4.1 2 3 = w4_2_3) (w4_2_4 : Int) (w4_2_4l : 0 ≤ w4_2_4) (w4_2_4h : w4_2_4 ≤ 3) (w4_2_4e : s_4.1 2 4 = w4_2_4) (i4_0 : w4_2_2 ≤ w4_2_1) (i4_1 : (w4_2_4 ≠ 0 ∨ w4_2_3 = 0 ∨ w4_2_2 < w4_2_1)), (400 + 1 - q4_l3) ≤ (n : Int) → ir gG rm_P L ys (d + 81) rm_p_X7_readOne (4, [(0, (2, ((2 : Nat) : Int))), (1, (0, x1)), (2, (0, q4_l2)), (3, (0, q4_l3))], [], s_4) (fun r : im_Re => r.1 = none ∧ (tI r.2 ∧ fr [(2, 2), (2, 3), (2, 4), (2, 5), (2, 11), (2, 13), (4, 0)] s0 r.2 ∧ r.2.1 2 2 ≤ r.2.1 2 1 ∧ (r.2.1 2 4 ≠ 0 ∨ r.2.1 2 3 = 0 ∨ r.2.1 2 2 < r.2.1 2 1))) := by
    intro n
    induction n with
    | zero => intro q4_l2 q4_l2l q4_l2h q4_l3 q4_l3l q4_l3h s_4 hT_4 hF_4 w4_2_1 w4_2_1l w4_2_1h w4_2_1e w4_2_2 w4_2_2l w4_2_2h w4_2_2e w4_2_3 w4_2_3l w4_2_3h w4_2_3e w4_2_4 w4_2_4l w4_2_4h w4_2_4e i4_0 i4_1 hr; exfalso; omega
    | succ n ih4 =>
      intro q4_l2 q4_l2l q4_l2h q4_l3 q4_l3l q4_l3h s_4 hT_4 hF_4 w4_2_1 w4_2_1l w4_2_1h w4_2_1e w4_2_2 w4_2_2l w4_2_2h w4_2_2e w4_2_3 w4_2_3l w4_2_3h w4_2_3e w4_2_4 w4_2_4l w4_2_4h w4_2_4e i4_0 i4_1 hr
      have J45 : ∀ (q45_l2 : Int) (q45_l2l : 1 ≤ q45_l2) (q45_l2h : q45_l2 ≤ 10) (f45_3h : q4_l3 ≤ 399) (s_45 : im_S) (hT_45 : tI s_45) (hF_45 : fr [(2, 2), (2, 3), (2, 4), (2, 5), (2, 11), (2, 13), (4, 0)] s0 s_45) (w45_2_1 : Int) (w45_2_1l : 0 ≤ w45_2_1) (w45_2_1h : w45_2_1 ≤ 400) (w45_2_1e : s_45.1 2 1 = w45_2_1) (w45_2_2 : Int) (w45_2_2l : 0 ≤ w45_2_2) (w45_2_2h : w45_2_2 ≤ 400) (w45_2_2e : s_45.1 2 2 = w45_2_2) (w45_2_3 : Int) (w45_2_3l : 0 ≤ w45_2_3) (w45_2_3h : w45_2_3 ≤ 65535) (w45_2_3e : s_45.1 2 3 = w45_2_3) (w45_2_4 : Int) (w45_2_4l : 0 ≤ w45_2_4) (w45_2_4h : w45_2_4 ≤ 3) (w45_2_4e : s_45.1 2 4 = w45_2_4) (i45_0 : w45_2_2 ≤ w45_2_1) (i45_1 : (w45_2_4 ≠ 0 ∨ w45_2_3 = 0 ∨ w45_2_2 < w45_2_1)), ir gG rm_P L ys (d + 81) rm_p_X7_readOne (45, [(0, (2, ((2 : Nat) : Int))), (1, (0, x1)), (2, (0, q45_l2)), (3, (0, q4_l3))], [], s_45) (fun r : im_Re => r.1 = none ∧ (tI r.2 ∧ fr [(2, 2), (2, 3), (2, 4), (2, 5), (2, 11), (2, 13), (4, 0)] s0 r.2 ∧ r.2.1 2 2 ≤ r.2.1 2 1 ∧ (r.2.1 2 4 ≠ 0 ∨ r.2.1 2 3 = 0 ∨ r.2.1 2 2 < r.2.1 2 1))) := by
        intro q45_l2 q45_l2l q45_l2h f45_3h s_45 hT_45 hF_45 w45_2_1 w45_2_1l w45_2_1h w45_2_1e w45_2_2 w45_2_2l w45_2_2h w45_2_2e w45_2_3 w45_2_3l w45_2_3h w45_2_3e w45_2_4 w45_2_4l w45_2_4h w45_2_4e i45_0 i45_1
        refine ir_inc (pc' := 48) rfl rfl rfl rfl rfl (by omega) (by omega) ?_
        refine ir_goto (pc' := 4) rfl rfl ?_
        refine ir_w [(0, (2, ((2 : Nat) : Int))), (1, (0, x1)), (2, (0, q45_l2)), (3, (0, (q4_l3 + 1)))] ⟨rfl, rfl, rfl, rfl, trivial⟩ ?_
        exact ih4 (q45_l2) (by omega) (by omega) ((q4_l3 + 1)) (by omega) (by omega) s_45 hT_45 hF_45 (w45_2_1) (by omega) (by omega) w45_2_1e (w45_2_2) (by omega) (by omega) w45_2_2e (w45_2_3) (by omega) (by omega) w45_2_3e (w45_2_4) (by omega) (by omega) w45_2_4e (by omega) (by omega) (by omega)
      refine ir_l (pc' := 5) rfl rfl rfl rfl rfl rfl ?_
      refine ir_k (pc' := 8) (v := (0, 400)) rfl rfl rfl (fun _ => rfl) ?_
      refine ir_c_ge (pt := 51) (pc' := 11) rfl rfl rfl (fun c34 => ?_) (fun c34 => ?_)
      · refine ir_w [(0, (2, ((2 : Nat) : Int))), (1, (0, x1)), (2, (0, q4_l2))] ⟨rfl, rfl, rfl, trivial⟩ ?_
        exact J51 (q4_l2) (by omega) (by omega) s_4 hT_4 hF_4 (w4_2_1) (by omega) (by omega) w4_2_1e (w4_2_2) (by omega) (by omega) w4_2_2e (w4_2_3) (by omega) (by omega) w4_2_3e (w4_2_4) (by omega) (by omega) w4_2_4e (by omega) (by omega)
      · refine ir_l (pc' := 12) rfl rfl rfl rfl rfl rfl ?_
        refine ir_getI (pc' := 15) rfl rfl rfl (gG_at tsk_2) rfl (by decide) (by decide) w4_2_3e (by omega) (by omega) ?_
        refine ir_k (pc' := 17) (v := (0, 126)) rfl rfl rfl (fun _ => rfl) ?_
        refine ir_c_ne (pt := 51) (pc' := 20) rfl rfl rfl (fun c35 => ?_) (fun c35 => ?_)
        · refine ir_w [(0, (2, ((2 : Nat) : Int))), (1, (0, x1)), (2, (0, q4_l2))] ⟨rfl, rfl, rfl, trivial⟩ ?_
          exact J51 (q4_l2) (by omega) (by omega) s_4 hT_4 hF_4 (w4_2_1) (by omega) (by omega) w4_2_1e (w4_2_2) (by omega) (by omega) w4_2_2e (w4_2_3) (by omega) (by omega) w4_2_3e (w4_2_4) (by omega) (by omega) w4_2_4e (by omega) (by omega)
        · refine ir_l (pc' := 21) rfl rfl rfl rfl rfl rfl ?_
          refine ir_k (pc' := 23) (v := (0, 10)) rfl rfl rfl (fun _ => rfl) ?_
          refine ir_c_lt (pt := 38) (pc' := 26) rfl rfl rfl (fun c36 => ?_) (fun c36 => ?_)
          · refine ir_inc (pc' := 41) rfl rfl rfl rfl rfl (by omega) (by omega) ?_
            refine ir_l (pc' := 42) rfl rfl rfl rfl rfl rfl ?_
            refine ir_cVV (pc' := 45) rfl rfl rfl rfl rfl (Nat.le_of_ble_eq_true rfl) oo_X7_step (gG_at tsk_2) (sf_step7 L ys (d + 75) s_4 hT_4  (by omega) (by omega) (by omega)) (fun s38 hr => ?_)
            obtain ⟨hT38, hG38, p38_0, p38_1⟩ := hr
            have hF38 := fr_trans hF_4 hG38 (by decide)
            have e39 : s38.1 2 1 = w4_2_1 := (hG38.1 _ _ tsk_2 1 (by decide)).trans w4_2_1e
            obtain ⟨z40, z40e, z40l, z40h⟩ := tI_i tf_2_2 tsk_2 hT38
            obtain ⟨z41, z41e, z41l, z41h⟩ := tI_i tf_2_3 tsk_2 hT38
            obtain ⟨z42, z42e, z42l, z42h⟩ := tI_i tf_2_4 tsk_2 hT38
            refine ir_w [(0, (2, ((2 : Nat) : Int))), (1, (0, x1)), (2, (0, (q4_l2 + 1))), (3, (0, q4_l3))] ⟨rfl, rfl, rfl, rfl, trivial⟩ ?_
            exact J45 ((q4_l2 + 1)) (by omega) (by omega) (by omega) s38 hT38 hF38 (w4_2_1) (by omega) (by omega) e39 (z40) (by omega) (by omega) z40e (z41) (by omega) (by omega) z41e (z42) (by omega) (by omega) z42e (by omega) (by omega)
          · refine ir_l (pc' := 27) rfl rfl rfl rfl rfl rfl ?_
            refine ir_k (pc' := 28) (v := (0, 3)) rfl rfl rfl (fun _ => rfl) ?_
            refine ir_l (pc' := 29) rfl rfl rfl rfl rfl rfl ?_
            refine ir_getI (pc' := 32) rfl rfl rfl (gG_at tsk_2) rfl (by decide) (by decide) w4_2_2e (by omega) (by omega) ?_
            refine ir_cVV (pc' := 35) rfl rfl rfl rfl rfl (Nat.le_of_ble_eq_true rfl) oo_X7_fail (gG_at tsk_2) (sf_fail7 L ys (d + 80) s_4 hT_4 (3) (by omega) (by omega) (w4_2_2) (by omega) (by omega) ) (fun s44 hr => ?_)
            obtain ⟨hT44, hG44, p44_0⟩ := hr
            have hF44 := fr_trans hF_4 hG44 (by decide)
            have e45 : s44.1 2 1 = w4_2_1 := (hG44.1 _ _ tsk_2 1 (by decide)).trans w4_2_1e
            have e46 : s44.1 2 2 = w4_2_2 := (hG44.1 _ _ tsk_2 2 (by decide)).trans w4_2_2e
            obtain ⟨z47, z47e, z47l, z47h⟩ := tI_i tf_2_3 tsk_2 hT44
            obtain ⟨z48, z48e, z48l, z48h⟩ := tI_i tf_2_4 tsk_2 hT44
            refine ir_goto (pc' := 45) rfl rfl ?_
            refine ir_w [(0, (2, ((2 : Nat) : Int))), (1, (0, x1)), (2, (0, q4_l2)), (3, (0, q4_l3))] ⟨rfl, rfl, rfl, rfl, trivial⟩ ?_
            exact J45 (q4_l2) (by omega) (by omega) (by omega) s44 hT44 hF44 (w4_2_1) (by omega) (by omega) e45 (w4_2_2) (by omega) (by omega) e46 (z47) (by omega) (by omega) z47e (z48) (by omega) (by omega) z48e (by omega) (by omega)
  obtain ⟨z49, z49e, z49l, z49h⟩ := tI_i tf_2_1 tsk_2 hT0
  obtain ⟨z50, z50e, z50l, z50h⟩ := tI_i tf_2_2 tsk_2 hT0
  obtain ⟨z51, z51e, z51l, z51h⟩ := tI_i tf_2_3 tsk_2 hT0
  obtain ⟨z52, z52e, z52l, z52h⟩ := tI_i tf_2_4 tsk_2 hT0
  refine ir_k (pc' := 1) (v := (0, 0)) rfl rfl rfl (fun _ => rfl) ?_
  refine ir_s (pc' := 2) rfl rfl rfl rfl rfl rfl ?_
  refine ir_k (pc' := 3) (v := (0, 0)) rfl rfl rfl (fun _ => rfl) ?_
  refine ir_s (pc' := 4) rfl rfl rfl rfl rfl rfl ?_
  refine ir_w [(0, (2, ((2 : Nat) : Int))), (1, (0, x1)), (2, (0, 0)), (3, (0, 0))] ⟨rfl, rfl, rfl, rfl, trivial⟩ ?_
  exact J4 _ (0) (by omega) (by omega) (0) (by omega) (by omega) s0 hT0 hF0 (z49) (by omega) (by omega) z49e (z50) (by omega) (by omega) z50e (z51) (by omega) (by omega) z51e (z52) (by omega) (by omega) z52e (by omega) (by omega) (Int.self_le_toNat _)
theorem sf_readAll7_d0 (L : Nat) (ys : Nat → Int32) (d : Nat) (s0 : im_S) (hT0 : tI s0) (x1 : Int) (x1l : 0 ≤ x1) (x1h : x1 ≤ 0) (pr0 : s0.1 2 2 ≤ s0.1 2 1) (pr1 : (s0.1 2 4 ≠ 0 ∨ s0.1 2 3 = 0 ∨ s0.1 2 2 < s0.1 2 1)) : icV gG rm_P L ys (d + 83) 192 [(2, ((2 : Nat) : Int)), (0, x1)] s0 (fun s => tI s ∧ fr [(2, 2), (2, 3), (2, 4), (2, 5), (2, 11), (2, 13), (4, 0)] s0 s ∧ s.1 2 2 ≤ s.1 2 1 ∧ (s.1 2 4 ≠ 0 ∨ s.1 2 3 = 0 ∨ s.1 2 2 < s.1 2 1)) := by
  refine ic_startM (M := rm_p_X7_readAll) om_X7_readAll (Nat.le_of_ble_eq_true rfl) ?_
  refine ir_w [(0, (2, ((2 : Nat) : Int))), (1, (0, x1))] ⟨rfl, rfl, trivial⟩ ?_
  have hF0 := fr_refl [(2, 2), (2, 3), (2, 4), (2, 5), (2, 11), (2, 13), (4, 0)] s0
  have J44 : ∀ (s_44 : im_S) (hT_44 : tI s_44) (hF_44 : fr [(2, 2), (2, 3), (2, 4), (2, 5), (2, 11), (2, 13), (4, 0)] s0 s_44) (w44_2_1 : Int) (w44_2_1l : 0 ≤ w44_2_1) (w44_2_1h : w44_2_1 ≤ 400) (w44_2_1e : s_44.1 2 1 = w44_2_1) (w44_2_2 : Int) (w44_2_2l : 0 ≤ w44_2_2) (w44_2_2h : w44_2_2 ≤ 400) (w44_2_2e : s_44.1 2 2 = w44_2_2) (w44_2_3 : Int) (w44_2_3l : 0 ≤ w44_2_3) (w44_2_3h : w44_2_3 ≤ 65535) (w44_2_3e : s_44.1 2 3 = w44_2_3) (w44_2_4 : Int) (w44_2_4l : 0 ≤ w44_2_4) (w44_2_4h : w44_2_4 ≤ 3) (w44_2_4e : s_44.1 2 4 = w44_2_4) (i44_0 : w44_2_2 ≤ w44_2_1) (i44_1 : (w44_2_4 ≠ 0 ∨ w44_2_3 = 0 ∨ w44_2_2 < w44_2_1)), ir gG rm_P L ys (d + 82) rm_p_X7_readAll (44, [], [], s_44) (fun r : im_Re => r.1 = none ∧ (tI r.2 ∧ fr [(2, 2), (2, 3), (2, 4), (2, 5), (2, 11), (2, 13), (4, 0)] s0 r.2 ∧ r.2.1 2 2 ≤ r.2.1 2 1 ∧ (r.2.1 2 4 ≠ 0 ∨ r.2.1 2 3 = 0 ∨ r.2.1 2 2 < r.2.1 2 1))) := by
    intro s_44 hT_44 hF_44 w44_2_1 w44_2_1l w44_2_1h w44_2_1e w44_2_2 w44_2_2l w44_2_2h w44_2_2e w44_2_3 w44_2_3l w44_2_3h w44_2_3e w44_2_4 w44_2_4l w44_2_4h w44_2_4e i44_0 i44_1
    exact ir_vret rfl rfl ⟨rfl, hT_44, hF_44, (by first | omega | (dsimp only; omega)), (by first | omega | (dsimp only; omega))⟩
  have J7 : ∀ n : Nat, ∀ (q7_l2 : Int) (q7_l2l : 0 ≤ q7_l2) (q7_l2h : q7_l2 ≤ 400) (s_7 : im_S) (hT_7 : tI s_7) (hF_7 : fr [(2, 2), (2, 3), (2, 4), (2, 5), (2, 11), (2, 13), (4, 0)] s0 s_7) (w7_2_1 : Int) (w7_2_1l : 0 ≤ w7_2_1) (w7_2_1h : w7_2_1 ≤ 400) (w7_2_1e : s_7.1 2 1 = w7_2_1) (w7_2_2 : Int) (w7_2_2l : 0 ≤ w7_2_2) (w7_2_2h : w7_2_2 ≤ 400) (w7_2_2e : s_7.1 2 2 = w7_2_2) (w7_2_3 : Int) (w7_2_3l : 0 ≤ w7_2_3) (w7_2_3h : w7_2_3 ≤ 65535) (w7_2_3e : s_7.1 2 3 = w7_2_3) (w7_2_4 : Int) (w7_2_4l : 0 ≤ w7_2_4) (w7_2_4h : w7_2_4 ≤ 3) (w7_2_4e : s_7.1 2 4 = w7_2_4) (i7_0 : w7_2_2 ≤ w7_2_1) (i7_1 : (w7_2_4 ≠ 0 ∨ w7_2_3 = 0 ∨ w7_2_2 < w7_2_1)), (400 + 1 - q7_l2) ≤ (n : Int) → ir gG rm_P L ys (d + 82) rm_p_X7_readAll (7, [(0, (2, ((2 : Nat) : Int))), (1, (0, x1)), (2, (0, q7_l2))], [], s_7) (fun r : im_Re => r.1 = none ∧ (tI r.2 ∧ fr [(2, 2), (2, 3), (2, 4), (2, 5), (2, 11), (2, 13), (4, 0)] s0 r.2 ∧ r.2.1 2 2 ≤ r.2.1 2 1 ∧ (r.2.1 2 4 ≠ 0 ∨ r.2.1 2 3 = 0 ∨ r.2.1 2 2 < r.2.1 2 1))) := by
    intro n
    induction n with
    | zero => intro q7_l2 q7_l2l q7_l2h s_7 hT_7 hF_7 w7_2_1 w7_2_1l w7_2_1h w7_2_1e w7_2_2 w7_2_2l w7_2_2h w7_2_2e w7_2_3 w7_2_3l w7_2_3h w7_2_3e w7_2_4 w7_2_4l w7_2_4h w7_2_4e i7_0 i7_1 hr; exfalso; omega
    | succ n ih7 =>
      intro q7_l2 q7_l2l q7_l2h s_7 hT_7 hF_7 w7_2_1 w7_2_1l w7_2_1h w7_2_1e w7_2_2 w7_2_2l w7_2_2h w7_2_2e w7_2_3 w7_2_3l w7_2_3h w7_2_3e w7_2_4 w7_2_4l w7_2_4h w7_2_4e i7_0 i7_1 hr
      refine ir_l (pc' := 8) rfl rfl rfl rfl rfl rfl ?_
      refine ir_k (pc' := 11) (v := (0, 400)) rfl rfl rfl (fun _ => rfl) ?_
      refine ir_c_ge (pt := 44) (pc' := 14) rfl rfl rfl (fun c1 => ?_) (fun c1 => ?_)
      · refine ir_w [] trivial ?_
        exact J44 s_7 hT_7 hF_7 (w7_2_1) (by omega) (by omega) w7_2_1e (w7_2_2) (by omega) (by omega) w7_2_2e (w7_2_3) (by omega) (by omega) w7_2_3e (w7_2_4) (by omega) (by omega) w7_2_4e (by omega) (by omega)
      · refine ir_l (pc' := 15) rfl rfl rfl rfl rfl rfl ?_
        refine ir_getI (pc' := 18) rfl rfl rfl (gG_at tsk_2) rfl (by decide) (by decide) w7_2_3e (by omega) (by omega) ?_
        refine ir_k (pc' := 20) (v := (0, 38)) rfl rfl rfl (fun _ => rfl) ?_
        refine ir_c_ne (pt := 44) (pc' := 23) rfl rfl rfl (fun c2 => ?_) (fun c2 => ?_)
        · refine ir_w [] trivial ?_
          exact J44 s_7 hT_7 hF_7 (w7_2_1) (by omega) (by omega) w7_2_1e (w7_2_2) (by omega) (by omega) w7_2_2e (w7_2_3) (by omega) (by omega) w7_2_3e (w7_2_4) (by omega) (by omega) w7_2_4e (by omega) (by omega)
        · refine ir_l (pc' := 24) rfl rfl rfl rfl rfl rfl ?_
          refine ir_cVV (pc' := 27) rfl rfl rfl rfl rfl (Nat.le_of_ble_eq_true rfl) oo_X7_step (gG_at tsk_2) (sf_step7 L ys (d + 76) s_7 hT_7  (by omega) (by omega) (by omega)) (fun s4 hr => ?_)
          obtain ⟨hT4, hG4, p4_0, p4_1⟩ := hr
          have hF4 := fr_trans hF_7 hG4 (by decide)
          have e5 : s4.1 2 1 = w7_2_1 := (hG4.1 _ _ tsk_2 1 (by decide)).trans w7_2_1e
          obtain ⟨z6, z6e, z6l, z6h⟩ := tI_i tf_2_2 tsk_2 hT4
          obtain ⟨z7, z7e, z7l, z7h⟩ := tI_i tf_2_3 tsk_2 hT4
          obtain ⟨z8, z8e, z8l, z8h⟩ := tI_i tf_2_4 tsk_2 hT4
          refine ir_l (pc' := 28) rfl rfl rfl rfl rfl rfl ?_
          refine ir_l (pc' := 29) rfl rfl rfl rfl rfl rfl ?_
          refine ir_cVV (pc' := 32) rfl rfl rfl rfl rfl (Nat.le_of_ble_eq_true rfl) oo_X7_readOne (gG_at tsk_2) (sf_readOne7_d0 L ys d s4 hT4 (x1) (by omega) (by omega) (by omega) (by omega)) (fun s10 hr => ?_)
          obtain ⟨hT10, hG10, p10_0, p10_1⟩ := hr
          have hF10 := fr_trans hF4 hG10 (by decide)
          have e11 : s10.1 2 1 = w7_2_1 := (hG10.1 _ _ tsk_2 1 (by decide)).trans e5
          obtain ⟨z12, z12e, z12l, z12h⟩ := tI_i tf_2_2 tsk_2 hT10
          obtain ⟨z13, z13e, z13l, z13h⟩ := tI_i tf_2_3 tsk_2 hT10
          obtain ⟨z14, z14e, z14l, z14h⟩ := tI_i tf_2_4 tsk_2 hT10
          refine ir_l (pc' := 33) rfl rfl rfl rfl rfl rfl ?_
          refine ir_k (pc' := 35) (v := (0, 11)) rfl rfl rfl (fun _ => rfl) ?_
          refine ir_cVV (pc' := 38) rfl rfl rfl rfl rfl (Nat.le_of_ble_eq_true rfl) oo_X7_emit (gG_at tsk_2) (sf_emit7 L ys (d + 81) s10 hT10 (11) (by omega) (by omega) ) (fun s16 hr => ?_)
          obtain ⟨hT16, hG16⟩ := hr
          have hF16 := fr_trans hF10 hG16 (by decide)
          have e17 : s16.1 2 1 = w7_2_1 := (hG16.1 _ _ tsk_2 1 (by decide)).trans e11
          have e18 : s16.1 2 2 = z12 := (hG16.1 _ _ tsk_2 2 (by decide)).trans z12e
          have e19 : s16.1 2 3 = z13 := (hG16.1 _ _ tsk_2 3 (by decide)).trans z13e
          have e20 : s16.1 2 4 = z14 := (hG16.1 _ _ tsk_2 4 (by decide)).trans z14e
          refine ir_inc (pc' := 41) rfl rfl rfl rfl rfl (by omega) (by omega) ?_
          refine ir_goto (pc' := 7) rfl rfl ?_
          refine ir_w [(0, (2, ((2 : Nat) : Int))), (1, (0, x1)), (2, (0, (q7_l2 + 1)))] ⟨rfl, rfl, rfl, trivial⟩ ?_
          exact ih7 ((q7_l2 + 1)) (by omega) (by omega) s16 hT16 hF16 (w7_2_1) (by omega) (by omega) e17 (z12) (by omega) (by omega) e18 (z13) (by omega) (by omega) e19 (z14) (by omega) (by omega) e20 (by omega) (by omega) (by omega)
  obtain ⟨z21, z21e, z21l, z21h⟩ := tI_i tf_2_1 tsk_2 hT0
  obtain ⟨z22, z22e, z22l, z22h⟩ := tI_i tf_2_2 tsk_2 hT0
  obtain ⟨z23, z23e, z23l, z23h⟩ := tI_i tf_2_3 tsk_2 hT0
  obtain ⟨z24, z24e, z24l, z24h⟩ := tI_i tf_2_4 tsk_2 hT0
  refine ir_l (pc' := 1) rfl rfl rfl rfl rfl rfl ?_
  refine ir_l (pc' := 2) rfl rfl rfl rfl rfl rfl ?_
  refine ir_cVV (pc' := 5) rfl rfl rfl rfl rfl (Nat.le_of_ble_eq_true rfl) oo_X7_readOne (gG_at tsk_2) (sf_readOne7_d0 L ys d s0 hT0 (x1) (by omega) (by omega) (by omega) (by omega)) (fun s26 hr => ?_)
  obtain ⟨hT26, hG26, p26_0, p26_1⟩ := hr
  have hF26 := fr_trans hF0 hG26 (by decide)
  have e27 : s26.1 2 1 = z21 := (hG26.1 _ _ tsk_2 1 (by decide)).trans z21e
  obtain ⟨z28, z28e, z28l, z28h⟩ := tI_i tf_2_2 tsk_2 hT26
  obtain ⟨z29, z29e, z29l, z29h⟩ := tI_i tf_2_3 tsk_2 hT26
  obtain ⟨z30, z30e, z30l, z30h⟩ := tI_i tf_2_4 tsk_2 hT26
  refine ir_k (pc' := 6) (v := (0, 0)) rfl rfl rfl (fun _ => rfl) ?_
  refine ir_s (pc' := 7) rfl rfl rfl rfl rfl rfl ?_
  refine ir_w [(0, (2, ((2 : Nat) : Int))), (1, (0, x1)), (2, (0, 0))] ⟨rfl, rfl, rfl, trivial⟩ ?_
  exact J7 _ (0) (by omega) (by omega) s26 hT26 hF26 (z21) (by omega) (by omega) e27 (z28) (by omega) (by omega) z28e (z29) (by omega) (by omega) z29e (z30) (by omega) (by omega) z30e (by omega) (by omega) (Int.self_le_toNat _)
theorem sf_readText7_d0 (L : Nat) (ys : Nat → Int32) (d : Nat) (s0 : im_S) (hT0 : tI s0) (x1 : Int) (x1l : 0 ≤ x1) (x1h : x1 ≤ 0) (pr0 : s0.1 2 2 ≤ s0.1 2 1) (pr1 : (s0.1 2 4 ≠ 0 ∨ s0.1 2 3 = 0 ∨ s0.1 2 2 < s0.1 2 1)) : icV gG rm_P L ys (d + 84) 200 [(2, ((2 : Nat) : Int)), (0, x1)] s0 (fun s => tI s ∧ fr [(2, 2), (2, 3), (2, 4), (2, 5), (2, 11), (2, 13), (4, 0)] s0 s ∧ s.1 2 2 ≤ s.1 2 1 ∧ (s.1 2 4 ≠ 0 ∨ s.1 2 3 = 0 ∨ s.1 2 2 < s.1 2 1)) := by
  refine ic_startM (M := rm_p_X7_readText) om_X7_readText (Nat.le_of_ble_eq_true rfl) ?_
  refine ir_w [(0, (2, ((2 : Nat) : Int))), (1, (0, x1))] ⟨rfl, rfl, trivial⟩ ?_
  have hF0 := fr_refl [(2, 2), (2, 3), (2, 4), (2, 5), (2, 11), (2, 13), (4, 0)] s0
  have J44 : ∀ (s_44 : im_S) (hT_44 : tI s_44) (hF_44 : fr [(2, 2), (2, 3), (2, 4), (2, 5), (2, 11), (2, 13), (4, 0)] s0 s_44) (w44_2_1 : Int) (w44_2_1l : 0 ≤ w44_2_1) (w44_2_1h : w44_2_1 ≤ 400) (w44_2_1e : s_44.1 2 1 = w44_2_1) (w44_2_2 : Int) (w44_2_2l : 0 ≤ w44_2_2) (w44_2_2h : w44_2_2 ≤ 400) (w44_2_2e : s_44.1 2 2 = w44_2_2) (w44_2_3 : Int) (w44_2_3l : 0 ≤ w44_2_3) (w44_2_3h : w44_2_3 ≤ 65535) (w44_2_3e : s_44.1 2 3 = w44_2_3) (w44_2_4 : Int) (w44_2_4l : 0 ≤ w44_2_4) (w44_2_4h : w44_2_4 ≤ 3) (w44_2_4e : s_44.1 2 4 = w44_2_4) (i44_0 : w44_2_2 ≤ w44_2_1) (i44_1 : (w44_2_4 ≠ 0 ∨ w44_2_3 = 0 ∨ w44_2_2 < w44_2_1)), ir gG rm_P L ys (d + 83) rm_p_X7_readText (44, [], [], s_44) (fun r : im_Re => r.1 = none ∧ (tI r.2 ∧ fr [(2, 2), (2, 3), (2, 4), (2, 5), (2, 11), (2, 13), (4, 0)] s0 r.2 ∧ r.2.1 2 2 ≤ r.2.1 2 1 ∧ (r.2.1 2 4 ≠ 0 ∨ r.2.1 2 3 = 0 ∨ r.2.1 2 2 < r.2.1 2 1))) := by
    intro s_44 hT_44 hF_44 w44_2_1 w44_2_1l w44_2_1h w44_2_1e w44_2_2 w44_2_2l w44_2_2h w44_2_2e w44_2_3 w44_2_3l w44_2_3h w44_2_3e w44_2_4 w44_2_4l w44_2_4h w44_2_4e i44_0 i44_1
    exact ir_vret rfl rfl ⟨rfl, hT_44, hF_44, (by first | omega | (dsimp only; omega)), (by first | omega | (dsimp only; omega))⟩
  have J7 : ∀ n : Nat, ∀ (q7_l2 : Int) (q7_l2l : 0 ≤ q7_l2) (q7_l2h : q7_l2 ≤ 400) (s_7 : im_S) (hT_7 : tI s_7) (hF_7 : fr [(2, 2), (2, 3), (2, 4), (2, 5), (2, 11), (2, 13), (4, 0)] s0 s_7) (w7_2_1 : Int) (w7_2_1l : 0 ≤ w7_2_1) (w7_2_1h : w7_2_1 ≤ 400) (w7_2_1e : s_7.1 2 1 = w7_2_1) (w7_2_2 : Int) (w7_2_2l : 0 ≤ w7_2_2) (w7_2_2h : w7_2_2 ≤ 400) (w7_2_2e : s_7.1 2 2 = w7_2_2) (w7_2_3 : Int) (w7_2_3l : 0 ≤ w7_2_3) (w7_2_3h : w7_2_3 ≤ 65535) (w7_2_3e : s_7.1 2 3 = w7_2_3) (w7_2_4 : Int) (w7_2_4l : 0 ≤ w7_2_4) (w7_2_4h : w7_2_4 ≤ 3) (w7_2_4e : s_7.1 2 4 = w7_2_4) (i7_0 : w7_2_2 ≤ w7_2_1) (i7_1 : (w7_2_4 ≠ 0 ∨ w7_2_3 = 0 ∨ w7_2_2 < w7_2_1)), (400 + 1 - q7_l2) ≤ (n : Int) → ir gG rm_P L ys (d + 83) rm_p_X7_readText (7, [(0, (2, ((2 : Nat) : Int))), (1, (0, x1)), (2, (0, q7_l2))], [], s_7) (fun r : im_Re => r.1 = none ∧ (tI r.2 ∧ fr [(2, 2), (2, 3), (2, 4), (2, 5), (2, 11), (2, 13), (4, 0)] s0 r.2 ∧ r.2.1 2 2 ≤ r.2.1 2 1 ∧ (r.2.1 2 4 ≠ 0 ∨ r.2.1 2 3 = 0 ∨ r.2.1 2 2 < r.2.1 2 1))) := by
    intro n
    induction n with
    | zero => intro q7_l2 q7_l2l q7_l2h s_7 hT_7 hF_7 w7_2_1 w7_2_1l w7_2_1h w7_2_1e w7_2_2 w7_2_2l w7_2_2h w7_2_2e w7_2_3 w7_2_3l w7_2_3h w7_2_3e w7_2_4 w7_2_4l w7_2_4h w7_2_4e i7_0 i7_1 hr; exfalso; omega
    | succ n ih7 =>
      intro q7_l2 q7_l2l q7_l2h s_7 hT_7 hF_7 w7_2_1 w7_2_1l w7_2_1h w7_2_1e w7_2_2 w7_2_2l w7_2_2h w7_2_2e w7_2_3 w7_2_3l w7_2_3h w7_2_3e w7_2_4 w7_2_4l w7_2_4h w7_2_4e i7_0 i7_1 hr
      refine ir_l (pc' := 8) rfl rfl rfl rfl rfl rfl ?_
      refine ir_k (pc' := 11) (v := (0, 400)) rfl rfl rfl (fun _ => rfl) ?_
      refine ir_c_ge (pt := 44) (pc' := 14) rfl rfl rfl (fun c1 => ?_) (fun c1 => ?_)
      · refine ir_w [] trivial ?_
        exact J44 s_7 hT_7 hF_7 (w7_2_1) (by omega) (by omega) w7_2_1e (w7_2_2) (by omega) (by omega) w7_2_2e (w7_2_3) (by omega) (by omega) w7_2_3e (w7_2_4) (by omega) (by omega) w7_2_4e (by omega) (by omega)
      · refine ir_l (pc' := 15) rfl rfl rfl rfl rfl rfl ?_
        refine ir_getI (pc' := 18) rfl rfl rfl (gG_at tsk_2) rfl (by decide) (by decide) w7_2_3e (by omega) (by omega) ?_
        refine ir_k (pc' := 20) (v := (0, 124)) rfl rfl rfl (fun _ => rfl) ?_
        refine ir_c_ne (pt := 44) (pc' := 23) rfl rfl rfl (fun c2 => ?_) (fun c2 => ?_)
        · refine ir_w [] trivial ?_
          exact J44 s_7 hT_7 hF_7 (w7_2_1) (by omega) (by omega) w7_2_1e (w7_2_2) (by omega) (by omega) w7_2_2e (w7_2_3) (by omega) (by omega) w7_2_3e (w7_2_4) (by omega) (by omega) w7_2_4e (by omega) (by omega)
        · refine ir_l (pc' := 24) rfl rfl rfl rfl rfl rfl ?_
          refine ir_cVV (pc' := 27) rfl rfl rfl rfl rfl (Nat.le_of_ble_eq_true rfl) oo_X7_step (gG_at tsk_2) (sf_step7 L ys (d + 77) s_7 hT_7  (by omega) (by omega) (by omega)) (fun s4 hr => ?_)
          obtain ⟨hT4, hG4, p4_0, p4_1⟩ := hr
          have hF4 := fr_trans hF_7 hG4 (by decide)
          have e5 : s4.1 2 1 = w7_2_1 := (hG4.1 _ _ tsk_2 1 (by decide)).trans w7_2_1e
          obtain ⟨z6, z6e, z6l, z6h⟩ := tI_i tf_2_2 tsk_2 hT4
          obtain ⟨z7, z7e, z7l, z7h⟩ := tI_i tf_2_3 tsk_2 hT4
          obtain ⟨z8, z8e, z8l, z8h⟩ := tI_i tf_2_4 tsk_2 hT4
          refine ir_l (pc' := 28) rfl rfl rfl rfl rfl rfl ?_
          refine ir_l (pc' := 29) rfl rfl rfl rfl rfl rfl ?_
          refine ir_cVV (pc' := 32) rfl rfl rfl rfl rfl (Nat.le_of_ble_eq_true rfl) oo_X7_readAll (gG_at tsk_2) (sf_readAll7_d0 L ys d s4 hT4 (x1) (by omega) (by omega) (by omega) (by omega)) (fun s10 hr => ?_)
          obtain ⟨hT10, hG10, p10_0, p10_1⟩ := hr
          have hF10 := fr_trans hF4 hG10 (by decide)
          have e11 : s10.1 2 1 = w7_2_1 := (hG10.1 _ _ tsk_2 1 (by decide)).trans e5
          obtain ⟨z12, z12e, z12l, z12h⟩ := tI_i tf_2_2 tsk_2 hT10
          obtain ⟨z13, z13e, z13l, z13h⟩ := tI_i tf_2_3 tsk_2 hT10
          obtain ⟨z14, z14e, z14l, z14h⟩ := tI_i tf_2_4 tsk_2 hT10
          refine ir_l (pc' := 33) rfl rfl rfl rfl rfl rfl ?_
          refine ir_k (pc' := 35) (v := (0, 12)) rfl rfl rfl (fun _ => rfl) ?_
          refine ir_cVV (pc' := 38) rfl rfl rfl rfl rfl (Nat.le_of_ble_eq_true rfl) oo_X7_emit (gG_at tsk_2) (sf_emit7 L ys (d + 82) s10 hT10 (12) (by omega) (by omega) ) (fun s16 hr => ?_)
          obtain ⟨hT16, hG16⟩ := hr
          have hF16 := fr_trans hF10 hG16 (by decide)
          have e17 : s16.1 2 1 = w7_2_1 := (hG16.1 _ _ tsk_2 1 (by decide)).trans e11
          have e18 : s16.1 2 2 = z12 := (hG16.1 _ _ tsk_2 2 (by decide)).trans z12e
          have e19 : s16.1 2 3 = z13 := (hG16.1 _ _ tsk_2 3 (by decide)).trans z13e
          have e20 : s16.1 2 4 = z14 := (hG16.1 _ _ tsk_2 4 (by decide)).trans z14e
          refine ir_inc (pc' := 41) rfl rfl rfl rfl rfl (by omega) (by omega) ?_
          refine ir_goto (pc' := 7) rfl rfl ?_
          refine ir_w [(0, (2, ((2 : Nat) : Int))), (1, (0, x1)), (2, (0, (q7_l2 + 1)))] ⟨rfl, rfl, rfl, trivial⟩ ?_
          exact ih7 ((q7_l2 + 1)) (by omega) (by omega) s16 hT16 hF16 (w7_2_1) (by omega) (by omega) e17 (z12) (by omega) (by omega) e18 (z13) (by omega) (by omega) e19 (z14) (by omega) (by omega) e20 (by omega) (by omega) (by omega)
  obtain ⟨z21, z21e, z21l, z21h⟩ := tI_i tf_2_1 tsk_2 hT0
  obtain ⟨z22, z22e, z22l, z22h⟩ := tI_i tf_2_2 tsk_2 hT0
  obtain ⟨z23, z23e, z23l, z23h⟩ := tI_i tf_2_3 tsk_2 hT0
  obtain ⟨z24, z24e, z24l, z24h⟩ := tI_i tf_2_4 tsk_2 hT0
  refine ir_l (pc' := 1) rfl rfl rfl rfl rfl rfl ?_
  refine ir_l (pc' := 2) rfl rfl rfl rfl rfl rfl ?_
  refine ir_cVV (pc' := 5) rfl rfl rfl rfl rfl (Nat.le_of_ble_eq_true rfl) oo_X7_readAll (gG_at tsk_2) (sf_readAll7_d0 L ys d s0 hT0 (x1) (by omega) (by omega) (by omega) (by omega)) (fun s26 hr => ?_)
  obtain ⟨hT26, hG26, p26_0, p26_1⟩ := hr
  have hF26 := fr_trans hF0 hG26 (by decide)
  have e27 : s26.1 2 1 = z21 := (hG26.1 _ _ tsk_2 1 (by decide)).trans z21e
  obtain ⟨z28, z28e, z28l, z28h⟩ := tI_i tf_2_2 tsk_2 hT26
  obtain ⟨z29, z29e, z29l, z29h⟩ := tI_i tf_2_3 tsk_2 hT26
  obtain ⟨z30, z30e, z30l, z30h⟩ := tI_i tf_2_4 tsk_2 hT26
  refine ir_k (pc' := 6) (v := (0, 0)) rfl rfl rfl (fun _ => rfl) ?_
  refine ir_s (pc' := 7) rfl rfl rfl rfl rfl rfl ?_
  refine ir_w [(0, (2, ((2 : Nat) : Int))), (1, (0, x1)), (2, (0, 0))] ⟨rfl, rfl, rfl, trivial⟩ ?_
  exact J7 _ (0) (by omega) (by omega) s26 hT26 hF26 (z21) (by omega) (by omega) e27 (z28) (by omega) (by omega) z28e (z29) (by omega) (by omega) z29e (z30) (by omega) (by omega) z30e (by omega) (by omega) (Int.self_le_toNat _)
theorem sf_read7 (L : Nat) (ys : Nat → Int32) (d : Nat) (s0 : im_S) (hT0 : tI s0) (x1 : Int) (x1l : 0 ≤ x1) (x1h : x1 ≤ 400) : icI gG rm_P L ys 0 (d + 85) 191 [(2, ((2 : Nat) : Int)), (0, x1)] s0 (fun z s => tI s ∧ fr [(2, 1), (2, 2), (2, 3), (2, 4), (2, 5), (2, 11), (2, 13), (4, 0)] s0 s ∧ 0 ≤ z ∧ z ≤ 3) := by
  refine ic_startM (M := rm_p_X7_read) om_X7_read (Nat.le_of_ble_eq_true rfl) ?_
  refine ir_w [(0, (2, ((2 : Nat) : Int))), (1, (0, x1))] ⟨rfl, rfl, trivial⟩ ?_
  have hF0 := fr_refl [(2, 1), (2, 2), (2, 3), (2, 4), (2, 5), (2, 11), (2, 13), (4, 0)] s0
  have J64 : ∀ (s_64 : im_S) (hT_64 : tI s_64) (hF_64 : fr [(2, 1), (2, 2), (2, 3), (2, 4), (2, 5), (2, 11), (2, 13), (4, 0)] s0 s_64) (w64_2_0e : s_64.1 2 0 = ((3 : Nat) : Int)) (w64_2_1 : Int) (w64_2_1l : 0 ≤ w64_2_1) (w64_2_1h : w64_2_1 ≤ 400) (w64_2_1e : s_64.1 2 1 = w64_2_1) (w64_2_2 : Int) (w64_2_2l : 0 ≤ w64_2_2) (w64_2_2h : w64_2_2 ≤ 400) (w64_2_2e : s_64.1 2 2 = w64_2_2) (w64_2_3 : Int) (w64_2_3l : 0 ≤ w64_2_3) (w64_2_3h : w64_2_3 ≤ 65535) (w64_2_3e : s_64.1 2 3 = w64_2_3) (w64_2_4 : Int) (w64_2_4l : 0 ≤ w64_2_4) (w64_2_4h : w64_2_4 ≤ 3) (w64_2_4e : s_64.1 2 4 = w64_2_4), ir gG rm_P L ys (d + 84) rm_p_X7_read (64, [(0, (2, ((2 : Nat) : Int)))], [], s_64) (fun r : im_Re => ∃ z, r.1 = some (0, z) ∧ (tI r.2 ∧ fr [(2, 1), (2, 2), (2, 3), (2, 4), (2, 5), (2, 11), (2, 13), (4, 0)] s0 r.2 ∧ 0 ≤ z ∧ z ≤ 3)) := by
    intro s_64 hT_64 hF_64 w64_2_0e w64_2_1 w64_2_1l w64_2_1h w64_2_1e w64_2_2 w64_2_2l w64_2_2h w64_2_2e w64_2_3 w64_2_3l w64_2_3h w64_2_3e w64_2_4 w64_2_4l w64_2_4h w64_2_4e
    refine ir_l (pc' := 65) rfl rfl rfl rfl rfl rfl ?_
    refine ir_getI (pc' := 68) rfl rfl rfl (gG_at tsk_2) rfl (by decide) (by decide) w64_2_4e (by omega) (by omega) ?_
    exact ir_iret rfl rfl ⟨_, rfl, hT_64, hF_64, by omega, by omega⟩
  obtain ⟨z1, z1e, z1l, z1h⟩ := tI_i tf_2_1 tsk_2 hT0
  obtain ⟨z2, z2e, z2l, z2h⟩ := tI_i tf_2_2 tsk_2 hT0
  obtain ⟨z3, z3e, z3l, z3h⟩ := tI_i tf_2_3 tsk_2 hT0
  obtain ⟨z4, z4e, z4l, z4h⟩ := tI_i tf_2_4 tsk_2 hT0
  refine ir_l (pc' := 1) rfl rfl rfl rfl rfl rfl ?_
  refine ir_l (pc' := 2) rfl rfl rfl rfl rfl rfl ?_
  refine ir_l (pc' := 3) rfl rfl rfl rfl rfl rfl ?_
  refine ir_tgr (pc' := 6) rfl rfl rfl tf_2_0 tsk_2 hT0 (fun b5 b5e b5k => ?_)
  obtain rfl := tsg_3 b5k
  refine ir_tlen (pc' := 7) rfl rfl te_3 (by decide) tsk_3 ?_
  refine ir_cSI (pc' := 10) rfl rfl rfl rfl rfl rfl (Nat.le_of_ble_eq_true rfl) (sf_min L ys (d + 83) s0 (x1) (by omega) (by omega) (((400 : Nat) : Int)) (by omega) (by omega)) (fun z6 s7 hr => ?_)
  obtain ⟨rfl, z6p0, z6p1, z6p2⟩ := hr
  refine ir_tpi (pc' := 13) rfl rfl rfl tf_2_1 rfl tsk_2 hT0 rfl (by omega) (by omega) (fun s8 hT8 e8 g8 r8 => ?_)
  have hF8 := fr_put (k := 2) hF0 (by decide) tsk_2 g8 r8
  have e9 : s8.1 2 2 = z2 := (g8 2 2 (fun z => absurd z.2 (by decide))).trans z2e
  have e10 : s8.1 2 3 = z3 := (g8 2 3 (fun z => absurd z.2 (by decide))).trans z3e
  have e11 : s8.1 2 4 = z4 := (g8 2 4 (fun z => absurd z.2 (by decide))).trans z4e
  have e12 : s8.1 2 0 = ((3 : Nat) : Int) := (g8 2 0 (fun z => absurd z.2 (by decide))).trans b5e
  refine ir_l (pc' := 14) rfl rfl rfl rfl rfl rfl ?_
  refine ir_k (pc' := 15) (v := (0, 0)) rfl rfl rfl (fun _ => rfl) ?_
  refine ir_tpi (pc' := 18) rfl rfl rfl tf_2_2 rfl tsk_2 hT8 rfl (by omega) (by omega) (fun s13 hT13 e13 g13 r13 => ?_)
  have hF13 := fr_put (k := 2) hF8 (by decide) tsk_2 g13 r13
  have e14 : s13.1 2 3 = z3 := (g13 2 3 (fun z => absurd z.2 (by decide))).trans e10
  have e15 : s13.1 2 4 = z4 := (g13 2 4 (fun z => absurd z.2 (by decide))).trans e11
  have e16 : s13.1 2 0 = ((3 : Nat) : Int) := (g13 2 0 (fun z => absurd z.2 (by decide))).trans e12
  have e17 : s13.1 2 1 = z6 := (g13 2 1 (fun z => absurd z.2 (by decide))).trans e8
  refine ir_l (pc' := 19) rfl rfl rfl rfl rfl rfl ?_
  refine ir_k (pc' := 20) (v := (0, 0)) rfl rfl rfl (fun _ => rfl) ?_
  refine ir_tpi (pc' := 23) rfl rfl rfl tf_2_4 rfl tsk_2 hT13 rfl (by omega) (by omega) (fun s18 hT18 e18 g18 r18 => ?_)
  have hF18 := fr_put (k := 2) hF13 (by decide) tsk_2 g18 r18
  have e19 : s18.1 2 3 = z3 := (g18 2 3 (fun z => absurd z.2 (by decide))).trans e14
  have e20 : s18.1 2 0 = ((3 : Nat) : Int) := (g18 2 0 (fun z => absurd z.2 (by decide))).trans e16
  have e21 : s18.1 2 1 = z6 := (g18 2 1 (fun z => absurd z.2 (by decide))).trans e17
  have e22 : s18.1 2 2 = 0 := (g18 2 2 (fun z => absurd z.2 (by decide))).trans e13
  refine ir_l (pc' := 24) rfl rfl rfl rfl rfl rfl ?_
  refine ir_k (pc' := 26) (v := (0, (-2))) rfl rfl rfl (fun _ => rfl) ?_
  refine ir_tpi (pc' := 29) rfl rfl rfl tf_2_5 rfl tsk_2 hT18 rfl (by omega) (by omega) (fun s23 hT23 e23 g23 r23 => ?_)
  have hF23 := fr_put (k := 2) hF18 (by decide) tsk_2 g23 r23
  have e24 : s23.1 2 3 = z3 := (g23 2 3 (fun z => absurd z.2 (by decide))).trans e19
  have e25 : s23.1 2 0 = ((3 : Nat) : Int) := (g23 2 0 (fun z => absurd z.2 (by decide))).trans e20
  have e26 : s23.1 2 1 = z6 := (g23 2 1 (fun z => absurd z.2 (by decide))).trans e21
  have e27 : s23.1 2 2 = 0 := (g23 2 2 (fun z => absurd z.2 (by decide))).trans e22
  have e28 : s23.1 2 4 = 0 := (g23 2 4 (fun z => absurd z.2 (by decide))).trans e18
  refine ir_l (pc' := 30) rfl rfl rfl rfl rfl rfl ?_
  refine ir_k (pc' := 31) (v := (0, 0)) rfl rfl rfl (fun _ => rfl) ?_
  refine ir_tpi (pc' := 34) rfl rfl rfl tf_2_11 rfl tsk_2 hT23 rfl (by omega) (by omega) (fun s29 hT29 e29 g29 r29 => ?_)
  have hF29 := fr_put (k := 2) hF23 (by decide) tsk_2 g29 r29
  have e30 : s29.1 2 3 = z3 := (g29 2 3 (fun z => absurd z.2 (by decide))).trans e24
  have e31 : s29.1 2 0 = ((3 : Nat) : Int) := (g29 2 0 (fun z => absurd z.2 (by decide))).trans e25
  have e32 : s29.1 2 1 = z6 := (g29 2 1 (fun z => absurd z.2 (by decide))).trans e26
  have e33 : s29.1 2 2 = 0 := (g29 2 2 (fun z => absurd z.2 (by decide))).trans e27
  have e34 : s29.1 2 4 = 0 := (g29 2 4 (fun z => absurd z.2 (by decide))).trans e28
  have e35 : s29.1 2 5 = (-2) := (g29 2 5 (fun z => absurd z.2 (by decide))).trans e23
  refine ir_l (pc' := 35) rfl rfl rfl rfl rfl rfl ?_
  refine ir_k (pc' := 36) (v := (0, 0)) rfl rfl rfl (fun _ => rfl) ?_
  refine ir_tpi (pc' := 39) rfl rfl rfl tf_2_13 rfl tsk_2 hT29 rfl (by omega) (by omega) (fun s36 hT36 e36 g36 r36 => ?_)
  have hF36 := fr_put (k := 2) hF29 (by decide) tsk_2 g36 r36
  have e37 : s36.1 2 3 = z3 := (g36 2 3 (fun z => absurd z.2 (by decide))).trans e30
  have e38 : s36.1 2 0 = ((3 : Nat) : Int) := (g36 2 0 (fun z => absurd z.2 (by decide))).trans e31
  have e39 : s36.1 2 1 = z6 := (g36 2 1 (fun z => absurd z.2 (by decide))).trans e32
  have e40 : s36.1 2 2 = 0 := (g36 2 2 (fun z => absurd z.2 (by decide))).trans e33
  have e41 : s36.1 2 4 = 0 := (g36 2 4 (fun z => absurd z.2 (by decide))).trans e34
  have e42 : s36.1 2 5 = (-2) := (g36 2 5 (fun z => absurd z.2 (by decide))).trans e35
  have e43 : s36.1 2 11 = 0 := (g36 2 11 (fun z => absurd z.2 (by decide))).trans e29
  refine ir_l (pc' := 40) rfl rfl rfl rfl rfl rfl ?_
  refine ir_cVV (pc' := 43) rfl rfl rfl rfl rfl (Nat.le_of_ble_eq_true rfl) oo_X7_look (gG_at tsk_2) (sf_look7 L ys (d + 79) s36 hT36  (by omega)) (fun s45 hr => ?_)
  obtain ⟨hT45, hG45, p45_0, p45_1⟩ := hr
  have hF45 := fr_trans hF36 hG45 (by decide)
  have e46 : s45.1 2 0 = ((3 : Nat) : Int) := (hG45.1 _ _ tsk_2 0 (by decide)).trans e38
  have e47 : s45.1 2 1 = z6 := (hG45.1 _ _ tsk_2 1 (by decide)).trans e39
  have e48 : s45.1 2 11 = 0 := (hG45.1 _ _ tsk_2 11 (by decide)).trans e43
  have e49 : s45.1 2 13 = 0 := (hG45.1 _ _ tsk_2 13 (by decide)).trans e36
  obtain ⟨z50, z50e, z50l, z50h⟩ := tI_i tf_2_2 tsk_2 hT45
  obtain ⟨z51, z51e, z51l, z51h⟩ := tI_i tf_2_3 tsk_2 hT45
  obtain ⟨z52, z52e, z52l, z52h⟩ := tI_i tf_2_4 tsk_2 hT45
  refine ir_l (pc' := 44) rfl rfl rfl rfl rfl rfl ?_
  refine ir_k (pc' := 45) (v := (0, 0)) rfl rfl rfl (fun _ => rfl) ?_
  refine ir_cVV (pc' := 48) rfl rfl rfl rfl rfl (Nat.le_of_ble_eq_true rfl) oo_X7_readText (gG_at tsk_2) (sf_readText7_d0 L ys d s45 hT45 (0) (by omega) (by omega) (by omega) (by omega)) (fun s54 hr => ?_)
  obtain ⟨hT54, hG54, p54_0, p54_1⟩ := hr
  have hF54 := fr_trans hF45 hG54 (by decide)
  have e55 : s54.1 2 0 = ((3 : Nat) : Int) := (hG54.1 _ _ tsk_2 0 (by decide)).trans e46
  have e56 : s54.1 2 1 = z6 := (hG54.1 _ _ tsk_2 1 (by decide)).trans e47
  obtain ⟨z57, z57e, z57l, z57h⟩ := tI_i tf_2_2 tsk_2 hT54
  obtain ⟨z58, z58e, z58l, z58h⟩ := tI_i tf_2_3 tsk_2 hT54
  obtain ⟨z59, z59e, z59l, z59h⟩ := tI_i tf_2_4 tsk_2 hT54
  refine ir_l (pc' := 49) rfl rfl rfl rfl rfl rfl ?_
  refine ir_getI (pc' := 52) rfl rfl rfl (gG_at tsk_2) rfl (by decide) (by decide) z58e (by omega) (by omega) ?_
  refine ir_z_eq (pt := 64) (pc' := 55) rfl rfl rfl (fun c60 => ?_) (fun c60 => ?_)
  · refine ir_w [(0, (2, ((2 : Nat) : Int)))] ⟨rfl, trivial⟩ ?_
    exact J64 s54 hT54 hF54 e55 (z6) (by omega) (by omega) e56 (z57) (by omega) (by omega) z57e (z58) (by omega) (by omega) z58e (z59) (by omega) (by omega) z59e
  · refine ir_l (pc' := 56) rfl rfl rfl rfl rfl rfl ?_
    refine ir_k (pc' := 57) (v := (0, 2)) rfl rfl rfl (fun _ => rfl) ?_
    refine ir_l (pc' := 58) rfl rfl rfl rfl rfl rfl ?_
    refine ir_getI (pc' := 61) rfl rfl rfl (gG_at tsk_2) rfl (by decide) (by decide) z57e (by omega) (by omega) ?_
    refine ir_cVV (pc' := 64) rfl rfl rfl rfl rfl (Nat.le_of_ble_eq_true rfl) oo_X7_fail (gG_at tsk_2) (sf_fail7 L ys (d + 83) s54 hT54 (2) (by omega) (by omega) (z57) (by omega) (by omega) ) (fun s62 hr => ?_)
    obtain ⟨hT62, hG62, p62_0⟩ := hr
    have hF62 := fr_trans hF54 hG62 (by decide)
    have e63 : s62.1 2 0 = ((3 : Nat) : Int) := (hG62.1 _ _ tsk_2 0 (by decide)).trans e55
    have e64 : s62.1 2 1 = z6 := (hG62.1 _ _ tsk_2 1 (by decide)).trans e56
    have e65 : s62.1 2 2 = z57 := (hG62.1 _ _ tsk_2 2 (by decide)).trans z57e
    obtain ⟨z66, z66e, z66l, z66h⟩ := tI_i tf_2_3 tsk_2 hT62
    obtain ⟨z67, z67e, z67l, z67h⟩ := tI_i tf_2_4 tsk_2 hT62
    refine ir_w [(0, (2, ((2 : Nat) : Int)))] ⟨rfl, trivial⟩ ?_
    exact J64 s62 hT62 hF62 e63 (z6) (by omega) (by omega) e64 (z57) (by omega) (by omega) e65 (z66) (by omega) (by omega) z66e (z67) (by omega) (by omega) z67e
