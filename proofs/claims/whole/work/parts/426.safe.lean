/-! WALKS OF THE CLASS'S METHODS, by program -/
theorem sf_readSum7_d0 (L : Nat) (ys : Nat → Int32) (d : Nat) (s0 : im_S) (hT0 : tI s0) (x1 : Int) (x1l : -2147483648 ≤ x1) (x1h : x1 ≤ 2147483647) (x2 : Int) (x2l : 0 ≤ x2) (x2h : x2 ≤ 0) (pr0 : s0.1 2 2 ≤ s0.1 2 1) (pr1 : (s0.1 2 4 ≠ 0 ∨ s0.1 2 3 = 0 ∨ s0.1 2 2 < s0.1 2 1)) : icV gG rm_P L ys (d + 50) 198 [(2, ((2 : Nat) : Int)), (0, x1), (0, x2)] s0 (fun s => tI s ∧ fr [(2, 2), (2, 3), (2, 4), (2, 5), (4, 0)] s0 s ∧ s.1 2 2 ≤ s.1 2 1 ∧ (s.1 2 4 ≠ 0 ∨ s.1 2 3 = 0 ∨ s.1 2 2 < s.1 2 1)) := by
  refine ic_startM (M := rm_p_X7_readSum) om_X7_readSum (Nat.le_of_ble_eq_true rfl) ?_
  refine ir_w [(0, (2, ((2 : Nat) : Int))), (1, (0, x1)), (2, (0, x2))] ⟨rfl, rfl, rfl, trivial⟩ ?_
  have hF0 := fr_refl [(2, 2), (2, 3), (2, 4), (2, 5), (4, 0)] s0
  have J128 : ∀ (s_128 : im_S) (hT_128 : tI s_128) (hF_128 : fr [(2, 2), (2, 3), (2, 4), (2, 5), (4, 0)] s0 s_128) (w128_2_1 : Int) (w128_2_1l : 0 ≤ w128_2_1) (w128_2_1h : w128_2_1 ≤ 400) (w128_2_1e : s_128.1 2 1 = w128_2_1) (w128_2_2 : Int) (w128_2_2l : 0 ≤ w128_2_2) (w128_2_2h : w128_2_2 ≤ 400) (w128_2_2e : s_128.1 2 2 = w128_2_2) (w128_2_3 : Int) (w128_2_3l : 0 ≤ w128_2_3) (w128_2_3h : w128_2_3 ≤ 65535) (w128_2_3e : s_128.1 2 3 = w128_2_3) (w128_2_4 : Int) (w128_2_4l : 0 ≤ w128_2_4) (w128_2_4h : w128_2_4 ≤ 3) (w128_2_4e : s_128.1 2 4 = w128_2_4) (i128_0 : w128_2_2 ≤ w128_2_1) (i128_1 : (w128_2_4 ≠ 0 ∨ w128_2_3 = 0 ∨ w128_2_2 < w128_2_1)), ir gG rm_P L ys (d + 49) rm_p_X7_readSum (128, [], [], s_128) (fun r : im_Re => r.1 = none ∧ (tI r.2 ∧ fr [(2, 2), (2, 3), (2, 4), (2, 5), (4, 0)] s0 r.2 ∧ r.2.1 2 2 ≤ r.2.1 2 1 ∧ (r.2.1 2 4 ≠ 0 ∨ r.2.1 2 3 = 0 ∨ r.2.1 2 2 < r.2.1 2 1))) := by
    intro s_128 hT_128 hF_128 w128_2_1 w128_2_1l w128_2_1h w128_2_1e w128_2_2 w128_2_2l w128_2_2h w128_2_2e w128_2_3 w128_2_3l w128_2_3h w128_2_3e w128_2_4 w128_2_4l w128_2_4h w128_2_4e i128_0 i128_1
    exact ir_vret rfl rfl ⟨rfl, hT_128, hF_128, (by first | omega | (dsimp only; omega)), (by first | omega | (dsimp only; omega))⟩
  have J44 : ∀ n : Nat, ∀ (q44_l4 : Int) (q44_l4l : 0 ≤ q44_l4) (q44_l4h : q44_l4 ≤ 400) (s_44 : im_S) (hT_44 : tI s_44) (hF_44 : fr [(2, 2), (2, 3), (2, 4), (2, 5), (4, 0)] s0 s_44) (w44_2_1 : Int) (w44_2_1l : 0 ≤ w44_2_1) (w44_2_1h : w44_2_1 ≤ 400) (w44_2_1e : s_44.1 2 1 = w44_2_1) (w44_2_2 : Int) (w44_2_2l : 0 ≤ w44_2_2) (w44_2_2h : w44_2_2 ≤ 400) (w44_2_2e : s_44.1 2 2 = w44_2_2) (w44_2_3 : Int) (w44_2_3l : 0 ≤ w44_2_3) (w44_2_3h : w44_2_3 ≤ 65535) (w44_2_3e : s_44.1 2 3 = w44_2_3) (w44_2_4 : Int) (w44_2_4l : 0 ≤ w44_2_4) (w44_2_4h : w44_2_4 ≤ 3) (w44_2_4e : s_44.1 2 4 = w44_2_4) (i44_0 : w44_2_2 ≤ w44_2_1) (i44_1 : (w44_2_4 ≠ 0 ∨ w44_2_3 = 0 ∨ w44_2_2 < w44_2_1)), (400 + 1 - q44_l4) ≤ (n : Int) → ir gG rm_P L ys (d + 49) rm_p_X7_readSum (44, [(0, (2, ((2 : Nat) : Int))), (1, (0, x1)), (2, (0, x2)), (4, (0, q44_l4))], [], s_44) (fun r : im_Re => r.1 = none ∧ (tI r.2 ∧ fr [(2, 2), (2, 3), (2, 4), (2, 5), (4, 0)] s0 r.2 ∧ r.2.1 2 2 ≤ r.2.1 2 1 ∧ (r.2.1 2 4 ≠ 0 ∨ r.2.1 2 3 = 0 ∨ r.2.1 2 2 < r.2.1 2 1))) := by
    intro n
    induction n with
    | zero => intro q44_l4 q44_l4l q44_l4h s_44 hT_44 hF_44 w44_2_1 w44_2_1l w44_2_1h w44_2_1e w44_2_2 w44_2_2l w44_2_2h w44_2_2e w44_2_3 w44_2_3l w44_2_3h w44_2_3e w44_2_4 w44_2_4l w44_2_4h w44_2_4e i44_0 i44_1 hr; exfalso; omega
    | succ n ih44 =>
      intro q44_l4 q44_l4l q44_l4h s_44 hT_44 hF_44 w44_2_1 w44_2_1l w44_2_1h w44_2_1e w44_2_2 w44_2_2l w44_2_2h w44_2_2e w44_2_3 w44_2_3l w44_2_3h w44_2_3e w44_2_4 w44_2_4l w44_2_4h w44_2_4e i44_0 i44_1 hr
      have J90 : ∀ (q90_l5 : Int) (q90_l5l : 0 ≤ q90_l5) (q90_l5h : q90_l5 ≤ 400) (q90_s0 : Int) (q90_s0l : -1 ≤ q90_s0) (q90_s0h : q90_s0 ≤ 1) (f90_4h : q44_l4 ≤ 399) (s_90 : im_S) (hT_90 : tI s_90) (hF_90 : fr [(2, 2), (2, 3), (2, 4), (2, 5), (4, 0)] s0 s_90) (w90_2_1 : Int) (w90_2_1l : 0 ≤ w90_2_1) (w90_2_1h : w90_2_1 ≤ 400) (w90_2_1e : s_90.1 2 1 = w90_2_1) (w90_2_2 : Int) (w90_2_2l : 0 ≤ w90_2_2) (w90_2_2h : w90_2_2 ≤ 400) (w90_2_2e : s_90.1 2 2 = w90_2_2) (w90_2_3 : Int) (w90_2_3l : 43 ≤ w90_2_3) (w90_2_3h : w90_2_3 ≤ 45) (w90_2_3e : s_90.1 2 3 = w90_2_3) (w90_2_4 : Int) (w90_2_4l : 0 ≤ w90_2_4) (w90_2_4h : w90_2_4 ≤ 3) (w90_2_4e : s_90.1 2 4 = w90_2_4) (i90_0 : 1 ≤ w90_2_3) (i90_1 : w90_2_2 ≤ w90_2_1) (i90_2 : (w90_2_4 ≠ 0 ∨ w90_2_3 = 0 ∨ w90_2_2 < w90_2_1)), ir gG rm_P L ys (d + 49) rm_p_X7_readSum (90, [(0, (2, ((2 : Nat) : Int))), (1, (0, x1)), (2, (0, x2)), (4, (0, q44_l4)), (5, (0, q90_l5))], [(0, q90_s0)], s_90) (fun r : im_Re => r.1 = none ∧ (tI r.2 ∧ fr [(2, 2), (2, 3), (2, 4), (2, 5), (4, 0)] s0 r.2 ∧ r.2.1 2 2 ≤ r.2.1 2 1 ∧ (r.2.1 2 4 ≠ 0 ∨ r.2.1 2 3 = 0 ∨ r.2.1 2 2 < r.2.1 2 1))) := by
        intro q90_l5 q90_l5l q90_l5h q90_s0 q90_s0l q90_s0h f90_4h s_90 hT_90 hF_90 w90_2_1 w90_2_1l w90_2_1h w90_2_1e w90_2_2 w90_2_2l w90_2_2h w90_2_2e w90_2_3 w90_2_3l w90_2_3h w90_2_3e w90_2_4 w90_2_4l w90_2_4h w90_2_4e i90_0 i90_1 i90_2
        refine ir_s (pc' := 91) rfl rfl rfl rfl rfl rfl ?_
        refine ir_l (pc' := 92) rfl rfl rfl rfl rfl rfl ?_
        refine ir_cVV (pc' := 95) rfl rfl rfl rfl rfl (Nat.le_of_ble_eq_true rfl) oo_X7_step (gG_at tsk_2) (sf_step7 L ys (d + 43) s_90 hT_90  (by omega) (by omega) (by omega)) (fun s2 hr => ?_)
        obtain ⟨hT2, hG2, p2_0, p2_1⟩ := hr
        have hF2 := fr_trans hF_90 hG2 (by decide)
        have e3 : s2.1 2 1 = w90_2_1 := (hG2.1 _ _ tsk_2 1 (by decide)).trans w90_2_1e
        obtain ⟨z4, z4e, z4l, z4h⟩ := tI_i tf_2_2 tsk_2 hT2
        obtain ⟨z5, z5e, z5l, z5h⟩ := tI_i tf_2_3 tsk_2 hT2
        obtain ⟨z6, z6e, z6l, z6h⟩ := tI_i tf_2_4 tsk_2 hT2
        refine ir_l (pc' := 96) rfl rfl rfl rfl rfl rfl ?_
        refine ir_l (pc' := 97) rfl rfl rfl rfl rfl rfl ?_
        refine ir_k (pc' := 98) (v := (0, 1)) rfl rfl rfl (fun _ => rfl) ?_
        refine ir_iiA (pc' := 99) rfl rfl rfl rfl (fun z7 z7l z7h => ?_)
        refine ir_l (pc' := 100) rfl rfl rfl rfl rfl rfl ?_
        refine ir_cVV (pc' := 103) rfl rfl rfl rfl rfl (Nat.le_of_ble_eq_true rfl) oo_X7_readTerm (gG_at tsk_2) (sf_readTerm7_d0 L ys d s2 hT2 (z7) (by omega) (by omega) (x2) (by omega) (by omega) (by omega) (by omega)) (fun s9 hr => ?_)
        obtain ⟨hT9, hG9, p9_0, p9_1⟩ := hr
        have hF9 := fr_trans hF2 hG9 (by decide)
        have e10 : s9.1 2 1 = w90_2_1 := (hG9.1 _ _ tsk_2 1 (by decide)).trans e3
        obtain ⟨z11, z11e, z11l, z11h⟩ := tI_i tf_2_2 tsk_2 hT9
        obtain ⟨z12, z12e, z12l, z12h⟩ := tI_i tf_2_3 tsk_2 hT9
        obtain ⟨z13, z13e, z13l, z13h⟩ := tI_i tf_2_4 tsk_2 hT9
        refine ir_l (pc' := 104) rfl rfl rfl rfl rfl rfl ?_
        refine ir_l (pc' := 105) rfl rfl rfl rfl rfl rfl ?_
        refine ir_l (pc' := 106) rfl rfl rfl rfl rfl rfl ?_
        refine ir_cVR (pc' := 109) rfl rfl rfl rfl rfl (Nat.le_of_ble_eq_true rfl) oo_X7_slot (gG_at tsk_2) (sf_slot7 L ys (d + 47) s9 hT9 (x1) (by omega) (by omega) ) (fun b14 s15 hr => ?_)
        obtain ⟨hT15, hG15, b14k⟩ := hr
        have hF15 := fr_trans hF9 hG15 (by decide)
        have e16 : s15.1 2 1 = w90_2_1 := (hG15.1 _ _ tsk_2 1 (by decide)).trans e10
        have e17 : s15.1 2 2 = z11 := (hG15.1 _ _ tsk_2 2 (by decide)).trans z11e
        have e18 : s15.1 2 3 = z12 := (hG15.1 _ _ tsk_2 3 (by decide)).trans z12e
        have e19 : s15.1 2 4 = z13 := (hG15.1 _ _ tsk_2 4 (by decide)).trans z13e
        refine ir_l (pc' := 110) rfl rfl rfl rfl rfl rfl ?_
        refine ir_l (pc' := 111) rfl rfl rfl rfl rfl rfl ?_
        refine ir_k (pc' := 112) (v := (0, 1)) rfl rfl rfl (fun _ => rfl) ?_
        refine ir_iiA (pc' := 113) rfl rfl rfl rfl (fun z20 z20l z20h => ?_)
        refine ir_cVR (pc' := 116) rfl rfl rfl rfl rfl (Nat.le_of_ble_eq_true rfl) oo_X7_slot (gG_at tsk_2) (sf_slot7 L ys (d + 47) s15 hT15 (z20) (by omega) (by omega) ) (fun b21 s22 hr => ?_)
        obtain ⟨hT22, hG22, b21k⟩ := hr
        have hF22 := fr_trans hF15 hG22 (by decide)
        have e23 : s22.1 2 1 = w90_2_1 := (hG22.1 _ _ tsk_2 1 (by decide)).trans e16
        have e24 : s22.1 2 2 = z11 := (hG22.1 _ _ tsk_2 2 (by decide)).trans e17
        have e25 : s22.1 2 3 = z12 := (hG22.1 _ _ tsk_2 3 (by decide)).trans e18
        have e26 : s22.1 2 4 = z13 := (hG22.1 _ _ tsk_2 4 (by decide)).trans e19
        refine ir_l (pc' := 117) rfl rfl rfl rfl rfl rfl ?_
        refine ir_l (pc' := 119) rfl rfl rfl rfl rfl rfl ?_
        refine ir_cVV (pc' := 122) rfl rfl rfl rfl rfl (Nat.le_of_ble_eq_true rfl) oo_X7_addTo (gG_at tsk_2) (sf_addTo7 L ys (d + 46) s22 hT22 b14 b14k b21 b21k (q90_s0) (by omega) (by omega) (q90_l5) (by omega) (by omega) (by omega) (by omega)) (fun s28 hr => ?_)
        obtain ⟨hT28, hG28, p28_0, p28_1⟩ := hr
        have hF28 := fr_trans hF22 hG28 (by decide)
        have e29 : s28.1 2 1 = w90_2_1 := (hG28.1 _ _ tsk_2 1 (by decide)).trans e23
        have e30 : s28.1 2 2 = z11 := (hG28.1 _ _ tsk_2 2 (by decide)).trans e24
        obtain ⟨z31, z31e, z31l, z31h⟩ := tI_i tf_2_3 tsk_2 hT28
        obtain ⟨z32, z32e, z32l, z32h⟩ := tI_i tf_2_4 tsk_2 hT28
        refine ir_inc (pc' := 125) rfl rfl rfl rfl rfl (by omega) (by omega) ?_
        refine ir_goto (pc' := 44) rfl rfl ?_
        refine ir_w [(0, (2, ((2 : Nat) : Int))), (1, (0, x1)), (2, (0, x2)), (4, (0, (q44_l4 + 1)))] ⟨rfl, rfl, rfl, rfl, trivial⟩ ?_
        exact ih44 ((q44_l4 + 1)) (by omega) (by omega) s28 hT28 hF28 (w90_2_1) (by omega) (by omega) e29 (z11) (by omega) (by omega) e30 (z31) (by omega) (by omega) z31e (z32) (by omega) (by omega) z32e (by omega) (by omega) (by omega)
      have J70 : ∀ (f70_4h : q44_l4 ≤ 399) (s_70 : im_S) (hT_70 : tI s_70) (hF_70 : fr [(2, 2), (2, 3), (2, 4), (2, 5), (4, 0)] s0 s_70) (w70_2_1 : Int) (w70_2_1l : 0 ≤ w70_2_1) (w70_2_1h : w70_2_1 ≤ 400) (w70_2_1e : s_70.1 2 1 = w70_2_1) (w70_2_2 : Int) (w70_2_2l : 0 ≤ w70_2_2) (w70_2_2h : w70_2_2 ≤ 400) (w70_2_2e : s_70.1 2 2 = w70_2_2) (w70_2_3 : Int) (w70_2_3l : 43 ≤ w70_2_3) (w70_2_3h : w70_2_3 ≤ 45) (w70_2_3e : s_70.1 2 3 = w70_2_3) (w70_2_4 : Int) (w70_2_4l : 0 ≤ w70_2_4) (w70_2_4h : w70_2_4 ≤ 3) (w70_2_4e : s_70.1 2 4 = w70_2_4) (i70_0 : 1 ≤ w70_2_3) (i70_1 : w70_2_2 ≤ w70_2_1) (i70_2 : (w70_2_4 ≠ 0 ∨ w70_2_3 = 0 ∨ w70_2_2 < w70_2_1)), ir gG rm_P L ys (d + 49) rm_p_X7_readSum (70, [(0, (2, ((2 : Nat) : Int))), (1, (0, x1)), (2, (0, x2)), (4, (0, q44_l4))], [], s_70) (fun r : im_Re => r.1 = none ∧ (tI r.2 ∧ fr [(2, 2), (2, 3), (2, 4), (2, 5), (4, 0)] s0 r.2 ∧ r.2.1 2 2 ≤ r.2.1 2 1 ∧ (r.2.1 2 4 ≠ 0 ∨ r.2.1 2 3 = 0 ∨ r.2.1 2 2 < r.2.1 2 1))) := by
        intro f70_4h s_70 hT_70 hF_70 w70_2_1 w70_2_1l w70_2_1h w70_2_1e w70_2_2 w70_2_2l w70_2_2h w70_2_2e w70_2_3 w70_2_3l w70_2_3h w70_2_3e w70_2_4 w70_2_4l w70_2_4h w70_2_4e i70_0 i70_1 i70_2
        refine ir_l (pc' := 71) rfl rfl rfl rfl rfl rfl ?_
        refine ir_getI (pc' := 74) rfl rfl rfl (gG_at tsk_2) rfl (by decide) (by decide) w70_2_2e (by omega) (by omega) ?_
        refine ir_s (pc' := 76) rfl rfl rfl rfl rfl rfl ?_
        refine ir_l (pc' := 77) rfl rfl rfl rfl rfl rfl ?_
        refine ir_getI (pc' := 80) rfl rfl rfl (gG_at tsk_2) rfl (by decide) (by decide) w70_2_3e (by omega) (by omega) ?_
        refine ir_k (pc' := 82) (v := (0, 45)) rfl rfl rfl (fun _ => rfl) ?_
        refine ir_c_ne (pt := 89) (pc' := 85) rfl rfl rfl (fun c33 => ?_) (fun c33 => ?_)
        · refine ir_k (pc' := 90) (v := (0, 1)) rfl rfl rfl (fun _ => rfl) ?_
          refine ir_w [(0, (2, ((2 : Nat) : Int))), (1, (0, x1)), (2, (0, x2)), (4, (0, q44_l4)), (5, (0, w70_2_2))] ⟨rfl, rfl, rfl, rfl, rfl, trivial⟩ ?_
          exact J90 (w70_2_2) (by omega) (by omega) (1) (by omega) (by omega) (by omega) s_70 hT_70 hF_70 (w70_2_1) (by omega) (by omega) w70_2_1e (w70_2_2) (by omega) (by omega) w70_2_2e (w70_2_3) (by omega) (by omega) w70_2_3e (w70_2_4) (by omega) (by omega) w70_2_4e (by omega) (by omega) (by omega)
        · refine ir_k (pc' := 86) (v := (0, (-1))) rfl rfl rfl (fun _ => rfl) ?_
          refine ir_goto (pc' := 90) rfl rfl ?_
          refine ir_w [(0, (2, ((2 : Nat) : Int))), (1, (0, x1)), (2, (0, x2)), (4, (0, q44_l4)), (5, (0, w70_2_2))] ⟨rfl, rfl, rfl, rfl, rfl, trivial⟩ ?_
          exact J90 (w70_2_2) (by omega) (by omega) ((-1)) (by omega) (by omega) (by omega) s_70 hT_70 hF_70 (w70_2_1) (by omega) (by omega) w70_2_1e (w70_2_2) (by omega) (by omega) w70_2_2e (w70_2_3) (by omega) (by omega) w70_2_3e (w70_2_4) (by omega) (by omega) w70_2_4e (by omega) (by omega) (by omega)
      refine ir_l (pc' := 46) rfl rfl rfl rfl rfl rfl ?_
      refine ir_k (pc' := 49) (v := (0, 400)) rfl rfl rfl (fun _ => rfl) ?_
      refine ir_c_ge (pt := 128) (pc' := 52) rfl rfl rfl (fun c34 => ?_) (fun c34 => ?_)
      · refine ir_w [] trivial ?_
        exact J128 s_44 hT_44 hF_44 (w44_2_1) (by omega) (by omega) w44_2_1e (w44_2_2) (by omega) (by omega) w44_2_2e (w44_2_3) (by omega) (by omega) w44_2_3e (w44_2_4) (by omega) (by omega) w44_2_4e (by omega) (by omega)
      · refine ir_l (pc' := 53) rfl rfl rfl rfl rfl rfl ?_
        refine ir_getI (pc' := 56) rfl rfl rfl (gG_at tsk_2) rfl (by decide) (by decide) w44_2_3e (by omega) (by omega) ?_
        refine ir_k (pc' := 58) (v := (0, 43)) rfl rfl rfl (fun _ => rfl) ?_
        refine ir_c_eq (pt := 70) (pc' := 61) rfl rfl rfl (fun c35 => ?_) (fun c35 => ?_)
        · refine ir_w [(0, (2, ((2 : Nat) : Int))), (1, (0, x1)), (2, (0, x2)), (4, (0, q44_l4))] ⟨rfl, rfl, rfl, rfl, trivial⟩ ?_
          exact J70 (by omega) s_44 hT_44 hF_44 (w44_2_1) (by omega) (by omega) w44_2_1e (w44_2_2) (by omega) (by omega) w44_2_2e (w44_2_3) (by omega) (by omega) w44_2_3e (w44_2_4) (by omega) (by omega) w44_2_4e (by omega) (by omega) (by omega)
        · refine ir_l (pc' := 62) rfl rfl rfl rfl rfl rfl ?_
          refine ir_getI (pc' := 65) rfl rfl rfl (gG_at tsk_2) rfl (by decide) (by decide) w44_2_3e (by omega) (by omega) ?_
          refine ir_k (pc' := 67) (v := (0, 45)) rfl rfl rfl (fun _ => rfl) ?_
          refine ir_c_ne (pt := 128) (pc' := 70) rfl rfl rfl (fun c36 => ?_) (fun c36 => ?_)
          · refine ir_w [] trivial ?_
            exact J128 s_44 hT_44 hF_44 (w44_2_1) (by omega) (by omega) w44_2_1e (w44_2_2) (by omega) (by omega) w44_2_2e (w44_2_3) (by omega) (by omega) w44_2_3e (w44_2_4) (by omega) (by omega) w44_2_4e (by omega) (by omega)
          · refine ir_w [(0, (2, ((2 : Nat) : Int))), (1, (0, x1)), (2, (0, x2)), (4, (0, q44_l4))] ⟨rfl, rfl, rfl, rfl, trivial⟩ ?_
            exact J70 (by omega) s_44 hT_44 hF_44 (w44_2_1) (by omega) (by omega) w44_2_1e (w44_2_2) (by omega) (by omega) w44_2_2e (w44_2_3) (by omega) (by omega) w44_2_3e (w44_2_4) (by omega) (by omega) w44_2_4e (by omega) (by omega) (by omega)
  have J41 : ∀ (s_41 : im_S) (hT_41 : tI s_41) (hF_41 : fr [(2, 2), (2, 3), (2, 4), (2, 5), (4, 0)] s0 s_41) (w41_2_1 : Int) (w41_2_1l : 0 ≤ w41_2_1) (w41_2_1h : w41_2_1 ≤ 400) (w41_2_1e : s_41.1 2 1 = w41_2_1) (w41_2_2 : Int) (w41_2_2l : 0 ≤ w41_2_2) (w41_2_2h : w41_2_2 ≤ 400) (w41_2_2e : s_41.1 2 2 = w41_2_2) (w41_2_3 : Int) (w41_2_3l : 0 ≤ w41_2_3) (w41_2_3h : w41_2_3 ≤ 65535) (w41_2_3e : s_41.1 2 3 = w41_2_3) (w41_2_4 : Int) (w41_2_4l : 0 ≤ w41_2_4) (w41_2_4h : w41_2_4 ≤ 3) (w41_2_4e : s_41.1 2 4 = w41_2_4) (i41_0 : w41_2_2 ≤ w41_2_1) (i41_1 : (w41_2_4 ≠ 0 ∨ w41_2_3 = 0 ∨ w41_2_2 < w41_2_1)), ir gG rm_P L ys (d + 49) rm_p_X7_readSum (41, [(0, (2, ((2 : Nat) : Int))), (1, (0, x1)), (2, (0, x2))], [], s_41) (fun r : im_Re => r.1 = none ∧ (tI r.2 ∧ fr [(2, 2), (2, 3), (2, 4), (2, 5), (4, 0)] s0 r.2 ∧ r.2.1 2 2 ≤ r.2.1 2 1 ∧ (r.2.1 2 4 ≠ 0 ∨ r.2.1 2 3 = 0 ∨ r.2.1 2 2 < r.2.1 2 1))) := by
    intro s_41 hT_41 hF_41 w41_2_1 w41_2_1l w41_2_1h w41_2_1e w41_2_2 w41_2_2l w41_2_2h w41_2_2e w41_2_3 w41_2_3l w41_2_3h w41_2_3e w41_2_4 w41_2_4l w41_2_4h w41_2_4e i41_0 i41_1
    refine ir_k (pc' := 42) (v := (0, 0)) rfl rfl rfl (fun _ => rfl) ?_
    refine ir_s (pc' := 44) rfl rfl rfl rfl rfl rfl ?_
    refine ir_w [(0, (2, ((2 : Nat) : Int))), (1, (0, x1)), (2, (0, x2)), (4, (0, 0))] ⟨rfl, rfl, rfl, rfl, trivial⟩ ?_
    exact J44 _ (0) (by omega) (by omega) s_41 hT_41 hF_41 (w41_2_1) (by omega) (by omega) w41_2_1e (w41_2_2) (by omega) (by omega) w41_2_2e (w41_2_3) (by omega) (by omega) w41_2_3e (w41_2_4) (by omega) (by omega) w41_2_4e (by omega) (by omega) (Int.self_le_toNat _)
  have J23 : ∀ (q23_l3 : Int) (q23_l3l : -1 ≤ q23_l3) (q23_l3h : q23_l3 ≤ 1) (s_23 : im_S) (hT_23 : tI s_23) (hF_23 : fr [(2, 2), (2, 3), (2, 4), (2, 5), (4, 0)] s0 s_23) (w23_2_1 : Int) (w23_2_1l : 0 ≤ w23_2_1) (w23_2_1h : w23_2_1 ≤ 400) (w23_2_1e : s_23.1 2 1 = w23_2_1) (w23_2_2 : Int) (w23_2_2l : 0 ≤ w23_2_2) (w23_2_2h : w23_2_2 ≤ 400) (w23_2_2e : s_23.1 2 2 = w23_2_2) (w23_2_3 : Int) (w23_2_3l : 0 ≤ w23_2_3) (w23_2_3h : w23_2_3 ≤ 65535) (w23_2_3e : s_23.1 2 3 = w23_2_3) (w23_2_4 : Int) (w23_2_4l : 0 ≤ w23_2_4) (w23_2_4h : w23_2_4 ≤ 3) (w23_2_4e : s_23.1 2 4 = w23_2_4) (i23_0 : w23_2_2 ≤ w23_2_1) (i23_1 : (w23_2_4 ≠ 0 ∨ w23_2_3 = 0 ∨ w23_2_2 < w23_2_1)), ir gG rm_P L ys (d + 49) rm_p_X7_readSum (23, [(0, (2, ((2 : Nat) : Int))), (1, (0, x1)), (2, (0, x2)), (3, (0, q23_l3))], [], s_23) (fun r : im_Re => r.1 = none ∧ (tI r.2 ∧ fr [(2, 2), (2, 3), (2, 4), (2, 5), (4, 0)] s0 r.2 ∧ r.2.1 2 2 ≤ r.2.1 2 1 ∧ (r.2.1 2 4 ≠ 0 ∨ r.2.1 2 3 = 0 ∨ r.2.1 2 2 < r.2.1 2 1))) := by
    intro q23_l3 q23_l3l q23_l3h s_23 hT_23 hF_23 w23_2_1 w23_2_1l w23_2_1h w23_2_1e w23_2_2 w23_2_2l w23_2_2h w23_2_2e w23_2_3 w23_2_3l w23_2_3h w23_2_3e w23_2_4 w23_2_4l w23_2_4h w23_2_4e i23_0 i23_1
    refine ir_l (pc' := 24) rfl rfl rfl rfl rfl rfl ?_
    refine ir_l (pc' := 25) rfl rfl rfl rfl rfl rfl ?_
    refine ir_l (pc' := 26) rfl rfl rfl rfl rfl rfl ?_
    refine ir_cVV (pc' := 29) rfl rfl rfl rfl rfl (Nat.le_of_ble_eq_true rfl) oo_X7_readTerm (gG_at tsk_2) (sf_readTerm7_d0 L ys d s_23 hT_23 (x1) (by omega) (by omega) (x2) (by omega) (by omega) (by omega) (by omega)) (fun s38 hr => ?_)
    obtain ⟨hT38, hG38, p38_0, p38_1⟩ := hr
    have hF38 := fr_trans hF_23 hG38 (by decide)
    have e39 : s38.1 2 1 = w23_2_1 := (hG38.1 _ _ tsk_2 1 (by decide)).trans w23_2_1e
    obtain ⟨z40, z40e, z40l, z40h⟩ := tI_i tf_2_2 tsk_2 hT38
    obtain ⟨z41, z41e, z41l, z41h⟩ := tI_i tf_2_3 tsk_2 hT38
    obtain ⟨z42, z42e, z42l, z42h⟩ := tI_i tf_2_4 tsk_2 hT38
    refine ir_l (pc' := 30) rfl rfl rfl rfl rfl rfl ?_
    refine ir_z_ge (pt := 41) (pc' := 33) rfl rfl rfl (fun c43 => ?_) (fun c43 => ?_)
    · refine ir_w [(0, (2, ((2 : Nat) : Int))), (1, (0, x1)), (2, (0, x2))] ⟨rfl, rfl, rfl, trivial⟩ ?_
      exact J41 s38 hT38 hF38 (w23_2_1) (by omega) (by omega) e39 (z40) (by omega) (by omega) z40e (z41) (by omega) (by omega) z41e (z42) (by omega) (by omega) z42e (by omega) (by omega)
    · refine ir_l (pc' := 34) rfl rfl rfl rfl rfl rfl ?_
      refine ir_l (pc' := 35) rfl rfl rfl rfl rfl rfl ?_
      refine ir_cVR (pc' := 38) rfl rfl rfl rfl rfl (Nat.le_of_ble_eq_true rfl) oo_X7_slot (gG_at tsk_2) (sf_slot7 L ys (d + 47) s38 hT38 (x1) (by omega) (by omega) ) (fun b44 s45 hr => ?_)
      obtain ⟨hT45, hG45, b44k⟩ := hr
      have hF45 := fr_trans hF38 hG45 (by decide)
      have e46 : s45.1 2 1 = w23_2_1 := (hG45.1 _ _ tsk_2 1 (by decide)).trans e39
      have e47 : s45.1 2 2 = z40 := (hG45.1 _ _ tsk_2 2 (by decide)).trans z40e
      have e48 : s45.1 2 3 = z41 := (hG45.1 _ _ tsk_2 3 (by decide)).trans z41e
      have e49 : s45.1 2 4 = z42 := (hG45.1 _ _ tsk_2 4 (by decide)).trans z42e
      refine ir_cSV (pc' := 41) rfl rfl rfl rfl rfl rfl (Nat.le_of_ble_eq_true rfl) (sf_negate7 L ys (d + 48) s45 hT45 b44 b44k ) (fun s51 hr => ?_)
      obtain ⟨hT51, hG51⟩ := hr
      have hF51 := fr_trans hF45 hG51 (by decide)
      have e52 : s51.1 2 1 = w23_2_1 := (hG51.1 _ _ tsk_2 1 (by decide)).trans e46
      have e53 : s51.1 2 2 = z40 := (hG51.1 _ _ tsk_2 2 (by decide)).trans e47
      have e54 : s51.1 2 3 = z41 := (hG51.1 _ _ tsk_2 3 (by decide)).trans e48
      have e55 : s51.1 2 4 = z42 := (hG51.1 _ _ tsk_2 4 (by decide)).trans e49
      refine ir_w [(0, (2, ((2 : Nat) : Int))), (1, (0, x1)), (2, (0, x2))] ⟨rfl, rfl, rfl, trivial⟩ ?_
      exact J41 s51 hT51 hF51 (w23_2_1) (by omega) (by omega) e52 (z40) (by omega) (by omega) e53 (z41) (by omega) (by omega) e54 (z42) (by omega) (by omega) e55 (by omega) (by omega)
  have J14 : ∀ (q14_s0 : Int) (q14_s0l : -1 ≤ q14_s0) (q14_s0h : q14_s0 ≤ 1) (s_14 : im_S) (hT_14 : tI s_14) (hF_14 : fr [(2, 2), (2, 3), (2, 4), (2, 5), (4, 0)] s0 s_14) (w14_2_1 : Int) (w14_2_1l : 0 ≤ w14_2_1) (w14_2_1h : w14_2_1 ≤ 400) (w14_2_1e : s_14.1 2 1 = w14_2_1) (w14_2_2 : Int) (w14_2_2l : 0 ≤ w14_2_2) (w14_2_2h : w14_2_2 ≤ 400) (w14_2_2e : s_14.1 2 2 = w14_2_2) (w14_2_3 : Int) (w14_2_3l : 0 ≤ w14_2_3) (w14_2_3h : w14_2_3 ≤ 65535) (w14_2_3e : s_14.1 2 3 = w14_2_3) (w14_2_4 : Int) (w14_2_4l : 0 ≤ w14_2_4) (w14_2_4h : w14_2_4 ≤ 3) (w14_2_4e : s_14.1 2 4 = w14_2_4) (i14_0 : (q14_s0 = 1 ∨ w14_2_3 = 45)) (i14_1 : w14_2_2 ≤ w14_2_1) (i14_2 : (w14_2_4 ≠ 0 ∨ w14_2_3 = 0 ∨ w14_2_2 < w14_2_1)), ir gG rm_P L ys (d + 49) rm_p_X7_readSum (14, [(0, (2, ((2 : Nat) : Int))), (1, (0, x1)), (2, (0, x2))], [(0, q14_s0)], s_14) (fun r : im_Re => r.1 = none ∧ (tI r.2 ∧ fr [(2, 2), (2, 3), (2, 4), (2, 5), (4, 0)] s0 r.2 ∧ r.2.1 2 2 ≤ r.2.1 2 1 ∧ (r.2.1 2 4 ≠ 0 ∨ r.2.1 2 3 = 0 ∨ r.2.1 2 2 < r.2.1 2 1))) := by
    intro q14_s0 q14_s0l q14_s0h s_14 hT_14 hF_14 w14_2_1 w14_2_1l w14_2_1h w14_2_1e w14_2_2 w14_2_2l w14_2_2h w14_2_2e w14_2_3 w14_2_3l w14_2_3h w14_2_3e w14_2_4 w14_2_4l w14_2_4h w14_2_4e i14_0 i14_1 i14_2
    refine ir_s (pc' := 15) rfl rfl rfl rfl rfl rfl ?_
    refine ir_l (pc' := 16) rfl rfl rfl rfl rfl rfl ?_
    refine ir_z_ge (pt := 23) (pc' := 19) rfl rfl rfl (fun c56 => ?_) (fun c56 => ?_)
    · refine ir_w [(0, (2, ((2 : Nat) : Int))), (1, (0, x1)), (2, (0, x2)), (3, (0, q14_s0))] ⟨rfl, rfl, rfl, rfl, trivial⟩ ?_
      exact J23 (q14_s0) (by omega) (by omega) s_14 hT_14 hF_14 (w14_2_1) (by omega) (by omega) w14_2_1e (w14_2_2) (by omega) (by omega) w14_2_2e (w14_2_3) (by omega) (by omega) w14_2_3e (w14_2_4) (by omega) (by omega) w14_2_4e (by omega) (by omega)
    · refine ir_l (pc' := 20) rfl rfl rfl rfl rfl rfl ?_
      refine ir_cVV (pc' := 23) rfl rfl rfl rfl rfl (Nat.le_of_ble_eq_true rfl) oo_X7_step (gG_at tsk_2) (sf_step7 L ys (d + 43) s_14 hT_14  (by omega) (by omega) (by omega)) (fun s58 hr => ?_)
      obtain ⟨hT58, hG58, p58_0, p58_1⟩ := hr
      have hF58 := fr_trans hF_14 hG58 (by decide)
      have e59 : s58.1 2 1 = w14_2_1 := (hG58.1 _ _ tsk_2 1 (by decide)).trans w14_2_1e
      obtain ⟨z60, z60e, z60l, z60h⟩ := tI_i tf_2_2 tsk_2 hT58
      obtain ⟨z61, z61e, z61l, z61h⟩ := tI_i tf_2_3 tsk_2 hT58
      obtain ⟨z62, z62e, z62l, z62h⟩ := tI_i tf_2_4 tsk_2 hT58
      refine ir_w [(0, (2, ((2 : Nat) : Int))), (1, (0, x1)), (2, (0, x2)), (3, (0, q14_s0))] ⟨rfl, rfl, rfl, rfl, trivial⟩ ?_
      exact J23 (q14_s0) (by omega) (by omega) s58 hT58 hF58 (w14_2_1) (by omega) (by omega) e59 (z60) (by omega) (by omega) z60e (z61) (by omega) (by omega) z61e (z62) (by omega) (by omega) z62e (by omega) (by omega)
  obtain ⟨z63, z63e, z63l, z63h⟩ := tI_i tf_2_1 tsk_2 hT0
  obtain ⟨z64, z64e, z64l, z64h⟩ := tI_i tf_2_2 tsk_2 hT0
  obtain ⟨z65, z65e, z65l, z65h⟩ := tI_i tf_2_3 tsk_2 hT0
  obtain ⟨z66, z66e, z66l, z66h⟩ := tI_i tf_2_4 tsk_2 hT0
  refine ir_l (pc' := 1) rfl rfl rfl rfl rfl rfl ?_
  refine ir_getI (pc' := 4) rfl rfl rfl (gG_at tsk_2) rfl (by decide) (by decide) z65e (by omega) (by omega) ?_
  refine ir_k (pc' := 6) (v := (0, 45)) rfl rfl rfl (fun _ => rfl) ?_
  refine ir_c_ne (pt := 13) (pc' := 9) rfl rfl rfl (fun c67 => ?_) (fun c67 => ?_)
  · refine ir_k (pc' := 14) (v := (0, 1)) rfl rfl rfl (fun _ => rfl) ?_
    refine ir_w [(0, (2, ((2 : Nat) : Int))), (1, (0, x1)), (2, (0, x2))] ⟨rfl, rfl, rfl, trivial⟩ ?_
    exact J14 (1) (by omega) (by omega) s0 hT0 hF0 (z63) (by omega) (by omega) z63e (z64) (by omega) (by omega) z64e (z65) (by omega) (by omega) z65e (z66) (by omega) (by omega) z66e (by omega) (by omega) (by omega)
  · refine ir_k (pc' := 10) (v := (0, (-1))) rfl rfl rfl (fun _ => rfl) ?_
    refine ir_goto (pc' := 14) rfl rfl ?_
    refine ir_w [(0, (2, ((2 : Nat) : Int))), (1, (0, x1)), (2, (0, x2))] ⟨rfl, rfl, rfl, trivial⟩ ?_
    exact J14 ((-1)) (by omega) (by omega) s0 hT0 hF0 (z63) (by omega) (by omega) z63e (z64) (by omega) (by omega) z64e (z65) (by omega) (by omega) z65e (z66) (by omega) (by omega) z66e (by omega) (by omega) (by omega)
theorem sf_J0_isLatin1_aae02_4 (L : Nat) (ys : Nat → Int32) (d : Nat) (s0 : im_S) (hT0 : tI s0)  : icI gG rm_P L ys 0 (d + 1) 230 [(4, 4)] s0 (fun z s => tI s ∧ fr [] s0 s ∧ 1 ≤ z ∧ z ≤ 1) := by
  refine ic_startM (M := rm_p_J0_isLatin1_aae02) om_J0_isLatin1_aae02 (Nat.le_of_ble_eq_true rfl) ?_
  refine ir_w [(0, (4, 4))] ⟨rfl, trivial⟩ ?_
  have hF0 := fr_refl [] s0
  have J18 : ∀ (q18_s0 : Int) (q18_s0l : 1 ≤ q18_s0) (q18_s0h : q18_s0 ≤ 1) (s_18 : im_S) (hT_18 : tI s_18) (hF_18 : fr [] s0 s_18), ir gG rm_P L ys d rm_p_J0_isLatin1_aae02 (18, [], [(0, q18_s0)], s_18) (fun r : im_Re => ∃ z, r.1 = some (0, z) ∧ (tI r.2 ∧ fr [] s0 r.2 ∧ 1 ≤ z ∧ z ≤ 1)) := by
    intro q18_s0 q18_s0l q18_s0h s_18 hT_18 hF_18
    exact ir_zret rfl rfl (by omega) ⟨_, rfl, hT_18, hF_18, by omega, by omega⟩
  refine ir_k (pc' := 3) (v := (0, 1)) rfl rfl rfl (fun _ => rfl) ?_
  refine ir_z_eq (pt := 17) (pc' := 6) rfl rfl rfl (fun c1 => ?_) (fun c1 => ?_)
  · exfalso; omega
  · refine ir_l (pc' := 7) rfl rfl rfl rfl rfl rfl ?_
    refine ir_x (pc' := 10) (st' := (0, 0) :: _) rfl rfl rfl (fun _ => rfl) ?_
    refine ir_z_ne (pt := 17) (pc' := 13) rfl rfl rfl (fun c2 => ?_) (fun c2 => ?_)
    · exfalso; omega
    · refine ir_k (pc' := 14) (v := (0, 1)) rfl rfl rfl (fun _ => rfl) ?_
      refine ir_goto (pc' := 18) rfl rfl ?_
      refine ir_w [] trivial ?_
      exact J18 (1) (by omega) (by omega) s0 hT0 hF0
theorem sf_J0_coder_7d493_4 (L : Nat) (ys : Nat → Int32) (d : Nat) (s0 : im_S) (hT0 : tI s0)  : icI gG rm_P L ys 0 (d + 1) 227 [(4, 4)] s0 (fun z s => tI s ∧ fr [] s0 s ∧ 0 ≤ z ∧ z ≤ 0) := by
  refine ic_startM (M := rm_p_J0_coder_7d493) om_J0_coder_7d493 (Nat.le_of_ble_eq_true rfl) ?_
  refine ir_w [(0, (4, 4))] ⟨rfl, trivial⟩ ?_
  have hF0 := fr_refl [] s0
  have J14 : ∀ (q14_s0 : Int) (q14_s0l : 0 ≤ q14_s0) (q14_s0h : q14_s0 ≤ 0) (s_14 : im_S) (hT_14 : tI s_14) (hF_14 : fr [] s0 s_14), ir gG rm_P L ys d rm_p_J0_coder_7d493 (14, [], [(0, q14_s0)], s_14) (fun r : im_Re => ∃ z, r.1 = some (0, z) ∧ (tI r.2 ∧ fr [] s0 r.2 ∧ 0 ≤ z ∧ z ≤ 0)) := by
    intro q14_s0 q14_s0l q14_s0h s_14 hT_14 hF_14
    exact ir_bret rfl rfl (by omega) ⟨_, rfl, hT_14, hF_14, by omega, by omega⟩
  refine ir_k (pc' := 3) (v := (0, 1)) rfl rfl rfl (fun _ => rfl) ?_
  refine ir_z_eq (pt := 13) (pc' := 6) rfl rfl rfl (fun c1 => ?_) (fun c1 => ?_)
  · exfalso; omega
  · refine ir_l (pc' := 7) rfl rfl rfl rfl rfl rfl ?_
    refine ir_x (pc' := 10) (st' := (0, 0) :: _) rfl rfl rfl (fun _ => rfl) ?_
    refine ir_goto (pc' := 14) rfl rfl ?_
    refine ir_w [] trivial ?_
    exact J14 (0) (by omega) (by omega) s0 hT0 hF0
theorem sf_J0_length_8abf5_4 (L : Nat) (ys : Nat → Int32) (d : Nat) (s0 : im_S) (hT0 : tI s0)  : icI gG rm_P L ys 0 (d + 2) 231 [(4, 4)] s0 (fun z s => tI s ∧ fr [] s0 s ∧ 3 ≤ z ∧ z ≤ 3) := by
  refine ic_startM (M := rm_p_J0_length_8abf5) om_J0_length_8abf5 (Nat.le_of_ble_eq_true rfl) ?_
  refine ir_w [(0, (4, 4))] ⟨rfl, trivial⟩ ?_
  have hF0 := fr_refl [] s0
  refine ir_l (pc' := 1) rfl rfl rfl rfl rfl rfl ?_
  refine ir_x (pc' := 4) (st' := (4, 5) :: _) rfl rfl rfl (fun _ => rfl) ?_
  refine ir_x (pc' := 5) (st' := (0, 3) :: _) rfl rfl rfl (fun _ => rfl) ?_
  refine ir_l (pc' := 6) rfl rfl rfl rfl rfl rfl ?_
  refine ir_cFI (pc' := 9) rfl rfl rfl rfl rfl (Nat.le_of_ble_eq_true rfl) (by decide) (sf_J0_coder_7d493_4 L ys d s0 hT0  ) (fun z1 s2 hr => ?_)
  obtain ⟨hT2, hG2, z1l, z1h⟩ := hr
  have hF2 := fr_trans hF0 hG2 (by decide)
  obtain rfl : z1 = 0 := by omega
  refine ir_shr (pc' := 10) (y := 0) (k := 0) (m := 1) rfl rfl (by decide) rfl (by decide) (by omega) (by omega) ?_
  exact ir_iret rfl rfl ⟨_, rfl, hT2, hF2, by omega, by omega⟩
theorem sf_J1_canEncode_9a6ad_0_0 (L : Nat) (ys : Nat → Int32) (d : Nat) (s0 : im_S) (hT0 : tI s0) (x0 : Int) (x0l : 0 ≤ x0) (x0h : x0 ≤ 0) : icI gG rm_P L ys 0 (d + 1) 233 [(0, x0)] s0 (fun z s => tI s ∧ fr [] s0 s ∧ 1 ≤ z ∧ z ≤ 1) := by
  refine ic_startM (M := rm_p_J1_canEncode_9a6ad) om_J1_canEncode_9a6ad (Nat.le_of_ble_eq_true rfl) ?_
  refine ir_w [(0, (0, x0))] ⟨rfl, trivial⟩ ?_
  have hF0 := fr_refl [] s0
  have J16 : ∀ (q16_s0 : Int) (q16_s0l : 1 ≤ q16_s0) (q16_s0h : q16_s0 ≤ 1) (s_16 : im_S) (hT_16 : tI s_16) (hF_16 : fr [] s0 s_16), ir gG rm_P L ys d rm_p_J1_canEncode_9a6ad (16, [], [(0, q16_s0)], s_16) (fun r : im_Re => ∃ z, r.1 = some (0, z) ∧ (tI r.2 ∧ fr [] s0 r.2 ∧ 1 ≤ z ∧ z ≤ 1)) := by
    intro q16_s0 q16_s0l q16_s0h s_16 hT_16 hF_16
    exact ir_zret rfl rfl (by omega) ⟨_, rfl, hT_16, hF_16, by omega, by omega⟩
  refine ir_l (pc' := 1) rfl rfl rfl rfl rfl rfl ?_
  refine ir_z_lt (pt := 15) (pc' := 4) rfl rfl rfl (fun c1 => ?_) (fun c1 => ?_)
  · exfalso; omega
  · refine ir_l (pc' := 5) rfl rfl rfl rfl rfl rfl ?_
    refine ir_k (pc' := 8) (v := (0, 255)) rfl rfl rfl (fun _ => rfl) ?_
    refine ir_c_gt (pt := 15) (pc' := 11) rfl rfl rfl (fun c2 => ?_) (fun c2 => ?_)
    · exfalso; omega
    · refine ir_k (pc' := 12) (v := (0, 1)) rfl rfl rfl (fun _ => rfl) ?_
      refine ir_goto (pc' := 16) rfl rfl ?_
      refine ir_w [] trivial ?_
      exact J16 (1) (by omega) (by omega) s0 hT0 hF0
theorem sf_J1_indexOfChar_4cfef_5_0_0_0_0_3_3 (L : Nat) (ys : Nat → Int32) (d : Nat) (s0 : im_S) (hT0 : tI s0) (x1 : Int) (x1l : 0 ≤ x1) (x1h : x1 ≤ 0) (x2 : Int) (x2l : 0 ≤ x2) (x2h : x2 ≤ 0) (x3 : Int) (x3l : 3 ≤ x3) (x3h : x3 ≤ 3) : icI gG rm_P L ys 0 (d + 1) 234 [(4, 5), (0, x1), (0, x2), (0, x3)] s0 (fun z s => tI s ∧ fr [] s0 s ∧ -1 ≤ z ∧ z ≤ -1) := by
  refine ic_startM (M := rm_p_J1_indexOfChar_4cfef) om_J1_indexOfChar_4cfef (Nat.le_of_ble_eq_true rfl) ?_
  refine ir_w [(0, (4, 5)), (1, (0, x1)), (2, (0, x2)), (3, (0, x3))] ⟨rfl, rfl, rfl, rfl, trivial⟩ ?_
  have hF0 := fr_refl [] s0
  have J7 : ∀ n : Nat, ∀ (q7_l4 : Int) (q7_l4l : 0 ≤ q7_l4) (q7_l4h : q7_l4 ≤ 0) (q7_l5 : Int) (q7_l5l : 0 ≤ q7_l5) (q7_l5h : q7_l5 ≤ 3) (s_7 : im_S) (hT_7 : tI s_7) (hF_7 : fr [] s0 s_7), (3 + 1 - q7_l5) ≤ (n : Int) → ir gG rm_P L ys d rm_p_J1_indexOfChar_4cfef (7, [(0, (4, 5)), (3, (0, x3)), (4, (0, q7_l4)), (5, (0, q7_l5))], [], s_7) (fun r : im_Re => ∃ z, r.1 = some (0, z) ∧ (tI r.2 ∧ fr [] s0 r.2 ∧ -1 ≤ z ∧ z ≤ -1)) := by
    intro n
    induction n with
    | zero => intro q7_l4 q7_l4l q7_l4h q7_l5 q7_l5l q7_l5h s_7 hT_7 hF_7 hr; exfalso; omega
    | succ n ih7 =>
      intro q7_l4 q7_l4l q7_l4h q7_l5 q7_l5l q7_l5h s_7 hT_7 hF_7 hr
      refine ir_l (pc' := 9) rfl rfl rfl rfl rfl rfl ?_
      refine ir_l (pc' := 10) rfl rfl rfl rfl rfl rfl ?_
      refine ir_c_ge (pt := 31) (pc' := 13) rfl rfl rfl (fun c1 => ?_) (fun c1 => ?_)
      · refine ir_k (pc' := 32) (v := (0, (-1))) rfl rfl rfl (fun _ => rfl) ?_
        exact ir_iret rfl rfl ⟨_, rfl, hT_7, hF_7, by omega, by omega⟩
      · refine ir_l (pc' := 14) rfl rfl rfl rfl rfl rfl ?_
        refine ir_l (pc' := 16) rfl rfl rfl rfl rfl rfl ?_
        refine ir_text1 (pc' := 17) rfl rfl (by omega) (by omega) (fun z2 z2l z2h => ?_)
        refine ir_l (pc' := 19) rfl rfl rfl rfl rfl rfl ?_
        refine ir_c_ne (pt := 25) (pc' := 22) rfl rfl rfl (fun c3 => ?_) (fun c3 => ?_)
        · refine ir_inc (pc' := 28) rfl rfl rfl rfl rfl (by omega) (by omega) ?_
          refine ir_goto (pc' := 7) rfl rfl ?_
          refine ir_w [(0, (4, 5)), (3, (0, x3)), (4, (0, q7_l4)), (5, (0, (q7_l5 + 1)))] ⟨rfl, rfl, rfl, rfl, trivial⟩ ?_
          exact ih7 (q7_l4) (by omega) (by omega) ((q7_l5 + 1)) (by omega) (by omega) s_7 hT_7 hF_7 (by omega)
        · exfalso; omega
  refine ir_l (pc' := 1) rfl rfl rfl rfl rfl rfl ?_
  refine ir_i2bE (pc' := 2) rfl rfl (by omega) (by omega) ?_
  refine ir_s (pc' := 4) rfl rfl rfl rfl rfl rfl ?_
  refine ir_l (pc' := 5) rfl rfl rfl rfl rfl rfl ?_
  refine ir_s (pc' := 7) rfl rfl rfl rfl rfl rfl ?_
  refine ir_w [(0, (4, 5)), (3, (0, x3)), (4, (0, x1)), (5, (0, x2))] ⟨rfl, rfl, rfl, rfl, trivial⟩ ?_
  exact J7 _ (x1) (by omega) (by omega) (x2) (by omega) (by omega) s0 hT0 hF0 (Int.self_le_toNat _)
theorem sf_J1_indexOf_4cfef_5_0_0_0_0_3_3 (L : Nat) (ys : Nat → Int32) (d : Nat) (s0 : im_S) (hT0 : tI s0) (x1 : Int) (x1l : 0 ≤ x1) (x1h : x1 ≤ 0) (x2 : Int) (x2l : 0 ≤ x2) (x2h : x2 ≤ 0) (x3 : Int) (x3l : 3 ≤ x3) (x3h : x3 ≤ 3) : icI gG rm_P L ys 0 (d + 2) 235 [(4, 5), (0, x1), (0, x2), (0, x3)] s0 (fun z s => tI s ∧ fr [] s0 s ∧ -1 ≤ z ∧ z ≤ -1) := by
  refine ic_startM (M := rm_p_J1_indexOf_4cfef) om_J1_indexOf_4cfef (Nat.le_of_ble_eq_true rfl) ?_
  refine ir_w [(0, (4, 5)), (1, (0, x1)), (2, (0, x2)), (3, (0, x3))] ⟨rfl, rfl, rfl, rfl, trivial⟩ ?_
  have hF0 := fr_refl [] s0
  refine ir_l (pc' := 1) rfl rfl rfl rfl rfl rfl ?_
  refine ir_cSI (pc' := 4) rfl rfl rfl rfl rfl rfl (Nat.le_of_ble_eq_true rfl) (sf_J1_canEncode_9a6ad_0_0 L ys d s0 hT0 (x1) (by omega) (by omega) ) (fun z1 s2 hr => ?_)
  obtain ⟨hT2, hG2, z1l, z1h⟩ := hr
  have hF2 := fr_trans hF0 hG2 (by decide)
  refine ir_z_ne (pt := 9) (pc' := 7) rfl rfl rfl (fun c3 => ?_) (fun c3 => ?_)
  · refine ir_l (pc' := 10) rfl rfl rfl rfl rfl rfl ?_
    refine ir_k (pc' := 11) (v := (0, 0)) rfl rfl rfl (fun _ => rfl) ?_
    refine ir_cSI (pc' := 14) rfl rfl rfl rfl rfl rfl (Nat.le_of_ble_eq_true rfl) (sf_max L ys d s2 (x2) (by omega) (by omega) (0) (by omega) (by omega)) (fun z4 s5 hr => ?_)
    obtain ⟨rfl, z4p0, z4p1, z4p2⟩ := hr
    refine ir_s (pc' := 15) rfl rfl rfl rfl rfl rfl ?_
    refine ir_l (pc' := 16) rfl rfl rfl rfl rfl rfl ?_
    refine ir_l (pc' := 17) rfl rfl rfl rfl rfl rfl ?_
    refine ir_x (pc' := 18) (st' := (0, 3) :: _) rfl rfl rfl (fun _ => rfl) ?_
    refine ir_cSI (pc' := 21) rfl rfl rfl rfl rfl rfl (Nat.le_of_ble_eq_true rfl) (sf_min L ys d s2 (x3) (by omega) (by omega) (3) (by omega) (by omega)) (fun z6 s7 hr => ?_)
    obtain ⟨rfl, z6p0, z6p1, z6p2⟩ := hr
    refine ir_s (pc' := 22) rfl rfl rfl rfl rfl rfl ?_
    refine ir_l (pc' := 23) rfl rfl rfl rfl rfl rfl ?_
    refine ir_l (pc' := 24) rfl rfl rfl rfl rfl rfl ?_
    refine ir_c_lt (pt := 29) (pc' := 27) rfl rfl rfl (fun c8 => ?_) (fun c8 => ?_)
    · refine ir_l (pc' := 30) rfl rfl rfl rfl rfl rfl ?_
      refine ir_l (pc' := 31) rfl rfl rfl rfl rfl rfl ?_
      refine ir_l (pc' := 32) rfl rfl rfl rfl rfl rfl ?_
      refine ir_l (pc' := 33) rfl rfl rfl rfl rfl rfl ?_
      refine ir_cSI (pc' := 36) rfl rfl rfl rfl rfl rfl (Nat.le_of_ble_eq_true rfl) (sf_J1_indexOfChar_4cfef_5_0_0_0_0_3_3 L ys d s2 hT2 (x1) (by omega) (by omega) (z4) (by omega) (by omega) (z6) (by omega) (by omega) ) (fun z9 s10 hr => ?_)
      obtain ⟨hT10, hG10, z9l, z9h⟩ := hr
      have hF10 := fr_trans hF2 hG10 (by decide)
      exact ir_iret rfl rfl ⟨_, rfl, hT10, hF10, by omega, by omega⟩
    · exfalso; omega
  · exfalso; omega
theorem sf_J0_indexOf_7cf53_4_0_0_0_0 (L : Nat) (ys : Nat → Int32) (d : Nat) (s0 : im_S) (hT0 : tI s0) (x1 : Int) (x1l : 0 ≤ x1) (x1h : x1 ≤ 0) (x2 : Int) (x2l : 0 ≤ x2) (x2h : x2 ≤ 0) : icI gG rm_P L ys 0 (d + 3) 229 [(4, 4), (0, x1), (0, x2)] s0 (fun z s => tI s ∧ fr [] s0 s ∧ -1 ≤ z ∧ z ≤ -1) := by
  refine ic_startM (M := rm_p_J0_indexOf_7cf53) om_J0_indexOf_7cf53 (Nat.le_of_ble_eq_true rfl) ?_
  refine ir_w [(0, (4, 4)), (1, (0, x1)), (2, (0, x2))] ⟨rfl, rfl, rfl, trivial⟩ ?_
  have hF0 := fr_refl [] s0
  have J36 : ∀ (q36_s0 : Int) (q36_s0l : -1 ≤ q36_s0) (q36_s0h : q36_s0 ≤ -1) (s_36 : im_S) (hT_36 : tI s_36) (hF_36 : fr [] s0 s_36), ir gG rm_P L ys (d + 2) rm_p_J0_indexOf_7cf53 (36, [], [(0, q36_s0)], s_36) (fun r : im_Re => ∃ z, r.1 = some (0, z) ∧ (tI r.2 ∧ fr [] s0 r.2 ∧ -1 ≤ z ∧ z ≤ -1)) := by
    intro q36_s0 q36_s0l q36_s0h s_36 hT_36 hF_36
    exact ir_iret rfl rfl ⟨_, rfl, hT_36, hF_36, by omega, by omega⟩
  refine ir_l (pc' := 1) rfl rfl rfl rfl rfl rfl ?_
  refine ir_cFI (pc' := 4) rfl rfl rfl rfl rfl (Nat.le_of_ble_eq_true rfl) (by decide) (sf_J0_isLatin1_aae02_4 L ys (d + 1) s0 hT0  ) (fun z1 s2 hr => ?_)
  obtain ⟨hT2, hG2, z1l, z1h⟩ := hr
  have hF2 := fr_trans hF0 hG2 (by decide)
  refine ir_z_eq (pt := 23) (pc' := 7) rfl rfl rfl (fun c3 => ?_) (fun c3 => ?_)
  · exfalso; omega
  · refine ir_l (pc' := 8) rfl rfl rfl rfl rfl rfl ?_
    refine ir_x (pc' := 11) (st' := (4, 5) :: _) rfl rfl rfl (fun _ => rfl) ?_
    refine ir_l (pc' := 12) rfl rfl rfl rfl rfl rfl ?_
    refine ir_l (pc' := 13) rfl rfl rfl rfl rfl rfl ?_
    refine ir_l (pc' := 14) rfl rfl rfl rfl rfl rfl ?_
    refine ir_cFI (pc' := 17) rfl rfl rfl rfl rfl (Nat.le_of_ble_eq_true rfl) (by decide) (sf_J0_length_8abf5_4 L ys d s2 hT2  ) (fun z4 s5 hr => ?_)
    obtain ⟨hT5, hG5, z4l, z4h⟩ := hr
    have hF5 := fr_trans hF2 hG5 (by decide)
    refine ir_cSI (pc' := 20) rfl rfl rfl rfl rfl rfl (Nat.le_of_ble_eq_true rfl) (sf_J1_indexOf_4cfef_5_0_0_0_0_3_3 L ys d s5 hT5 (x1) (by omega) (by omega) (x2) (by omega) (by omega) (z4) (by omega) (by omega) ) (fun z6 s7 hr => ?_)
    obtain ⟨hT7, hG7, z6l, z6h⟩ := hr
    have hF7 := fr_trans hF5 hG7 (by decide)
    refine ir_goto (pc' := 36) rfl rfl ?_
    refine ir_w [] trivial ?_
    exact J36 (z6) (by omega) (by omega) s7 hT7 hF7
theorem sf_J0_indexOf_0f7a4_4_0_0 (L : Nat) (ys : Nat → Int32) (d : Nat) (s0 : im_S) (hT0 : tI s0) (x1 : Int) (x1l : 0 ≤ x1) (x1h : x1 ≤ 0) : icI gG rm_P L ys 0 (d + 4) 228 [(4, 4), (0, x1)] s0 (fun z s => tI s ∧ fr [] s0 s ∧ -1 ≤ z ∧ z ≤ -1) := by
  refine ic_startM (M := rm_p_J0_indexOf_0f7a4) om_J0_indexOf_0f7a4 (Nat.le_of_ble_eq_true rfl) ?_
  refine ir_w [(0, (4, 4)), (1, (0, x1))] ⟨rfl, rfl, trivial⟩ ?_
  have hF0 := fr_refl [] s0
  refine ir_l (pc' := 1) rfl rfl rfl rfl rfl rfl ?_
  refine ir_l (pc' := 2) rfl rfl rfl rfl rfl rfl ?_
  refine ir_k (pc' := 3) (v := (0, 0)) rfl rfl rfl (fun _ => rfl) ?_
  refine ir_cFI (pc' := 6) rfl rfl rfl rfl rfl (Nat.le_of_ble_eq_true rfl) (by decide) (sf_J0_indexOf_7cf53_4_0_0_0_0 L ys d s0 hT0 (x1) (by omega) (by omega) (0) (by omega) (by omega) ) (fun z1 s2 hr => ?_)
  obtain ⟨hT2, hG2, z1l, z1h⟩ := hr
  have hF2 := fr_trans hF0 hG2 (by decide)
  exact ir_iret rfl rfl ⟨_, rfl, hT2, hF2, by omega, by omega⟩
theorem sf_J1_indexOfChar_4cfef_5_1_65535_0_0_3_3 (L : Nat) (ys : Nat → Int32) (d : Nat) (s0 : im_S) (hT0 : tI s0) (x1 : Int) (x1l : 1 ≤ x1) (x1h : x1 ≤ 65535) (x2 : Int) (x2l : 0 ≤ x2) (x2h : x2 ≤ 0) (x3 : Int) (x3l : 3 ≤ x3) (x3h : x3 ≤ 3) : icI gG rm_P L ys 0 (d + 1) 234 [(4, 5), (0, x1), (0, x2), (0, x3)] s0 (fun z s => tI s ∧ fr [] s0 s ∧ -1 ≤ z ∧ z ≤ 2) := by
  refine ic_startM (M := rm_p_J1_indexOfChar_4cfef) om_J1_indexOfChar_4cfef (Nat.le_of_ble_eq_true rfl) ?_
  refine ir_w [(0, (4, 5)), (1, (0, x1)), (2, (0, x2)), (3, (0, x3))] ⟨rfl, rfl, rfl, rfl, trivial⟩ ?_
  have hF0 := fr_refl [] s0
  have J7 : ∀ n : Nat, ∀ (q7_l4 : Int) (q7_l4l : -128 ≤ q7_l4) (q7_l4h : q7_l4 ≤ 127) (q7_l5 : Int) (q7_l5l : 0 ≤ q7_l5) (q7_l5h : q7_l5 ≤ 3) (s_7 : im_S) (hT_7 : tI s_7) (hF_7 : fr [] s0 s_7), (3 + 1 - q7_l5) ≤ (n : Int) → ir gG rm_P L ys d rm_p_J1_indexOfChar_4cfef (7, [(0, (4, 5)), (3, (0, x3)), (4, (0, q7_l4)), (5, (0, q7_l5))], [], s_7) (fun r : im_Re => ∃ z, r.1 = some (0, z) ∧ (tI r.2 ∧ fr [] s0 r.2 ∧ -1 ≤ z ∧ z ≤ 2)) := by
    intro n
    induction n with
    | zero => intro q7_l4 q7_l4l q7_l4h q7_l5 q7_l5l q7_l5h s_7 hT_7 hF_7 hr; exfalso; omega
    | succ n ih7 =>
      intro q7_l4 q7_l4l q7_l4h q7_l5 q7_l5l q7_l5h s_7 hT_7 hF_7 hr
      refine ir_l (pc' := 9) rfl rfl rfl rfl rfl rfl ?_
      refine ir_l (pc' := 10) rfl rfl rfl rfl rfl rfl ?_
      refine ir_c_ge (pt := 31) (pc' := 13) rfl rfl rfl (fun c1 => ?_) (fun c1 => ?_)
      · refine ir_k (pc' := 32) (v := (0, (-1))) rfl rfl rfl (fun _ => rfl) ?_
        exact ir_iret rfl rfl ⟨_, rfl, hT_7, hF_7, by omega, by omega⟩
      · refine ir_l (pc' := 14) rfl rfl rfl rfl rfl rfl ?_
        refine ir_l (pc' := 16) rfl rfl rfl rfl rfl rfl ?_
        refine ir_text1 (pc' := 17) rfl rfl (by omega) (by omega) (fun z2 z2l z2h => ?_)
        refine ir_l (pc' := 19) rfl rfl rfl rfl rfl rfl ?_
        refine ir_c_ne (pt := 25) (pc' := 22) rfl rfl rfl (fun c3 => ?_) (fun c3 => ?_)
        · refine ir_inc (pc' := 28) rfl rfl rfl rfl rfl (by omega) (by omega) ?_
          refine ir_goto (pc' := 7) rfl rfl ?_
          refine ir_w [(0, (4, 5)), (3, (0, x3)), (4, (0, q7_l4)), (5, (0, (q7_l5 + 1)))] ⟨rfl, rfl, rfl, rfl, trivial⟩ ?_
          exact ih7 (q7_l4) (by omega) (by omega) ((q7_l5 + 1)) (by omega) (by omega) s_7 hT_7 hF_7 (by omega)
        · refine ir_l (pc' := 24) rfl rfl rfl rfl rfl rfl ?_
          exact ir_iret rfl rfl ⟨_, rfl, hT_7, hF_7, by omega, by omega⟩
  refine ir_l (pc' := 1) rfl rfl rfl rfl rfl rfl ?_
  refine ir_i2bA (pc' := 2) rfl rfl (fun z4 z4l z4h => ?_)
  refine ir_s (pc' := 4) rfl rfl rfl rfl rfl rfl ?_
  refine ir_l (pc' := 5) rfl rfl rfl rfl rfl rfl ?_
  refine ir_s (pc' := 7) rfl rfl rfl rfl rfl rfl ?_
  refine ir_w [(0, (4, 5)), (3, (0, x3)), (4, (0, z4)), (5, (0, x2))] ⟨rfl, rfl, rfl, rfl, trivial⟩ ?_
  exact J7 _ (z4) (by omega) (by omega) (x2) (by omega) (by omega) s0 hT0 hF0 (Int.self_le_toNat _)
theorem sf_J1_indexOf_4cfef_5_1_65535_0_0_3_3 (L : Nat) (ys : Nat → Int32) (d : Nat) (s0 : im_S) (hT0 : tI s0) (x1 : Int) (x1l : 1 ≤ x1) (x1h : x1 ≤ 65535) (x2 : Int) (x2l : 0 ≤ x2) (x2h : x2 ≤ 0) (x3 : Int) (x3l : 3 ≤ x3) (x3h : x3 ≤ 3) : icI gG rm_P L ys 0 (d + 2) 235 [(4, 5), (0, x1), (0, x2), (0, x3)] s0 (fun z s => tI s ∧ fr [] s0 s ∧ -1 ≤ z ∧ z ≤ 2) := by
  refine ic_startM (M := rm_p_J1_indexOf_4cfef) om_J1_indexOf_4cfef (Nat.le_of_ble_eq_true rfl) ?_
  refine ir_w [(0, (4, 5)), (1, (0, x1)), (2, (0, x2)), (3, (0, x3))] ⟨rfl, rfl, rfl, rfl, trivial⟩ ?_
  have hF0 := fr_refl [] s0
  refine ir_l (pc' := 1) rfl rfl rfl rfl rfl rfl ?_
  refine ir_cSI (pc' := 4) rfl rfl rfl rfl rfl rfl (Nat.le_of_ble_eq_true rfl) (sf_J1_canEncode_9a6ad_1_65535 L ys d s0 hT0 (x1) (by omega) (by omega) ) (fun z1 s2 hr => ?_)
  obtain ⟨hT2, hG2, z1l, z1h⟩ := hr
  have hF2 := fr_trans hF0 hG2 (by decide)
  refine ir_z_ne (pt := 9) (pc' := 7) rfl rfl rfl (fun c3 => ?_) (fun c3 => ?_)
  · refine ir_l (pc' := 10) rfl rfl rfl rfl rfl rfl ?_
    refine ir_k (pc' := 11) (v := (0, 0)) rfl rfl rfl (fun _ => rfl) ?_
    refine ir_cSI (pc' := 14) rfl rfl rfl rfl rfl rfl (Nat.le_of_ble_eq_true rfl) (sf_max L ys d s2 (x2) (by omega) (by omega) (0) (by omega) (by omega)) (fun z4 s5 hr => ?_)
    obtain ⟨rfl, z4p0, z4p1, z4p2⟩ := hr
    refine ir_s (pc' := 15) rfl rfl rfl rfl rfl rfl ?_
    refine ir_l (pc' := 16) rfl rfl rfl rfl rfl rfl ?_
    refine ir_l (pc' := 17) rfl rfl rfl rfl rfl rfl ?_
    refine ir_x (pc' := 18) (st' := (0, 3) :: _) rfl rfl rfl (fun _ => rfl) ?_
    refine ir_cSI (pc' := 21) rfl rfl rfl rfl rfl rfl (Nat.le_of_ble_eq_true rfl) (sf_min L ys d s2 (x3) (by omega) (by omega) (3) (by omega) (by omega)) (fun z6 s7 hr => ?_)
    obtain ⟨rfl, z6p0, z6p1, z6p2⟩ := hr
    refine ir_s (pc' := 22) rfl rfl rfl rfl rfl rfl ?_
    refine ir_l (pc' := 23) rfl rfl rfl rfl rfl rfl ?_
    refine ir_l (pc' := 24) rfl rfl rfl rfl rfl rfl ?_
    refine ir_c_lt (pt := 29) (pc' := 27) rfl rfl rfl (fun c8 => ?_) (fun c8 => ?_)
    · refine ir_l (pc' := 30) rfl rfl rfl rfl rfl rfl ?_
      refine ir_l (pc' := 31) rfl rfl rfl rfl rfl rfl ?_
      refine ir_l (pc' := 32) rfl rfl rfl rfl rfl rfl ?_
      refine ir_l (pc' := 33) rfl rfl rfl rfl rfl rfl ?_
      refine ir_cSI (pc' := 36) rfl rfl rfl rfl rfl rfl (Nat.le_of_ble_eq_true rfl) (sf_J1_indexOfChar_4cfef_5_1_65535_0_0_3_3 L ys d s2 hT2 (x1) (by omega) (by omega) (z4) (by omega) (by omega) (z6) (by omega) (by omega) ) (fun z9 s10 hr => ?_)
      obtain ⟨hT10, hG10, z9l, z9h⟩ := hr
      have hF10 := fr_trans hF2 hG10 (by decide)
      exact ir_iret rfl rfl ⟨_, rfl, hT10, hF10, by omega, by omega⟩
    · exfalso; omega
  · refine ir_k (pc' := 8) (v := (0, (-1))) rfl rfl rfl (fun _ => rfl) ?_
    exact ir_iret rfl rfl ⟨_, rfl, hT2, hF2, by omega, by omega⟩
theorem sf_J0_indexOf_7cf53_4_1_65535_0_0 (L : Nat) (ys : Nat → Int32) (d : Nat) (s0 : im_S) (hT0 : tI s0) (x1 : Int) (x1l : 1 ≤ x1) (x1h : x1 ≤ 65535) (x2 : Int) (x2l : 0 ≤ x2) (x2h : x2 ≤ 0) : icI gG rm_P L ys 0 (d + 3) 229 [(4, 4), (0, x1), (0, x2)] s0 (fun z s => tI s ∧ fr [] s0 s ∧ -1 ≤ z ∧ z ≤ 2) := by
  refine ic_startM (M := rm_p_J0_indexOf_7cf53) om_J0_indexOf_7cf53 (Nat.le_of_ble_eq_true rfl) ?_
  refine ir_w [(0, (4, 4)), (1, (0, x1)), (2, (0, x2))] ⟨rfl, rfl, rfl, trivial⟩ ?_
  have hF0 := fr_refl [] s0
  have J36 : ∀ (q36_s0 : Int) (q36_s0l : -1 ≤ q36_s0) (q36_s0h : q36_s0 ≤ 2) (s_36 : im_S) (hT_36 : tI s_36) (hF_36 : fr [] s0 s_36), ir gG rm_P L ys (d + 2) rm_p_J0_indexOf_7cf53 (36, [], [(0, q36_s0)], s_36) (fun r : im_Re => ∃ z, r.1 = some (0, z) ∧ (tI r.2 ∧ fr [] s0 r.2 ∧ -1 ≤ z ∧ z ≤ 2)) := by
    intro q36_s0 q36_s0l q36_s0h s_36 hT_36 hF_36
    exact ir_iret rfl rfl ⟨_, rfl, hT_36, hF_36, by omega, by omega⟩
  refine ir_l (pc' := 1) rfl rfl rfl rfl rfl rfl ?_
  refine ir_cFI (pc' := 4) rfl rfl rfl rfl rfl (Nat.le_of_ble_eq_true rfl) (by decide) (sf_J0_isLatin1_aae02_4 L ys (d + 1) s0 hT0  ) (fun z1 s2 hr => ?_)
  obtain ⟨hT2, hG2, z1l, z1h⟩ := hr
  have hF2 := fr_trans hF0 hG2 (by decide)
  refine ir_z_eq (pt := 23) (pc' := 7) rfl rfl rfl (fun c3 => ?_) (fun c3 => ?_)
  · exfalso; omega
  · refine ir_l (pc' := 8) rfl rfl rfl rfl rfl rfl ?_
    refine ir_x (pc' := 11) (st' := (4, 5) :: _) rfl rfl rfl (fun _ => rfl) ?_
    refine ir_l (pc' := 12) rfl rfl rfl rfl rfl rfl ?_
    refine ir_l (pc' := 13) rfl rfl rfl rfl rfl rfl ?_
    refine ir_l (pc' := 14) rfl rfl rfl rfl rfl rfl ?_
    refine ir_cFI (pc' := 17) rfl rfl rfl rfl rfl (Nat.le_of_ble_eq_true rfl) (by decide) (sf_J0_length_8abf5_4 L ys d s2 hT2  ) (fun z4 s5 hr => ?_)
    obtain ⟨hT5, hG5, z4l, z4h⟩ := hr
    have hF5 := fr_trans hF2 hG5 (by decide)
    refine ir_cSI (pc' := 20) rfl rfl rfl rfl rfl rfl (Nat.le_of_ble_eq_true rfl) (sf_J1_indexOf_4cfef_5_1_65535_0_0_3_3 L ys d s5 hT5 (x1) (by omega) (by omega) (x2) (by omega) (by omega) (z4) (by omega) (by omega) ) (fun z6 s7 hr => ?_)
    obtain ⟨hT7, hG7, z6l, z6h⟩ := hr
    have hF7 := fr_trans hF5 hG7 (by decide)
    refine ir_goto (pc' := 36) rfl rfl ?_
    refine ir_w [] trivial ?_
    exact J36 (z6) (by omega) (by omega) s7 hT7 hF7
theorem sf_J0_indexOf_0f7a4_4_1_65535 (L : Nat) (ys : Nat → Int32) (d : Nat) (s0 : im_S) (hT0 : tI s0) (x1 : Int) (x1l : 1 ≤ x1) (x1h : x1 ≤ 65535) : icI gG rm_P L ys 0 (d + 4) 228 [(4, 4), (0, x1)] s0 (fun z s => tI s ∧ fr [] s0 s ∧ -1 ≤ z ∧ z ≤ 2) := by
  refine ic_startM (M := rm_p_J0_indexOf_0f7a4) om_J0_indexOf_0f7a4 (Nat.le_of_ble_eq_true rfl) ?_
  refine ir_w [(0, (4, 4)), (1, (0, x1))] ⟨rfl, rfl, trivial⟩ ?_
  have hF0 := fr_refl [] s0
  refine ir_l (pc' := 1) rfl rfl rfl rfl rfl rfl ?_
  refine ir_l (pc' := 2) rfl rfl rfl rfl rfl rfl ?_
  refine ir_k (pc' := 3) (v := (0, 0)) rfl rfl rfl (fun _ => rfl) ?_
  refine ir_cFI (pc' := 6) rfl rfl rfl rfl rfl (Nat.le_of_ble_eq_true rfl) (by decide) (sf_J0_indexOf_7cf53_4_1_65535_0_0 L ys d s0 hT0 (x1) (by omega) (by omega) (0) (by omega) (by omega) ) (fun z1 s2 hr => ?_)
  obtain ⟨hT2, hG2, z1l, z1h⟩ := hr
  have hF2 := fr_trans hF0 hG2 (by decide)
  exact ir_iret rfl rfl ⟨_, rfl, hT2, hF2, by omega, by omega⟩
theorem sf_idx4 (L : Nat) (ys : Nat → Int32) (d : Nat) (s0 : im_S) (hT0 : tI s0) (x1 : Int) (x1l : 0 ≤ x1) (x1h : x1 ≤ 65535) : icI gG rm_P L ys 0 (d + 4) 228 [(4, 4), (0, x1)] s0 (fun z s => tI s ∧ fr [] s0 s ∧ -1 ≤ z ∧ z ≤ 2 ∧ (z < 0 ∨ 1 ≤ x1)) := by
  rcases (by omega : x1 = 0 ∨ 1 ≤ x1) with h | h
  · refine ic_imp (sf_J0_indexOf_0f7a4_4_0_0 L ys d s0 hT0 x1 (by omega) (by omega)) (fun r hr => ?_)
    obtain ⟨z, h1, h2, h3, h4, h5⟩ := hr
    exact ⟨z, h1, h2, h3, by omega, by omega, by omega⟩
  · refine ic_imp (sf_J0_indexOf_0f7a4_4_1_65535 L ys d s0 hT0 x1 (by omega) (by omega)) (fun r hr => ?_)
    obtain ⟨z, h1, h2, h3, h4, h5⟩ := hr
    exact ⟨z, h1, h2, h3, by omega, by omega, by omega⟩
theorem sf_readAtom7 (L : Nat) (ys : Nat → Int32) (d : Nat) (s0 : im_S) (hT0 : tI s0) (pr0 : s0.1 2 2 ≤ s0.1 2 1) (pr1 : (s0.1 2 4 ≠ 0 ∨ s0.1 2 3 = 0 ∨ s0.1 2 2 < s0.1 2 1)) : icV gG rm_P L ys (d + 51) 193 [(2, ((2 : Nat) : Int))] s0 (fun s => tI s ∧ fr [(2, 2), (2, 3), (2, 4), (2, 5), (2, 11), (2, 13), (4, 0)] s0 s ∧ s.1 2 2 ≤ s.1 2 1 ∧ (s.1 2 4 ≠ 0 ∨ s.1 2 3 = 0 ∨ s.1 2 2 < s.1 2 1)) := by
  refine ic_startM (M := rm_p_X7_readAtom) om_X7_readAtom (Nat.le_of_ble_eq_true rfl) ?_
  refine ir_w [(0, (2, ((2 : Nat) : Int)))] ⟨rfl, trivial⟩ ?_
  have hF0 := fr_refl [(2, 2), (2, 3), (2, 4), (2, 5), (2, 11), (2, 13), (4, 0)] s0
  have J140 : ∀ (s_140 : im_S) (hT_140 : tI s_140) (hF_140 : fr [(2, 2), (2, 3), (2, 4), (2, 5), (2, 11), (2, 13), (4, 0)] s0 s_140) (w140_2_1 : Int) (w140_2_1l : 0 ≤ w140_2_1) (w140_2_1h : w140_2_1 ≤ 400) (w140_2_1e : s_140.1 2 1 = w140_2_1) (w140_2_2 : Int) (w140_2_2l : 0 ≤ w140_2_2) (w140_2_2h : w140_2_2 ≤ 400) (w140_2_2e : s_140.1 2 2 = w140_2_2) (w140_2_3 : Int) (w140_2_3l : 0 ≤ w140_2_3) (w140_2_3h : w140_2_3 ≤ 65535) (w140_2_3e : s_140.1 2 3 = w140_2_3) (w140_2_4 : Int) (w140_2_4l : 0 ≤ w140_2_4) (w140_2_4h : w140_2_4 ≤ 3) (w140_2_4e : s_140.1 2 4 = w140_2_4) (i140_0 : w140_2_2 ≤ w140_2_1) (i140_1 : (w140_2_4 ≠ 0 ∨ w140_2_3 = 0 ∨ w140_2_2 < w140_2_1)), ir gG rm_P L ys (d + 50) rm_p_X7_readAtom (140, [], [], s_140) (fun r : im_Re => r.1 = none ∧ (tI r.2 ∧ fr [(2, 2), (2, 3), (2, 4), (2, 5), (2, 11), (2, 13), (4, 0)] s0 r.2 ∧ r.2.1 2 2 ≤ r.2.1 2 1 ∧ (r.2.1 2 4 ≠ 0 ∨ r.2.1 2 3 = 0 ∨ r.2.1 2 2 < r.2.1 2 1))) := by
    intro s_140 hT_140 hF_140 w140_2_1 w140_2_1l w140_2_1h w140_2_1e w140_2_2 w140_2_2l w140_2_2h w140_2_2e w140_2_3 w140_2_3l w140_2_3h w140_2_3e w140_2_4 w140_2_4l w140_2_4h w140_2_4e i140_0 i140_1
    exact ir_vret rfl rfl ⟨rfl, hT_140, hF_140, (by first | omega | (dsimp only; omega)), (by first | omega | (dsimp only; omega))⟩
  have J79 : ∀ (q79_l1 : Int) (q79_l1l : -1 ≤ q79_l1) (q79_l1h : q79_l1 ≤ 2) (s_79 : im_S) (hT_79 : tI s_79) (hF_79 : fr [(2, 2), (2, 3), (2, 4), (2, 5), (2, 11), (2, 13), (4, 0)] s0 s_79) (w79_2_1 : Int) (w79_2_1l : 0 ≤ w79_2_1) (w79_2_1h : w79_2_1 ≤ 400) (w79_2_1e : s_79.1 2 1 = w79_2_1) (w79_2_2 : Int) (w79_2_2l : 0 ≤ w79_2_2) (w79_2_2h : w79_2_2 ≤ 400) (w79_2_2e : s_79.1 2 2 = w79_2_2) (w79_2_3 : Int) (w79_2_3l : 0 ≤ w79_2_3) (w79_2_3h : w79_2_3 ≤ 65535) (w79_2_3e : s_79.1 2 3 = w79_2_3) (w79_2_4 : Int) (w79_2_4l : 0 ≤ w79_2_4) (w79_2_4h : w79_2_4 ≤ 3) (w79_2_4e : s_79.1 2 4 = w79_2_4) (i79_0 : w79_2_2 ≤ w79_2_1) (i79_1 : (w79_2_4 ≠ 0 ∨ w79_2_3 = 0 ∨ w79_2_2 < w79_2_1)), ir gG rm_P L ys (d + 50) rm_p_X7_readAtom (79, [(0, (2, ((2 : Nat) : Int))), (1, (0, q79_l1))], [], s_79) (fun r : im_Re => r.1 = none ∧ (tI r.2 ∧ fr [(2, 2), (2, 3), (2, 4), (2, 5), (2, 11), (2, 13), (4, 0)] s0 r.2 ∧ r.2.1 2 2 ≤ r.2.1 2 1 ∧ (r.2.1 2 4 ≠ 0 ∨ r.2.1 2 3 = 0 ∨ r.2.1 2 2 < r.2.1 2 1))) := by
    intro q79_l1 q79_l1l q79_l1h s_79 hT_79 hF_79 w79_2_1 w79_2_1l w79_2_1h w79_2_1e w79_2_2 w79_2_2l w79_2_2h w79_2_2e w79_2_3 w79_2_3l w79_2_3h w79_2_3e w79_2_4 w79_2_4l w79_2_4h w79_2_4e i79_0 i79_1
    refine ir_l (pc' := 80) rfl rfl rfl rfl rfl rfl ?_
    refine ir_getI (pc' := 83) rfl rfl rfl (gG_at tsk_2) rfl (by decide) (by decide) w79_2_4e (by omega) (by omega) ?_
    refine ir_z_ne (pt := 140) (pc' := 86) rfl rfl rfl (fun c1 => ?_) (fun c1 => ?_)
    · refine ir_w [] trivial ?_
      exact J140 s_79 hT_79 hF_79 (w79_2_1) (by omega) (by omega) w79_2_1e (w79_2_2) (by omega) (by omega) w79_2_2e (w79_2_3) (by omega) (by omega) w79_2_3e (w79_2_4) (by omega) (by omega) w79_2_4e (by omega) (by omega)
    · refine ir_l (pc' := 87) rfl rfl rfl rfl rfl rfl ?_
      refine ir_tgi (pc' := 90) rfl rfl rfl tf_2_11 tsk_2 hT_79 (fun z2 z2e z2l z2h => ?_)
      refine ir_k (pc' := 92) (v := (0, 10)) rfl rfl rfl (fun _ => rfl) ?_
      refine ir_c_ge (pt := 140) (pc' := 95) rfl rfl rfl (fun c3 => ?_) (fun c3 => ?_)
      · refine ir_w [] trivial ?_
        exact J140 s_79 hT_79 hF_79 (w79_2_1) (by omega) (by omega) w79_2_1e (w79_2_2) (by omega) (by omega) w79_2_2e (w79_2_3) (by omega) (by omega) w79_2_3e (w79_2_4) (by omega) (by omega) w79_2_4e (by omega) (by omega)
      · refine ir_l (pc' := 96) rfl rfl rfl rfl rfl rfl ?_
        refine ir_tgr (pc' := 99) rfl rfl rfl tf_2_9 tsk_2 hT_79 (fun b4 b4e b4k => ?_)
        obtain rfl := tsg_7 b4k
        refine ir_l (pc' := 100) rfl rfl rfl rfl rfl rfl ?_
        refine ir_getI (pc' := 103) rfl rfl rfl (gG_at tsk_2) rfl (by decide) (by decide) z2e (by omega) (by omega) ?_
        refine ir_taa (pc' := 104) (k2 := 4) rfl rfl te_7 (by decide) tsk_7 hT_79 (by omega) (by omega) (fun b5 b5k => ?_)
        refine ir_l (pc' := 105) rfl rfl rfl rfl rfl rfl ?_
        refine ir_k (pc' := 106) (v := (0, 0)) rfl rfl rfl (fun _ => rfl) ?_
        refine ir_cVR (pc' := 109) rfl rfl rfl rfl rfl (Nat.le_of_ble_eq_true rfl) oo_X7_slot (gG_at tsk_2) (sf_slot7 L ys (d + 48) s_79 hT_79 (0) (by omega) (by omega) ) (fun b6 s7 hr => ?_)
        obtain ⟨hT7, hG7, b6k⟩ := hr
        have hF7 := fr_trans hF_79 hG7 (by decide)
        have e8 : s7.1 2 1 = w79_2_1 := (hG7.1 _ _ tsk_2 1 (by decide)).trans w79_2_1e
        have e9 : s7.1 2 2 = w79_2_2 := (hG7.1 _ _ tsk_2 2 (by decide)).trans w79_2_2e
        have e10 : s7.1 2 3 = w79_2_3 := (hG7.1 _ _ tsk_2 3 (by decide)).trans w79_2_3e
        have e11 : s7.1 2 4 = w79_2_4 := (hG7.1 _ _ tsk_2 4 (by decide)).trans w79_2_4e
        have e12 : s7.1 2 11 = z2 := (hG7.1 _ _ tsk_2 11 (by decide)).trans z2e
        have e13 : s7.1 2 9 = ((60 : Nat) : Int) := (hG7.1 _ _ tsk_2 9 (by decide)).trans b4e
        refine ir_cVV (pc' := 112) rfl rfl rfl rfl rfl (Nat.le_of_ble_eq_true rfl) oo_X6_copy (gG_at b5k) (sf_copy6 L ys (d + 49) s7 hT7 b5 b5k b6 b6k ) (fun s15 hr => ?_)
        obtain ⟨hT15, hG15⟩ := hr
        have hF15 := fr_trans hF7 hG15 (by decide)
        have e16 : s15.1 2 1 = w79_2_1 := (hG15.1 _ _ tsk_2 1 (by decide)).trans e8
        have e17 : s15.1 2 2 = w79_2_2 := (hG15.1 _ _ tsk_2 2 (by decide)).trans e9
        have e18 : s15.1 2 3 = w79_2_3 := (hG15.1 _ _ tsk_2 3 (by decide)).trans e10
        have e19 : s15.1 2 4 = w79_2_4 := (hG15.1 _ _ tsk_2 4 (by decide)).trans e11
        have e20 : s15.1 2 11 = z2 := (hG15.1 _ _ tsk_2 11 (by decide)).trans e12
        have e21 : s15.1 2 9 = ((60 : Nat) : Int) := (hG15.1 _ _ tsk_2 9 (by decide)).trans e13
        refine ir_l (pc' := 113) rfl rfl rfl rfl rfl rfl ?_
        refine ir_tgr (pc' := 116) rfl rfl rfl tf_2_10 tsk_2 hT15 (fun b22 b22e b22k => ?_)
        obtain rfl := tsg_8 b22k
        refine ir_l (pc' := 117) rfl rfl rfl rfl rfl rfl ?_
        refine ir_getI (pc' := 120) rfl rfl rfl (gG_at tsk_2) rfl (by decide) (by decide) e20 (by omega) (by omega) ?_
        refine ir_l (pc' := 121) rfl rfl rfl rfl rfl rfl ?_
        refine ir_tis (pc' := 122) rfl rfl rfl rfl te_8 tsk_8 hT15 (by omega) (by omega) (rfl) (by omega) (by omega) (fun s23 hT23 r23 o23 => ?_)
        have hF23 := fr_row hF15 r23 o23
        have e24 : s23.1 2 1 = w79_2_1 := by rw [r23]; exact e16
        have e25 : s23.1 2 2 = w79_2_2 := by rw [r23]; exact e17
        have e26 : s23.1 2 3 = w79_2_3 := by rw [r23]; exact e18
        have e27 : s23.1 2 4 = w79_2_4 := by rw [r23]; exact e19
        have e28 : s23.1 2 11 = z2 := by rw [r23]; exact e20
        have e29 : s23.1 2 9 = ((60 : Nat) : Int) := by rw [r23]; exact e21
        have e30 : s23.1 2 10 = ((81 : Nat) : Int) := by rw [r23]; exact b22e
        refine ir_l (pc' := 123) rfl rfl rfl rfl rfl rfl ?_
        refine ir_l (pc' := 124) rfl rfl rfl rfl rfl rfl ?_
        refine ir_getI (pc' := 127) rfl rfl rfl (gG_at tsk_2) rfl (by decide) (by decide) e28 (by omega) (by omega) ?_
        refine ir_cVV (pc' := 130) rfl rfl rfl rfl rfl (Nat.le_of_ble_eq_true rfl) oo_X7_emit (gG_at tsk_2) (sf_emit7 L ys (d + 49) s23 hT23 (z2) (by omega) (by omega) ) (fun s32 hr => ?_)
        obtain ⟨hT32, hG32⟩ := hr
        have hF32 := fr_trans hF23 hG32 (by decide)
        have e33 : s32.1 2 1 = w79_2_1 := (hG32.1 _ _ tsk_2 1 (by decide)).trans e24
        have e34 : s32.1 2 2 = w79_2_2 := (hG32.1 _ _ tsk_2 2 (by decide)).trans e25
        have e35 : s32.1 2 3 = w79_2_3 := (hG32.1 _ _ tsk_2 3 (by decide)).trans e26
        have e36 : s32.1 2 4 = w79_2_4 := (hG32.1 _ _ tsk_2 4 (by decide)).trans e27
        have e37 : s32.1 2 11 = z2 := (hG32.1 _ _ tsk_2 11 (by decide)).trans e28
        have e38 : s32.1 2 9 = ((60 : Nat) : Int) := (hG32.1 _ _ tsk_2 9 (by decide)).trans e29
        have e39 : s32.1 2 10 = ((81 : Nat) : Int) := (hG32.1 _ _ tsk_2 10 (by decide)).trans e30
        refine ir_l (pc' := 131) rfl rfl rfl rfl rfl rfl ?_
        refine ir_x (pc' := 132) rfl rfl rfl (fun _ => rfl) ?_
        refine ir_getI (pc' := 135) rfl rfl rfl (gG_at tsk_2) rfl (by decide) (by decide) e37 (by omega) (by omega) ?_
        refine ir_k (pc' := 136) (v := (0, 1)) rfl rfl rfl (fun _ => rfl) ?_
        refine ir_add (pc' := 137) rfl rfl (by omega) (by omega) ?_
        refine ir_tpi (pc' := 140) rfl rfl rfl tf_2_11 rfl tsk_2 hT32 rfl (by omega) (by omega) (fun s40 hT40 e40 g40 r40 => ?_)
        have hF40 := fr_put (k := 2) hF32 (by decide) tsk_2 g40 r40
        have e41 : s40.1 2 1 = w79_2_1 := (g40 2 1 (fun z => absurd z.2 (by decide))).trans e33
        have e42 : s40.1 2 2 = w79_2_2 := (g40 2 2 (fun z => absurd z.2 (by decide))).trans e34
        have e43 : s40.1 2 3 = w79_2_3 := (g40 2 3 (fun z => absurd z.2 (by decide))).trans e35
        have e44 : s40.1 2 4 = w79_2_4 := (g40 2 4 (fun z => absurd z.2 (by decide))).trans e36
        have e45 : s40.1 2 9 = ((60 : Nat) : Int) := (g40 2 9 (fun z => absurd z.2 (by decide))).trans e38
        have e46 : s40.1 2 10 = ((81 : Nat) : Int) := (g40 2 10 (fun z => absurd z.2 (by decide))).trans e39
        refine ir_w [] trivial ?_
        exact J140 s40 hT40 hF40 (w79_2_1) (by omega) (by omega) e41 (w79_2_2) (by omega) (by omega) e42 (w79_2_3) (by omega) (by omega) e43 (w79_2_4) (by omega) (by omega) e44 (by omega) (by omega)
  obtain ⟨z47, z47e, z47l, z47h⟩ := tI_i tf_2_1 tsk_2 hT0
  obtain ⟨z48, z48e, z48l, z48h⟩ := tI_i tf_2_2 tsk_2 hT0
  obtain ⟨z49, z49e, z49l, z49h⟩ := tI_i tf_2_3 tsk_2 hT0
  obtain ⟨z50, z50e, z50l, z50h⟩ := tI_i tf_2_4 tsk_2 hT0
  refine ir_l (pc' := 1) rfl rfl rfl rfl rfl rfl ?_
  refine ir_k (pc' := 2) (v := (0, 0)) rfl rfl rfl (fun _ => rfl) ?_
  refine ir_k (pc' := 3) (v := (0, 0)) rfl rfl rfl (fun _ => rfl) ?_
  refine ir_cVV (pc' := 6) rfl rfl rfl rfl rfl (Nat.le_of_ble_eq_true rfl) oo_X7_readSum (gG_at tsk_2) (sf_readSum7_d0 L ys d s0 hT0 (0) (by omega) (by omega) (0) (by omega) (by omega) (by omega) (by omega)) (fun s52 hr => ?_)
  obtain ⟨hT52, hG52, p52_0, p52_1⟩ := hr
  have hF52 := fr_trans hF0 hG52 (by decide)
  have e53 : s52.1 2 1 = z47 := (hG52.1 _ _ tsk_2 1 (by decide)).trans z47e
  obtain ⟨z54, z54e, z54l, z54h⟩ := tI_i tf_2_2 tsk_2 hT52
  obtain ⟨z55, z55e, z55l, z55h⟩ := tI_i tf_2_3 tsk_2 hT52
  obtain ⟨z56, z56e, z56l, z56h⟩ := tI_i tf_2_4 tsk_2 hT52
  refine ir_k (pc' := 8) (v := (4, 4)) rfl rfl rfl (fun _ => rfl) ?_
  refine ir_l (pc' := 9) rfl rfl rfl rfl rfl rfl ?_
  refine ir_getI (pc' := 12) rfl rfl rfl (gG_at tsk_2) rfl (by decide) (by decide) z55e (by omega) (by omega) ?_
  refine ir_i2cE (pc' := 13) rfl rfl (by omega) (by omega) ?_
  refine ir_cFI (pc' := 16) rfl rfl rfl rfl rfl (Nat.le_of_ble_eq_true rfl) (by decide) (sf_idx4 L ys (d + 46) s52 hT52 (z55) (by omega) (by omega) ) (fun z57 s58 hr => ?_)
  obtain ⟨hT58, hG58, z57l, z57h, p58_0⟩ := hr
  have hF58 := fr_trans hF52 hG58 (by decide)
  have e59 : s58.1 2 1 = z47 := (hG58.1 _ _ tsk_2 1 (by decide)).trans e53
  have e60 : s58.1 2 2 = z54 := (hG58.1 _ _ tsk_2 2 (by decide)).trans z54e
  have e61 : s58.1 2 3 = z55 := (hG58.1 _ _ tsk_2 3 (by decide)).trans z55e
  have e62 : s58.1 2 4 = z56 := (hG58.1 _ _ tsk_2 4 (by decide)).trans z56e
  refine ir_s (pc' := 17) rfl rfl rfl rfl rfl rfl ?_
  refine ir_l (pc' := 18) rfl rfl rfl rfl rfl rfl ?_
  refine ir_getI (pc' := 21) rfl rfl rfl (gG_at tsk_2) rfl (by decide) (by decide) e60 (by omega) (by omega) ?_
  refine ir_s (pc' := 22) rfl rfl rfl rfl rfl rfl ?_
  refine ir_l (pc' := 23) rfl rfl rfl rfl rfl rfl ?_
  refine ir_z_ge (pt := 35) (pc' := 26) rfl rfl rfl (fun c63 => ?_) (fun c63 => ?_)
  · refine ir_l (pc' := 36) rfl rfl rfl rfl rfl rfl ?_
    refine ir_tgi (pc' := 39) rfl rfl rfl tf_2_11 tsk_2 hT58 (fun z64 z64e z64l z64h => ?_)
    refine ir_k (pc' := 41) (v := (0, 10)) rfl rfl rfl (fun _ => rfl) ?_
    refine ir_c_lt (pt := 53) (pc' := 44) rfl rfl rfl (fun c65 => ?_) (fun c65 => ?_)
    · refine ir_l (pc' := 54) rfl rfl rfl rfl rfl rfl ?_
      refine ir_cVV (pc' := 57) rfl rfl rfl rfl rfl (Nat.le_of_ble_eq_true rfl) oo_X7_step (gG_at tsk_2) (sf_step7 L ys (d + 44) s58 hT58  (by omega) (by omega) (by omega)) (fun s67 hr => ?_)
      obtain ⟨hT67, hG67, p67_0, p67_1⟩ := hr
      have hF67 := fr_trans hF58 hG67 (by decide)
      have e68 : s67.1 2 1 = z47 := (hG67.1 _ _ tsk_2 1 (by decide)).trans e59
      have e69 : s67.1 2 11 = z64 := (hG67.1 _ _ tsk_2 11 (by decide)).trans z64e
      obtain ⟨z70, z70e, z70l, z70h⟩ := tI_i tf_2_2 tsk_2 hT67
      obtain ⟨z71, z71e, z71l, z71h⟩ := tI_i tf_2_3 tsk_2 hT67
      obtain ⟨z72, z72e, z72l, z72h⟩ := tI_i tf_2_4 tsk_2 hT67
      refine ir_l (pc' := 58) rfl rfl rfl rfl rfl rfl ?_
      refine ir_k (pc' := 59) (v := (0, 1)) rfl rfl rfl (fun _ => rfl) ?_
      refine ir_k (pc' := 60) (v := (0, 0)) rfl rfl rfl (fun _ => rfl) ?_
      refine ir_cVV (pc' := 63) rfl rfl rfl rfl rfl (Nat.le_of_ble_eq_true rfl) oo_X7_readSum (gG_at tsk_2) (sf_readSum7_d0 L ys d s67 hT67 (1) (by omega) (by omega) (0) (by omega) (by omega) (by omega) (by omega)) (fun s74 hr => ?_)
      obtain ⟨hT74, hG74, p74_0, p74_1⟩ := hr
      have hF74 := fr_trans hF67 hG74 (by decide)
      have e75 : s74.1 2 1 = z47 := (hG74.1 _ _ tsk_2 1 (by decide)).trans e68
      have e76 : s74.1 2 11 = z64 := (hG74.1 _ _ tsk_2 11 (by decide)).trans e69
      obtain ⟨z77, z77e, z77l, z77h⟩ := tI_i tf_2_2 tsk_2 hT74
      obtain ⟨z78, z78e, z78l, z78h⟩ := tI_i tf_2_3 tsk_2 hT74
      obtain ⟨z79, z79e, z79l, z79h⟩ := tI_i tf_2_4 tsk_2 hT74
      refine ir_l (pc' := 64) rfl rfl rfl rfl rfl rfl ?_
      refine ir_l (pc' := 65) rfl rfl rfl rfl rfl rfl ?_
      refine ir_k (pc' := 66) (v := (0, 0)) rfl rfl rfl (fun _ => rfl) ?_
      refine ir_cVR (pc' := 69) rfl rfl rfl rfl rfl (Nat.le_of_ble_eq_true rfl) oo_X7_slot (gG_at tsk_2) (sf_slot7 L ys (d + 48) s74 hT74 (0) (by omega) (by omega) ) (fun b80 s81 hr => ?_)
      obtain ⟨hT81, hG81, b80k⟩ := hr
      have hF81 := fr_trans hF74 hG81 (by decide)
      have e82 : s81.1 2 1 = z47 := (hG81.1 _ _ tsk_2 1 (by decide)).trans e75
      have e83 : s81.1 2 11 = z64 := (hG81.1 _ _ tsk_2 11 (by decide)).trans e76
      have e84 : s81.1 2 2 = z77 := (hG81.1 _ _ tsk_2 2 (by decide)).trans z77e
      have e85 : s81.1 2 3 = z78 := (hG81.1 _ _ tsk_2 3 (by decide)).trans z78e
      have e86 : s81.1 2 4 = z79 := (hG81.1 _ _ tsk_2 4 (by decide)).trans z79e
      refine ir_l (pc' := 70) rfl rfl rfl rfl rfl rfl ?_
      refine ir_k (pc' := 71) (v := (0, 1)) rfl rfl rfl (fun _ => rfl) ?_
      refine ir_cVR (pc' := 74) rfl rfl rfl rfl rfl (Nat.le_of_ble_eq_true rfl) oo_X7_slot (gG_at tsk_2) (sf_slot7 L ys (d + 48) s81 hT81 (1) (by omega) (by omega) ) (fun b87 s88 hr => ?_)
      obtain ⟨hT88, hG88, b87k⟩ := hr
      have hF88 := fr_trans hF81 hG88 (by decide)
      have e89 : s88.1 2 1 = z47 := (hG88.1 _ _ tsk_2 1 (by decide)).trans e82
      have e90 : s88.1 2 11 = z64 := (hG88.1 _ _ tsk_2 11 (by decide)).trans e83
      have e91 : s88.1 2 2 = z77 := (hG88.1 _ _ tsk_2 2 (by decide)).trans e84
      have e92 : s88.1 2 3 = z78 := (hG88.1 _ _ tsk_2 3 (by decide)).trans e85
      have e93 : s88.1 2 4 = z79 := (hG88.1 _ _ tsk_2 4 (by decide)).trans e86
      refine ir_k (pc' := 75) (v := (0, (-1))) rfl rfl rfl (fun _ => rfl) ?_
      refine ir_l (pc' := 76) rfl rfl rfl rfl rfl rfl ?_
      refine ir_cVV (pc' := 79) rfl rfl rfl rfl rfl (Nat.le_of_ble_eq_true rfl) oo_X7_addTo (gG_at tsk_2) (sf_addTo7 L ys (d + 47) s88 hT88 b80 b80k b87 b87k ((-1)) (by omega) (by omega) (z54) (by omega) (by omega) (by omega) (by omega)) (fun s95 hr => ?_)
      obtain ⟨hT95, hG95, p95_0, p95_1⟩ := hr
      have hF95 := fr_trans hF88 hG95 (by decide)
      have e96 : s95.1 2 1 = z47 := (hG95.1 _ _ tsk_2 1 (by decide)).trans e89
      have e97 : s95.1 2 11 = z64 := (hG95.1 _ _ tsk_2 11 (by decide)).trans e90
      have e98 : s95.1 2 2 = z77 := (hG95.1 _ _ tsk_2 2 (by decide)).trans e91
      obtain ⟨z99, z99e, z99l, z99h⟩ := tI_i tf_2_3 tsk_2 hT95
      obtain ⟨z100, z100e, z100l, z100h⟩ := tI_i tf_2_4 tsk_2 hT95
      refine ir_w [(0, (2, ((2 : Nat) : Int))), (1, (0, z57))] ⟨rfl, rfl, trivial⟩ ?_
      exact J79 (z57) (by omega) (by omega) s95 hT95 hF95 (z47) (by omega) (by omega) e96 (z77) (by omega) (by omega) e98 (z99) (by omega) (by omega) z99e (z100) (by omega) (by omega) z100e (by omega) (by omega)
    · refine ir_l (pc' := 45) rfl rfl rfl rfl rfl rfl ?_
      refine ir_k (pc' := 46) (v := (0, 3)) rfl rfl rfl (fun _ => rfl) ?_
      refine ir_l (pc' := 47) rfl rfl rfl rfl rfl rfl ?_
      refine ir_cVV (pc' := 50) rfl rfl rfl rfl rfl (Nat.le_of_ble_eq_true rfl) oo_X7_fail (gG_at tsk_2) (sf_fail7 L ys (d + 49) s58 hT58 (3) (by omega) (by omega) (z54) (by omega) (by omega) ) (fun s102 hr => ?_)
      obtain ⟨hT102, hG102, p102_0⟩ := hr
      have hF102 := fr_trans hF58 hG102 (by decide)
      have e103 : s102.1 2 1 = z47 := (hG102.1 _ _ tsk_2 1 (by decide)).trans e59
      have e104 : s102.1 2 2 = z54 := (hG102.1 _ _ tsk_2 2 (by decide)).trans e60
      have e105 : s102.1 2 11 = z64 := (hG102.1 _ _ tsk_2 11 (by decide)).trans z64e
      obtain ⟨z106, z106e, z106l, z106h⟩ := tI_i tf_2_3 tsk_2 hT102
      obtain ⟨z107, z107e, z107l, z107h⟩ := tI_i tf_2_4 tsk_2 hT102
      refine ir_goto (pc' := 79) rfl rfl ?_
      refine ir_w [(0, (2, ((2 : Nat) : Int))), (1, (0, z57))] ⟨rfl, rfl, trivial⟩ ?_
      exact J79 (z57) (by omega) (by omega) s102 hT102 hF102 (z47) (by omega) (by omega) e103 (z54) (by omega) (by omega) e104 (z106) (by omega) (by omega) z106e (z107) (by omega) (by omega) z107e (by omega) (by omega)
  · refine ir_l (pc' := 27) rfl rfl rfl rfl rfl rfl ?_
    refine ir_k (pc' := 28) (v := (0, 2)) rfl rfl rfl (fun _ => rfl) ?_
    refine ir_l (pc' := 29) rfl rfl rfl rfl rfl rfl ?_
    refine ir_cVV (pc' := 32) rfl rfl rfl rfl rfl (Nat.le_of_ble_eq_true rfl) oo_X7_fail (gG_at tsk_2) (sf_fail7 L ys (d + 49) s58 hT58 (2) (by omega) (by omega) (z54) (by omega) (by omega) ) (fun s109 hr => ?_)
    obtain ⟨hT109, hG109, p109_0⟩ := hr
    have hF109 := fr_trans hF58 hG109 (by decide)
    have e110 : s109.1 2 1 = z47 := (hG109.1 _ _ tsk_2 1 (by decide)).trans e59
    have e111 : s109.1 2 2 = z54 := (hG109.1 _ _ tsk_2 2 (by decide)).trans e60
    obtain ⟨z112, z112e, z112l, z112h⟩ := tI_i tf_2_3 tsk_2 hT109
    obtain ⟨z113, z113e, z113l, z113h⟩ := tI_i tf_2_4 tsk_2 hT109
    refine ir_goto (pc' := 79) rfl rfl ?_
    refine ir_w [(0, (2, ((2 : Nat) : Int))), (1, (0, z57))] ⟨rfl, rfl, trivial⟩ ?_
    exact J79 (z57) (by omega) (by omega) s109 hT109 hF109 (z47) (by omega) (by omega) e110 (z54) (by omega) (by omega) e111 (z112) (by omega) (by omega) z112e (z113) (by omega) (by omega) z113e (by omega) (by omega)
