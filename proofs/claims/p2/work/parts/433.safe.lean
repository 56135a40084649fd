/-! WALKS OF THE CLASS'S METHODS, by program -/
theorem sf_isSign9 (L : Nat) (ys : Nat → Int32) (d : Nat) (s0 : im_S) (hT0 : tI s0) (x0 : Int) (x0l : -2147483648 ≤ x0) (x0h : x0 ≤ 2147483647) : icI gG rm_P L ys 0 (d + 1) 218 [(0, x0)] s0 (fun z s => tI s ∧ fr [] s0 s ∧ 0 ≤ z ∧ z ≤ 1) := by
  refine ic_startM (M := rm_p_X9_isSign) om_X9_isSign (Nat.le_of_ble_eq_true rfl) ?_
  refine ir_w [(0, (0, x0))] ⟨rfl, trivial⟩ ?_
  have hF0 := fr_refl [] s0
  have J17 : ∀ (q17_s0 : Int) (q17_s0l : 0 ≤ q17_s0) (q17_s0h : q17_s0 ≤ 1) (s_17 : im_S) (hT_17 : tI s_17) (hF_17 : fr [] s0 s_17), ir gG rm_P L ys d rm_p_X9_isSign (17, [], [(0, q17_s0)], s_17) (fun r : im_Re => ∃ z, r.1 = some (0, z) ∧ (tI r.2 ∧ fr [] s0 r.2 ∧ 0 ≤ z ∧ z ≤ 1)) := by
    intro q17_s0 q17_s0l q17_s0h s_17 hT_17 hF_17
    exact ir_zret rfl rfl (by omega) ⟨_, rfl, hT_17, hF_17, by omega, by omega⟩
  have J16 : ∀ (s_16 : im_S) (hT_16 : tI s_16) (hF_16 : fr [] s0 s_16), ir gG rm_P L ys d rm_p_X9_isSign (16, [], [], s_16) (fun r : im_Re => ∃ z, r.1 = some (0, z) ∧ (tI r.2 ∧ fr [] s0 r.2 ∧ 0 ≤ z ∧ z ≤ 1)) := by
    intro s_16 hT_16 hF_16
    refine ir_k (pc' := 17) (v := (0, 0)) rfl rfl rfl (fun _ => rfl) ?_
    refine ir_w [] trivial ?_
    exact J17 (0) (by omega) (by omega) s_16 hT_16 hF_16
  refine ir_l (pc' := 1) rfl rfl rfl rfl rfl rfl ?_
  refine ir_k (pc' := 3) (v := (0, 32)) rfl rfl rfl (fun _ => rfl) ?_
  refine ir_c_lt (pt := 16) (pc' := 6) rfl rfl rfl (fun c1 => ?_) (fun c1 => ?_)
  · refine ir_w [] trivial ?_
    exact J16 s0 hT0 hF0
  · refine ir_l (pc' := 7) rfl rfl rfl rfl rfl rfl ?_
    refine ir_k (pc' := 9) (v := (0, 126)) rfl rfl rfl (fun _ => rfl) ?_
    refine ir_c_gt (pt := 16) (pc' := 12) rfl rfl rfl (fun c2 => ?_) (fun c2 => ?_)
    · refine ir_w [] trivial ?_
      exact J16 s0 hT0 hF0
    · refine ir_k (pc' := 13) (v := (0, 1)) rfl rfl rfl (fun _ => rfl) ?_
      refine ir_goto (pc' := 17) rfl rfl ?_
      refine ir_w [] trivial ?_
      exact J17 (1) (by omega) (by omega) s0 hT0 hF0
theorem sf_four9 (L : Nat) (ys : Nat → Int32) (d : Nat) (s0 : im_S) (hT0 : tI s0) (x1 : Int) (x1l : -2147483648 ≤ x1) (x1h : x1 ≤ 2147483647) : icI gG rm_P L ys 0 (d + 2) 211 [(2, ((0 : Nat) : Int)), (0, x1)] s0 (fun z s => tI s ∧ fr [(0, 0)] s0 s ∧ -1 ≤ z ∧ z ≤ 400) := by
  refine ic_startM (M := rm_p_X9_four) om_X9_four (Nat.le_of_ble_eq_true rfl) ?_
  refine ir_w [(0, (2, ((0 : Nat) : Int))), (1, (0, x1))] ⟨rfl, rfl, trivial⟩ ?_
  have hF0 := fr_refl [(0, 0)] s0
  have J69 : ∀ n : Nat, ∀ (q69_l3 : Int) (q69_l3l : -30 ≤ q69_l3) (q69_l3h : q69_l3 ≤ 24) (s_69 : im_S) (hT_69 : tI s_69) (hF_69 : fr [(0, 0)] s0 s_69) (w69_0_0 : Int) (w69_0_0l : 0 ≤ w69_0_0) (w69_0_0h : w69_0_0 ≤ 400) (w69_0_0e : s_69.1 0 0 = w69_0_0), (q69_l3 - -30 + 1) ≤ (n : Int) → ir gG rm_P L ys (d + 1) rm_p_X9_four (69, [(0, (2, ((0 : Nat) : Int))), (1, (0, x1)), (3, (0, q69_l3))], [], s_69) (fun r : im_Re => ∃ z, r.1 = some (0, z) ∧ (tI r.2 ∧ fr [(0, 0)] s0 r.2 ∧ -1 ≤ z ∧ z ≤ 400)) := by
    intro n
    induction n with
    | zero => intro q69_l3 q69_l3l q69_l3h s_69 hT_69 hF_69 w69_0_0 w69_0_0l w69_0_0h w69_0_0e hr; exfalso; omega
    | succ n ih69 =>
      intro q69_l3 q69_l3l q69_l3h s_69 hT_69 hF_69 w69_0_0 w69_0_0l w69_0_0h w69_0_0e hr
      have J122 : ∀ (f122_3l : 0 ≤ q69_l3) (s_122 : im_S) (hT_122 : tI s_122) (hF_122 : fr [(0, 0)] s0 s_122) (w122_0_0 : Int) (w122_0_0l : 0 ≤ w122_0_0) (w122_0_0h : w122_0_0 ≤ 400) (w122_0_0e : s_122.1 0 0 = w122_0_0), ir gG rm_P L ys (d + 1) rm_p_X9_four (122, [(0, (2, ((0 : Nat) : Int))), (1, (0, x1)), (3, (0, q69_l3))], [], s_122) (fun r : im_Re => ∃ z, r.1 = some (0, z) ∧ (tI r.2 ∧ fr [(0, 0)] s0 r.2 ∧ -1 ≤ z ∧ z ≤ 400)) := by
        intro f122_3l s_122 hT_122 hF_122 w122_0_0 w122_0_0l w122_0_0h w122_0_0e
        refine ir_inc (pc' := 125) rfl rfl rfl rfl rfl (by omega) (by omega) ?_
        refine ir_goto (pc' := 69) rfl rfl ?_
        refine ir_w [(0, (2, ((0 : Nat) : Int))), (1, (0, x1)), (3, (0, (q69_l3 + (-8))))] ⟨rfl, rfl, rfl, trivial⟩ ?_
        exact ih69 ((q69_l3 + (-8))) (by omega) (by omega) s_122 hT_122 hF_122 (w122_0_0) (by omega) (by omega) w122_0_0e (by omega)
      refine ir_l (pc' := 70) rfl rfl rfl rfl rfl rfl ?_
      refine ir_z_lt (pt := 128) (pc' := 73) rfl rfl rfl (fun c1 => ?_) (fun c1 => ?_)
      · refine ir_l (pc' := 129) rfl rfl rfl rfl rfl rfl ?_
        refine ir_getI (pc' := 132) rfl rfl rfl (gG_at tsk_0) rfl (by decide) (by decide) w69_0_0e (by omega) (by omega) ?_
        exact ir_iret rfl rfl ⟨_, rfl, hT_69, hF_69, by omega, by omega⟩
      · refine ir_l (pc' := 74) rfl rfl rfl rfl rfl rfl ?_
        refine ir_l (pc' := 75) rfl rfl rfl rfl rfl rfl ?_
        refine ir_iiA (pc' := 76) rfl rfl rfl rfl (fun z2 z2l z2h => ?_)
        refine ir_k (pc' := 79) (v := (0, 255)) rfl rfl rfl (fun _ => rfl) ?_
        refine ir_andm (pc' := 80) rfl rfl (by decide) (by decide) (fun z3 z3l z3h => ?_)
        refine ir_s (pc' := 82) rfl rfl rfl rfl rfl rfl ?_
        refine ir_l (pc' := 84) rfl rfl rfl rfl rfl rfl ?_
        refine ir_z_eq (pt := 122) (pc' := 87) rfl rfl rfl (fun c4 => ?_) (fun c4 => ?_)
        · refine ir_w [(0, (2, ((0 : Nat) : Int))), (1, (0, x1)), (3, (0, q69_l3))] ⟨rfl, rfl, rfl, trivial⟩ ?_
          exact J122 (by omega) s_69 hT_69 hF_69 (w69_0_0) (by omega) (by omega) w69_0_0e
        · refine ir_l (pc' := 88) rfl rfl rfl rfl rfl rfl ?_
          refine ir_getI (pc' := 91) rfl rfl rfl (gG_at tsk_0) rfl (by decide) (by decide) w69_0_0e (by omega) (by omega) ?_
          refine ir_k (pc' := 94) (v := (0, 400)) rfl rfl rfl (fun _ => rfl) ?_
          refine ir_c_ge (pt := 122) (pc' := 97) rfl rfl rfl (fun c5 => ?_) (fun c5 => ?_)
          · refine ir_w [(0, (2, ((0 : Nat) : Int))), (1, (0, x1)), (3, (0, q69_l3))] ⟨rfl, rfl, rfl, trivial⟩ ?_
            exact J122 (by omega) s_69 hT_69 hF_69 (w69_0_0) (by omega) (by omega) w69_0_0e
          · refine ir_l (pc' := 98) rfl rfl rfl rfl rfl rfl ?_
            refine ir_tgr (pc' := 101) rfl rfl rfl tf_0_5 tsk_0 hT_69 (fun b6 b6e b6k => ?_)
            obtain rfl := tsg_2 b6k
            refine ir_tgr (pc' := 104) rfl rfl rfl tf_2_0 tsk_2 hT_69 (fun b7 b7e b7k => ?_)
            obtain rfl := tsg_3 b7k
            refine ir_l (pc' := 105) rfl rfl rfl rfl rfl rfl ?_
            refine ir_getI (pc' := 108) rfl rfl rfl (gG_at tsk_0) rfl (by decide) (by decide) w69_0_0e (by omega) (by omega) ?_
            refine ir_l (pc' := 110) rfl rfl rfl rfl rfl rfl ?_
            refine ir_i2cE (pc' := 111) rfl rfl (by omega) (by omega) ?_
            refine ir_tis (pc' := 112) rfl rfl rfl rfl te_3 tsk_3 hT_69 (by omega) (by omega) (im_fit_of (lo := 0) (hi := 65535) (by decide) (by omega) (by omega)) (by omega) (by omega) (fun s8 hT8 r8 o8 => ?_)
            have hF8 := fr_row hF_69 r8 o8
            have e9 : s8.1 0 0 = w69_0_0 := by rw [r8]; exact w69_0_0e
            have e10 : s8.1 0 5 = ((2 : Nat) : Int) := by rw [r8]; exact b6e
            have e11 : s8.1 2 0 = ((3 : Nat) : Int) := by rw [r8]; exact b7e
            refine ir_l (pc' := 113) rfl rfl rfl rfl rfl rfl ?_
            refine ir_x (pc' := 114) rfl rfl rfl (fun _ => rfl) ?_
            refine ir_getI (pc' := 117) rfl rfl rfl (gG_at tsk_0) rfl (by decide) (by decide) e9 (by omega) (by omega) ?_
            refine ir_k (pc' := 118) (v := (0, 1)) rfl rfl rfl (fun _ => rfl) ?_
            refine ir_add (pc' := 119) rfl rfl (by omega) (by omega) ?_
            refine ir_tpi (pc' := 122) rfl rfl rfl tf_0_0 rfl tsk_0 hT8 rfl (by omega) (by omega) (fun s12 hT12 e12 g12 r12 => ?_)
            have hF12 := fr_put (k := 0) hF8 (by decide) tsk_0 g12 r12
            have e13 : s12.1 0 5 = ((2 : Nat) : Int) := (g12 0 5 (fun z => absurd z.2 (by decide))).trans e10
            have e14 : s12.1 2 0 = ((3 : Nat) : Int) := (g12 2 0 (fun z => absurd z.1 (by decide))).trans e11
            refine ir_w [(0, (2, ((0 : Nat) : Int))), (1, (0, x1)), (3, (0, q69_l3))] ⟨rfl, rfl, rfl, trivial⟩ ?_
            exact J122 (by omega) s12 hT12 hF12 ((w69_0_0 + 1)) (by omega) (by omega) e12
  have J5 : ∀ n : Nat, ∀ (q5_l2 : Int) (q5_l2l : -2147483648 ≤ q5_l2) (q5_l2h : q5_l2 ≤ 2147483647) (q5_l3 : Int) (q5_l3l : -30 ≤ q5_l3) (q5_l3h : q5_l3 ≤ 24) (s_5 : im_S) (hT_5 : tI s_5) (hF_5 : fr [(0, 0)] s0 s_5), (q5_l3 - -30 + 1) ≤ (n : Int) → ir gG rm_P L ys (d + 1) rm_p_X9_four (5, [(0, (2, ((0 : Nat) : Int))), (1, (0, x1)), (2, (0, q5_l2)), (3, (0, q5_l3))], [], s_5) (fun r : im_Re => ∃ z, r.1 = some (0, z) ∧ (tI r.2 ∧ fr [(0, 0)] s0 r.2 ∧ -1 ≤ z ∧ z ≤ 400)) := by
    intro n
    induction n with
    | zero => intro q5_l2 q5_l2l q5_l2h q5_l3 q5_l3l q5_l3h s_5 hT_5 hF_5 hr; exfalso; omega
    | succ n ih5 =>
      intro q5_l2 q5_l2l q5_l2h q5_l3 q5_l3l q5_l3h s_5 hT_5 hF_5 hr
      have J44 : ∀ (q44_s0 : Int) (q44_s0l : -2147483648 ≤ q44_s0) (q44_s0h : q44_s0 ≤ 2147483647) (q44_s1 : Int) (q44_s1l : 0 ≤ q44_s1) (q44_s1h : q44_s1 ≤ 1) (f44_3l : 0 ≤ q5_l3) (s_44 : im_S) (hT_44 : tI s_44) (hF_44 : fr [(0, 0)] s0 s_44), ir gG rm_P L ys (d + 1) rm_p_X9_four (44, [(0, (2, ((0 : Nat) : Int))), (1, (0, x1)), (3, (0, q5_l3))], [(0, q44_s1), (0, q44_s0)], s_44) (fun r : im_Re => ∃ z, r.1 = some (0, z) ∧ (tI r.2 ∧ fr [(0, 0)] s0 r.2 ∧ -1 ≤ z ∧ z ≤ 400)) := by
        intro q44_s0 q44_s0l q44_s0h q44_s1 q44_s1l q44_s1h f44_3l s_44 hT_44 hF_44
        refine ir_iiA (pc' := 45) rfl rfl rfl rfl (fun z15 z15l z15h => ?_)
        refine ir_s (pc' := 46) rfl rfl rfl rfl rfl rfl ?_
        refine ir_inc (pc' := 49) rfl rfl rfl rfl rfl (by omega) (by omega) ?_
        refine ir_goto (pc' := 5) rfl rfl ?_
        refine ir_w [(0, (2, ((0 : Nat) : Int))), (1, (0, x1)), (2, (0, z15)), (3, (0, (q5_l3 + (-8))))] ⟨rfl, rfl, rfl, rfl, trivial⟩ ?_
        exact ih5 (z15) (by omega) (by omega) ((q5_l3 + (-8))) (by omega) (by omega) s_44 hT_44 hF_44 (by omega)
      have J33 : ∀ (q33_l4 : Int) (q33_l4l : 0 ≤ q33_l4) (q33_l4h : q33_l4 ≤ 255) (f33_3l : 0 ≤ q5_l3) (s_33 : im_S) (hT_33 : tI s_33) (hF_33 : fr [(0, 0)] s0 s_33), ir gG rm_P L ys (d + 1) rm_p_X9_four (33, [(0, (2, ((0 : Nat) : Int))), (1, (0, x1)), (2, (0, q5_l2)), (3, (0, q5_l3)), (4, (0, q33_l4))], [], s_33) (fun r : im_Re => ∃ z, r.1 = some (0, z) ∧ (tI r.2 ∧ fr [(0, 0)] s0 r.2 ∧ -1 ≤ z ∧ z ≤ 400)) := by
        intro q33_l4 q33_l4l q33_l4h f33_3l s_33 hT_33 hF_33
        refine ir_l (pc' := 34) rfl rfl rfl rfl rfl rfl ?_
        refine ir_l (pc' := 36) rfl rfl rfl rfl rfl rfl ?_
        refine ir_z_eq (pt := 43) (pc' := 39) rfl rfl rfl (fun c16 => ?_) (fun c16 => ?_)
        · refine ir_k (pc' := 44) (v := (0, 0)) rfl rfl rfl (fun _ => rfl) ?_
          refine ir_w [(0, (2, ((0 : Nat) : Int))), (1, (0, x1)), (3, (0, q5_l3))] ⟨rfl, rfl, rfl, trivial⟩ ?_
          exact J44 (q5_l2) (by omega) (by omega) (0) (by omega) (by omega) (by omega) s_33 hT_33 hF_33
        · refine ir_k (pc' := 40) (v := (0, 1)) rfl rfl rfl (fun _ => rfl) ?_
          refine ir_goto (pc' := 44) rfl rfl ?_
          refine ir_w [(0, (2, ((0 : Nat) : Int))), (1, (0, x1)), (3, (0, q5_l3))] ⟨rfl, rfl, rfl, trivial⟩ ?_
          exact J44 (q5_l2) (by omega) (by omega) (1) (by omega) (by omega) (by omega) s_33 hT_33 hF_33
      refine ir_l (pc' := 6) rfl rfl rfl rfl rfl rfl ?_
      refine ir_z_lt (pt := 52) (pc' := 9) rfl rfl rfl (fun c17 => ?_) (fun c17 => ?_)
      · refine ir_l (pc' := 53) rfl rfl rfl rfl rfl rfl ?_
        refine ir_tgi (pc' := 56) rfl rfl rfl tf_0_0 tsk_0 hT_5 (fun z18 z18e z18l z18h => ?_)
        refine ir_l (pc' := 57) rfl rfl rfl rfl rfl rfl ?_
        refine ir_iiA (pc' := 58) rfl rfl rfl rfl (fun z19 z19l z19h => ?_)
        refine ir_k (pc' := 61) (v := (0, 400)) rfl rfl rfl (fun _ => rfl) ?_
        refine ir_c_le (pt := 66) (pc' := 64) rfl rfl rfl (fun c20 => ?_) (fun c20 => ?_)
        · refine ir_k (pc' := 68) (v := (0, 24)) rfl rfl rfl (fun _ => rfl) ?_
          refine ir_s (pc' := 69) rfl rfl rfl rfl rfl rfl ?_
          refine ir_w [(0, (2, ((0 : Nat) : Int))), (1, (0, x1)), (3, (0, 24))] ⟨rfl, rfl, rfl, trivial⟩ ?_
          exact J69 _ (24) (by omega) (by omega) s_5 hT_5 hF_5 (z18) (by omega) (by omega) z18e (Int.self_le_toNat _)
        · refine ir_k (pc' := 65) (v := (0, (-1))) rfl rfl rfl (fun _ => rfl) ?_
          exact ir_iret rfl rfl ⟨_, rfl, hT_5, hF_5, by omega, by omega⟩
      · refine ir_l (pc' := 10) rfl rfl rfl rfl rfl rfl ?_
        refine ir_l (pc' := 11) rfl rfl rfl rfl rfl rfl ?_
        refine ir_iiA (pc' := 12) rfl rfl rfl rfl (fun z21 z21l z21h => ?_)
        refine ir_k (pc' := 15) (v := (0, 255)) rfl rfl rfl (fun _ => rfl) ?_
        refine ir_andm (pc' := 16) rfl rfl (by decide) (by decide) (fun z22 z22l z22h => ?_)
        refine ir_s (pc' := 18) rfl rfl rfl rfl rfl rfl ?_
        refine ir_l (pc' := 20) rfl rfl rfl rfl rfl rfl ?_
        refine ir_z_eq (pt := 33) (pc' := 23) rfl rfl rfl (fun c23 => ?_) (fun c23 => ?_)
        · refine ir_w [(0, (2, ((0 : Nat) : Int))), (1, (0, x1)), (2, (0, q5_l2)), (3, (0, q5_l3)), (4, (0, z22))] ⟨rfl, rfl, rfl, rfl, rfl, trivial⟩ ?_
          exact J33 (z22) (by omega) (by omega) (by omega) s_5 hT_5 hF_5
        · refine ir_l (pc' := 25) rfl rfl rfl rfl rfl rfl ?_
          refine ir_cSI (pc' := 28) rfl rfl rfl rfl rfl rfl (Nat.le_of_ble_eq_true rfl) (sf_isSign9 L ys d s_5 hT_5 (z22) (by omega) (by omega) ) (fun z24 s25 hr => ?_)
          obtain ⟨hT25, hG25, z24l, z24h⟩ := hr
          have hF25 := fr_trans hF_5 hG25 (by decide)
          refine ir_z_ne (pt := 33) (pc' := 31) rfl rfl rfl (fun c26 => ?_) (fun c26 => ?_)
          · refine ir_w [(0, (2, ((0 : Nat) : Int))), (1, (0, x1)), (2, (0, q5_l2)), (3, (0, q5_l3)), (4, (0, z22))] ⟨rfl, rfl, rfl, rfl, rfl, trivial⟩ ?_
            exact J33 (z22) (by omega) (by omega) (by omega) s25 hT25 hF25
          · refine ir_k (pc' := 32) (v := (0, (-1))) rfl rfl rfl (fun _ => rfl) ?_
            exact ir_iret rfl rfl ⟨_, rfl, hT25, hF25, by omega, by omega⟩
  refine ir_k (pc' := 1) (v := (0, 0)) rfl rfl rfl (fun _ => rfl) ?_
  refine ir_s (pc' := 2) rfl rfl rfl rfl rfl rfl ?_
  refine ir_k (pc' := 4) (v := (0, 24)) rfl rfl rfl (fun _ => rfl) ?_
  refine ir_s (pc' := 5) rfl rfl rfl rfl rfl rfl ?_
  refine ir_w [(0, (2, ((0 : Nat) : Int))), (1, (0, x1)), (2, (0, 0)), (3, (0, 24))] ⟨rfl, rfl, rfl, rfl, trivial⟩ ?_
  exact J5 _ (0) (by omega) (by omega) (24) (by omega) (by omega) s0 hT0 hF0 (Int.self_le_toNat _)
theorem sf_isCell9 (L : Nat) (ys : Nat → Int32) (d : Nat) (s0 : im_S) (hT0 : tI s0) (x1 : Int) (x1l : -2147483648 ≤ x1) (x1h : x1 ≤ 2147483647) : icI gG rm_P L ys 0 (d + 1) 215 [(2, ((0 : Nat) : Int)), (0, x1)] s0 (fun z s => tI s ∧ fr [] s0 s ∧ 0 ≤ z ∧ z ≤ 1 ∧ (z = 0 ∨ (0 ≤ x1 ∧ x1 ≤ 160))) := by
  refine ic_startM (M := rm_p_X9_isCell) om_X9_isCell (Nat.le_of_ble_eq_true rfl) ?_
  refine ir_w [(0, (2, ((0 : Nat) : Int))), (1, (0, x1))] ⟨rfl, rfl, trivial⟩ ?_
  have hF0 := fr_refl [] s0
  have J29 : ∀ (q29_s0 : Int) (q29_s0l : 0 ≤ q29_s0) (q29_s0h : q29_s0 ≤ 1) (s_29 : im_S) (hT_29 : tI s_29) (hF_29 : fr [] s0 s_29) (w29_0_3 : Int) (w29_0_3l : 0 ≤ w29_0_3) (w29_0_3h : w29_0_3 ≤ 1) (w29_0_3e : s_29.1 0 3 = w29_0_3), ir gG rm_P L ys d rm_p_X9_isCell (29, [], [(0, q29_s0)], s_29) (fun r : im_Re => ∃ z, r.1 = some (0, z) ∧ (tI r.2 ∧ fr [] s0 r.2 ∧ 0 ≤ z ∧ z ≤ 1 ∧ (z = 0 ∨ (0 ≤ x1 ∧ x1 ≤ 160)))) := by
    intro q29_s0 q29_s0l q29_s0h s_29 hT_29 hF_29 w29_0_3 w29_0_3l w29_0_3h w29_0_3e
    exact ir_zret rfl rfl (by omega) ⟨_, rfl, hT_29, hF_29, by omega, by omega, (by first | omega | (dsimp only; omega))⟩
  have J28 : ∀ (s_28 : im_S) (hT_28 : tI s_28) (hF_28 : fr [] s0 s_28) (w28_0_3 : Int) (w28_0_3l : 0 ≤ w28_0_3) (w28_0_3h : w28_0_3 ≤ 1) (w28_0_3e : s_28.1 0 3 = w28_0_3), ir gG rm_P L ys d rm_p_X9_isCell (28, [], [], s_28) (fun r : im_Re => ∃ z, r.1 = some (0, z) ∧ (tI r.2 ∧ fr [] s0 r.2 ∧ 0 ≤ z ∧ z ≤ 1 ∧ (z = 0 ∨ (0 ≤ x1 ∧ x1 ≤ 160)))) := by
    intro s_28 hT_28 hF_28 w28_0_3 w28_0_3l w28_0_3h w28_0_3e
    refine ir_k (pc' := 29) (v := (0, 0)) rfl rfl rfl (fun _ => rfl) ?_
    refine ir_w [] trivial ?_
    exact J29 (0) (by omega) (by omega) s_28 hT_28 hF_28 (w28_0_3) (by omega) (by omega) w28_0_3e
  refine ir_l (pc' := 1) rfl rfl rfl rfl rfl rfl ?_
  refine ir_tgi (pc' := 4) rfl rfl rfl tf_0_3 tsk_0 hT0 (fun z1 z1e z1l z1h => ?_)
  refine ir_z_eq (pt := 28) (pc' := 7) rfl rfl rfl (fun c2 => ?_) (fun c2 => ?_)
  · refine ir_w [] trivial ?_
    exact J28 s0 hT0 hF0 (z1) (by omega) (by omega) z1e
  · refine ir_l (pc' := 8) rfl rfl rfl rfl rfl rfl ?_
    refine ir_z_lt (pt := 28) (pc' := 11) rfl rfl rfl (fun c3 => ?_) (fun c3 => ?_)
    · refine ir_w [] trivial ?_
      exact J28 s0 hT0 hF0 (z1) (by omega) (by omega) z1e
    · refine ir_l (pc' := 12) rfl rfl rfl rfl rfl rfl ?_
      refine ir_k (pc' := 13) (v := (0, 2)) rfl rfl rfl (fun _ => rfl) ?_
      refine ir_l (pc' := 14) rfl rfl rfl rfl rfl rfl ?_
      refine ir_tgr (pc' := 17) rfl rfl rfl tf_0_4 tsk_0 hT0 (fun b4 b4e b4k => ?_)
      obtain rfl := tsg_1 b4k
      refine ir_tgi (pc' := 20) rfl rfl rfl tf_1_4 tsk_1 hT0 (fun z5 z5e z5l z5h => ?_)
      refine ir_mul (pc' := 21) rfl rfl (by omega) (by omega) ?_
      refine ir_c_gt (pt := 28) (pc' := 24) rfl rfl rfl (fun c6 => ?_) (fun c6 => ?_)
      · refine ir_w [] trivial ?_
        exact J28 s0 hT0 hF0 (z1) (by omega) (by omega) z1e
      · refine ir_k (pc' := 25) (v := (0, 1)) rfl rfl rfl (fun _ => rfl) ?_
        refine ir_goto (pc' := 29) rfl rfl ?_
        refine ir_w [] trivial ?_
        exact J29 (1) (by omega) (by omega) s0 hT0 hF0 (z1) (by omega) (by omega) z1e
theorem sf_holds9 (L : Nat) (ys : Nat → Int32) (d : Nat) (s0 : im_S) (hT0 : tI s0) (x1 : Int) (x1l : -2147483648 ≤ x1) (x1h : x1 ≤ 2147483647) : icI gG rm_P L ys 0 (d + 2) 212 [(2, ((0 : Nat) : Int)), (0, x1)] s0 (fun z s => tI s ∧ fr [] s0 s ∧ -1 ≤ z ∧ z ≤ 1) := by
  refine ic_startM (M := rm_p_X9_holds) om_X9_holds (Nat.le_of_ble_eq_true rfl) ?_
  refine ir_w [(0, (2, ((0 : Nat) : Int))), (1, (0, x1))] ⟨rfl, rfl, trivial⟩ ?_
  have hF0 := fr_refl [] s0
  have J27 : ∀ (q27_s0 : Int) (q27_s0l : 0 ≤ q27_s0) (q27_s0h : q27_s0 ≤ 1) (s_27 : im_S) (hT_27 : tI s_27) (hF_27 : fr [] s0 s_27) (w27_0_4e : s_27.1 0 4 = ((1 : Nat) : Int)) (w27_1_6e : s_27.1 1 6 = ((579 : Nat) : Int)), ir gG rm_P L ys (d + 1) rm_p_X9_holds (27, [], [(0, q27_s0)], s_27) (fun r : im_Re => ∃ z, r.1 = some (0, z) ∧ (tI r.2 ∧ fr [] s0 r.2 ∧ -1 ≤ z ∧ z ≤ 1)) := by
    intro q27_s0 q27_s0l q27_s0h s_27 hT_27 hF_27 w27_0_4e w27_1_6e
    exact ir_iret rfl rfl ⟨_, rfl, hT_27, hF_27, by omega, by omega⟩
  refine ir_l (pc' := 1) rfl rfl rfl rfl rfl rfl ?_
  refine ir_l (pc' := 2) rfl rfl rfl rfl rfl rfl ?_
  refine ir_cVI (pc' := 5) rfl rfl rfl rfl rfl (Nat.le_of_ble_eq_true rfl) oo_X9_isCell (gG_at tsk_0) (sf_isCell9 L ys d s0 hT0 (x1) (by omega) (by omega) ) (fun z1 s2 hr => ?_)
  obtain ⟨hT2, hG2, z1l, z1h, p2_0⟩ := hr
  have hF2 := fr_trans hF0 hG2 (by decide)
  refine ir_z_ne (pt := 10) (pc' := 8) rfl rfl rfl (fun c3 => ?_) (fun c3 => ?_)
  · refine ir_l (pc' := 11) rfl rfl rfl rfl rfl rfl ?_
    refine ir_tgr (pc' := 14) rfl rfl rfl tf_0_4 tsk_0 hT2 (fun b4 b4e b4k => ?_)
    obtain rfl := tsg_1 b4k
    refine ir_tgr (pc' := 17) rfl rfl rfl tf_1_6 tsk_1 hT2 (fun b5 b5e b5k => ?_)
    obtain rfl := tsg_29 b5k
    refine ir_l (pc' := 18) rfl rfl rfl rfl rfl rfl ?_
    refine ir_tba (pc' := 19) rfl rfl te_29 (by decide) (by decide) tsk_29 hT2 (by omega) (by omega) (fun z6 z6e z6l z6h => ?_)
    clear z6e
    refine ir_z_eq (pt := 26) (pc' := 22) rfl rfl rfl (fun c7 => ?_) (fun c7 => ?_)
    · refine ir_k (pc' := 27) (v := (0, 0)) rfl rfl rfl (fun _ => rfl) ?_
      refine ir_w [] trivial ?_
      exact J27 (0) (by omega) (by omega) s2 hT2 hF2 b4e b5e
    · refine ir_k (pc' := 23) (v := (0, 1)) rfl rfl rfl (fun _ => rfl) ?_
      refine ir_goto (pc' := 27) rfl rfl ?_
      refine ir_w [] trivial ?_
      exact J27 (1) (by omega) (by omega) s2 hT2 hF2 b4e b5e
  · refine ir_k (pc' := 9) (v := (0, (-1))) rfl rfl rfl (fun _ => rfl) ?_
    exact ir_iret rfl rfl ⟨_, rfl, hT2, hF2, by omega, by omega⟩
theorem sf_judge9 (L : Nat) (ys : Nat → Int32) (d : Nat) (s0 : im_S) (hT0 : tI s0) (x1 : Int) (x1l : -2147483648 ≤ x1) (x1h : x1 ≤ 2147483647) : icI gG rm_P L ys 0 (d + 1) 219 [(2, ((0 : Nat) : Int)), (0, x1)] s0 (fun z s => tI s ∧ fr [] s0 s ∧ -2147483648 ≤ z ∧ z ≤ 2147483647) := by
  refine ic_startM (M := rm_p_X9_judge) om_X9_judge (Nat.le_of_ble_eq_true rfl) ?_
  refine ir_w [(0, (2, ((0 : Nat) : Int))), (1, (0, x1))] ⟨rfl, rfl, trivial⟩ ?_
  have hF0 := fr_refl [] s0
  have J221 : ∀ (q221_s0 : Int) (q221_s0l : 0 ≤ q221_s0) (q221_s0h : q221_s0 ≤ 1) (s_221 : im_S) (hT_221 : tI s_221) (hF_221 : fr [] s0 s_221) (w221_0_3 : Int) (w221_0_3l : 1 ≤ w221_0_3) (w221_0_3h : w221_0_3 ≤ 1) (w221_0_3e : s_221.1 0 3 = w221_0_3) (w221_0_4e : s_221.1 0 4 = ((1 : Nat) : Int)) (w221_1_4 : Int) (w221_1_4l : 0 ≤ w221_1_4) (w221_1_4h : w221_1_4 ≤ 80) (w221_1_4e : s_221.1 1 4 = w221_1_4) (w221_1_9 : Int) (w221_1_9l : -2147483648 ≤ w221_1_9) (w221_1_9h : w221_1_9 ≤ 2147483647) (w221_1_9e : s_221.1 1 9 = w221_1_9), ir gG rm_P L ys d rm_p_X9_judge (221, [], [(0, q221_s0)], s_221) (fun r : im_Re => ∃ z, r.1 = some (0, z) ∧ (tI r.2 ∧ fr [] s0 r.2 ∧ -2147483648 ≤ z ∧ z ≤ 2147483647)) := by
    intro q221_s0 q221_s0l q221_s0h s_221 hT_221 hF_221 w221_0_3 w221_0_3l w221_0_3h w221_0_3e w221_0_4e w221_1_4 w221_1_4l w221_1_4h w221_1_4e w221_1_9 w221_1_9l w221_1_9h w221_1_9e
    exact ir_iret rfl rfl ⟨_, rfl, hT_221, hF_221, by omega, by omega⟩
  have J204 : ∀ (q204_s0 : Int) (q204_s0l : 0 ≤ q204_s0) (q204_s0h : q204_s0 ≤ 1) (s_204 : im_S) (hT_204 : tI s_204) (hF_204 : fr [] s0 s_204) (w204_0_3 : Int) (w204_0_3l : 1 ≤ w204_0_3) (w204_0_3h : w204_0_3 ≤ 1) (w204_0_3e : s_204.1 0 3 = w204_0_3) (w204_0_4e : s_204.1 0 4 = ((1 : Nat) : Int)) (w204_1_4 : Int) (w204_1_4l : 0 ≤ w204_1_4) (w204_1_4h : w204_1_4 ≤ 80) (w204_1_4e : s_204.1 1 4 = w204_1_4) (w204_1_8 : Int) (w204_1_8l : -2147483648 ≤ w204_1_8) (w204_1_8h : w204_1_8 ≤ 2147483647) (w204_1_8e : s_204.1 1 8 = w204_1_8), ir gG rm_P L ys d rm_p_X9_judge (204, [], [(0, q204_s0)], s_204) (fun r : im_Re => ∃ z, r.1 = some (0, z) ∧ (tI r.2 ∧ fr [] s0 r.2 ∧ -2147483648 ≤ z ∧ z ≤ 2147483647)) := by
    intro q204_s0 q204_s0l q204_s0h s_204 hT_204 hF_204 w204_0_3 w204_0_3l w204_0_3h w204_0_3e w204_0_4e w204_1_4 w204_1_4l w204_1_4h w204_1_4e w204_1_8 w204_1_8l w204_1_8h w204_1_8e
    exact ir_iret rfl rfl ⟨_, rfl, hT_204, hF_204, by omega, by omega⟩
  have J188 : ∀ (q188_s0 : Int) (q188_s0l : 0 ≤ q188_s0) (q188_s0h : q188_s0 ≤ 1) (s_188 : im_S) (hT_188 : tI s_188) (hF_188 : fr [] s0 s_188) (w188_0_3 : Int) (w188_0_3l : 1 ≤ w188_0_3) (w188_0_3h : w188_0_3 ≤ 1) (w188_0_3e : s_188.1 0 3 = w188_0_3) (w188_0_4e : s_188.1 0 4 = ((1 : Nat) : Int)) (w188_1_4 : Int) (w188_1_4l : 0 ≤ w188_1_4) (w188_1_4h : w188_1_4 ≤ 80) (w188_1_4e : s_188.1 1 4 = w188_1_4) (w188_1_9 : Int) (w188_1_9l : -2147483648 ≤ w188_1_9) (w188_1_9h : w188_1_9 ≤ 2147483647) (w188_1_9e : s_188.1 1 9 = w188_1_9), ir gG rm_P L ys d rm_p_X9_judge (188, [], [(0, q188_s0)], s_188) (fun r : im_Re => ∃ z, r.1 = some (0, z) ∧ (tI r.2 ∧ fr [] s0 r.2 ∧ -2147483648 ≤ z ∧ z ≤ 2147483647)) := by
    intro q188_s0 q188_s0l q188_s0h s_188 hT_188 hF_188 w188_0_3 w188_0_3l w188_0_3h w188_0_3e w188_0_4e w188_1_4 w188_1_4l w188_1_4h w188_1_4e w188_1_9 w188_1_9l w188_1_9h w188_1_9e
    exact ir_iret rfl rfl ⟨_, rfl, hT_188, hF_188, by omega, by omega⟩
  have J187 : ∀ (s_187 : im_S) (hT_187 : tI s_187) (hF_187 : fr [] s0 s_187) (w187_0_3 : Int) (w187_0_3l : 1 ≤ w187_0_3) (w187_0_3h : w187_0_3 ≤ 1) (w187_0_3e : s_187.1 0 3 = w187_0_3) (w187_0_4e : s_187.1 0 4 = ((1 : Nat) : Int)) (w187_1_4 : Int) (w187_1_4l : 0 ≤ w187_1_4) (w187_1_4h : w187_1_4 ≤ 80) (w187_1_4e : s_187.1 1 4 = w187_1_4) (w187_1_9 : Int) (w187_1_9l : -2147483648 ≤ w187_1_9) (w187_1_9h : w187_1_9 ≤ 2147483647) (w187_1_9e : s_187.1 1 9 = w187_1_9), ir gG rm_P L ys d rm_p_X9_judge (187, [], [], s_187) (fun r : im_Re => ∃ z, r.1 = some (0, z) ∧ (tI r.2 ∧ fr [] s0 r.2 ∧ -2147483648 ≤ z ∧ z ≤ 2147483647)) := by
    intro s_187 hT_187 hF_187 w187_0_3 w187_0_3l w187_0_3h w187_0_3e w187_0_4e w187_1_4 w187_1_4l w187_1_4h w187_1_4e w187_1_9 w187_1_9l w187_1_9h w187_1_9e
    refine ir_k (pc' := 188) (v := (0, 0)) rfl rfl rfl (fun _ => rfl) ?_
    refine ir_w [] trivial ?_
    exact J188 (0) (by omega) (by omega) s_187 hT_187 hF_187 (w187_0_3) (by omega) (by omega) w187_0_3e w187_0_4e (w187_1_4) (by omega) (by omega) w187_1_4e (w187_1_9) (by omega) (by omega) w187_1_9e
  have J159 : ∀ (q159_s0 : Int) (q159_s0l : 0 ≤ q159_s0) (q159_s0h : q159_s0 ≤ 1) (s_159 : im_S) (hT_159 : tI s_159) (hF_159 : fr [] s0 s_159) (w159_0_3 : Int) (w159_0_3l : 1 ≤ w159_0_3) (w159_0_3h : w159_0_3 ≤ 1) (w159_0_3e : s_159.1 0 3 = w159_0_3) (w159_0_4e : s_159.1 0 4 = ((1 : Nat) : Int)) (w159_1_4 : Int) (w159_1_4l : 0 ≤ w159_1_4) (w159_1_4h : w159_1_4 ≤ 80) (w159_1_4e : s_159.1 1 4 = w159_1_4) (w159_1_8 : Int) (w159_1_8l : -2147483648 ≤ w159_1_8) (w159_1_8h : w159_1_8 ≤ 2147483647) (w159_1_8e : s_159.1 1 8 = w159_1_8), ir gG rm_P L ys d rm_p_X9_judge (159, [], [(0, q159_s0)], s_159) (fun r : im_Re => ∃ z, r.1 = some (0, z) ∧ (tI r.2 ∧ fr [] s0 r.2 ∧ -2147483648 ≤ z ∧ z ≤ 2147483647)) := by
    intro q159_s0 q159_s0l q159_s0h s_159 hT_159 hF_159 w159_0_3 w159_0_3l w159_0_3h w159_0_3e w159_0_4e w159_1_4 w159_1_4l w159_1_4h w159_1_4e w159_1_8 w159_1_8l w159_1_8h w159_1_8e
    exact ir_iret rfl rfl ⟨_, rfl, hT_159, hF_159, by omega, by omega⟩
  have J158 : ∀ (s_158 : im_S) (hT_158 : tI s_158) (hF_158 : fr [] s0 s_158) (w158_0_3 : Int) (w158_0_3l : 1 ≤ w158_0_3) (w158_0_3h : w158_0_3 ≤ 1) (w158_0_3e : s_158.1 0 3 = w158_0_3) (w158_0_4e : s_158.1 0 4 = ((1 : Nat) : Int)) (w158_1_4 : Int) (w158_1_4l : 0 ≤ w158_1_4) (w158_1_4h : w158_1_4 ≤ 80) (w158_1_4e : s_158.1 1 4 = w158_1_4) (w158_1_8 : Int) (w158_1_8l : -2147483648 ≤ w158_1_8) (w158_1_8h : w158_1_8 ≤ 2147483647) (w158_1_8e : s_158.1 1 8 = w158_1_8), ir gG rm_P L ys d rm_p_X9_judge (158, [], [], s_158) (fun r : im_Re => ∃ z, r.1 = some (0, z) ∧ (tI r.2 ∧ fr [] s0 r.2 ∧ -2147483648 ≤ z ∧ z ≤ 2147483647)) := by
    intro s_158 hT_158 hF_158 w158_0_3 w158_0_3l w158_0_3h w158_0_3e w158_0_4e w158_1_4 w158_1_4l w158_1_4h w158_1_4e w158_1_8 w158_1_8l w158_1_8h w158_1_8e
    refine ir_k (pc' := 159) (v := (0, 0)) rfl rfl rfl (fun _ => rfl) ?_
    refine ir_w [] trivial ?_
    exact J159 (0) (by omega) (by omega) s_158 hT_158 hF_158 (w158_0_3) (by omega) (by omega) w158_0_3e w158_0_4e (w158_1_4) (by omega) (by omega) w158_1_4e (w158_1_8) (by omega) (by omega) w158_1_8e
  have J106 : ∀ (q106_s0 : Int) (q106_s0l : 0 ≤ q106_s0) (q106_s0h : q106_s0 ≤ 1) (s_106 : im_S) (hT_106 : tI s_106) (hF_106 : fr [] s0 s_106) (w106_0_3 : Int) (w106_0_3l : 1 ≤ w106_0_3) (w106_0_3h : w106_0_3 ≤ 1) (w106_0_3e : s_106.1 0 3 = w106_0_3) (w106_0_4e : s_106.1 0 4 = ((1 : Nat) : Int)) (w106_1_4 : Int) (w106_1_4l : 0 ≤ w106_1_4) (w106_1_4h : w106_1_4 ≤ 80) (w106_1_4e : s_106.1 1 4 = w106_1_4) (w106_1_7 : Int) (w106_1_7l : -2147483648 ≤ w106_1_7) (w106_1_7h : w106_1_7 ≤ 2147483647) (w106_1_7e : s_106.1 1 7 = w106_1_7), ir gG rm_P L ys d rm_p_X9_judge (106, [], [(0, q106_s0)], s_106) (fun r : im_Re => ∃ z, r.1 = some (0, z) ∧ (tI r.2 ∧ fr [] s0 r.2 ∧ -2147483648 ≤ z ∧ z ≤ 2147483647)) := by
    intro q106_s0 q106_s0l q106_s0h s_106 hT_106 hF_106 w106_0_3 w106_0_3l w106_0_3h w106_0_3e w106_0_4e w106_1_4 w106_1_4l w106_1_4h w106_1_4e w106_1_7 w106_1_7l w106_1_7h w106_1_7e
    exact ir_iret rfl rfl ⟨_, rfl, hT_106, hF_106, by omega, by omega⟩
  have J87 : ∀ (q87_s0 : Int) (q87_s0l : 0 ≤ q87_s0) (q87_s0h : q87_s0 ≤ 1) (s_87 : im_S) (hT_87 : tI s_87) (hF_87 : fr [] s0 s_87) (w87_0_3 : Int) (w87_0_3l : 1 ≤ w87_0_3) (w87_0_3h : w87_0_3 ≤ 1) (w87_0_3e : s_87.1 0 3 = w87_0_3) (w87_0_4e : s_87.1 0 4 = ((1 : Nat) : Int)) (w87_1_4 : Int) (w87_1_4l : 0 ≤ w87_1_4) (w87_1_4h : w87_1_4 ≤ 80) (w87_1_4e : s_87.1 1 4 = w87_1_4) (w87_1_7 : Int) (w87_1_7l : -2147483648 ≤ w87_1_7) (w87_1_7h : w87_1_7 ≤ 2147483647) (w87_1_7e : s_87.1 1 7 = w87_1_7), ir gG rm_P L ys d rm_p_X9_judge (87, [], [(0, q87_s0)], s_87) (fun r : im_Re => ∃ z, r.1 = some (0, z) ∧ (tI r.2 ∧ fr [] s0 r.2 ∧ -2147483648 ≤ z ∧ z ≤ 2147483647)) := by
    intro q87_s0 q87_s0l q87_s0h s_87 hT_87 hF_87 w87_0_3 w87_0_3l w87_0_3h w87_0_3e w87_0_4e w87_1_4 w87_1_4l w87_1_4h w87_1_4e w87_1_7 w87_1_7l w87_1_7h w87_1_7e
    exact ir_iret rfl rfl ⟨_, rfl, hT_87, hF_87, by omega, by omega⟩
  refine ir_l (pc' := 1) rfl rfl rfl rfl rfl rfl ?_
  refine ir_tgi (pc' := 4) rfl rfl rfl tf_0_3 tsk_0 hT0 (fun z1 z1e z1l z1h => ?_)
  refine ir_z_ne (pt := 9) (pc' := 7) rfl rfl rfl (fun c2 => ?_) (fun c2 => ?_)
  · refine ir_k (pc' := 10) (v := (0, 2)) rfl rfl rfl (fun _ => rfl) ?_
    refine ir_l (pc' := 11) rfl rfl rfl rfl rfl rfl ?_
    refine ir_tgr (pc' := 14) rfl rfl rfl tf_0_4 tsk_0 hT0 (fun b3 b3e b3k => ?_)
    obtain rfl := tsg_1 b3k
    refine ir_tgi (pc' := 17) rfl rfl rfl tf_1_4 tsk_1 hT0 (fun z4 z4e z4l z4h => ?_)
    refine ir_mul (pc' := 18) rfl rfl (by omega) (by omega) ?_
    refine ir_s (pc' := 19) rfl rfl rfl rfl rfl rfl ?_
    refine ir_l (pc' := 20) rfl rfl rfl rfl rfl rfl ?_
    rcases (by omega : (x1 < 0 ∨ 8 < x1) ∨ x1 = 0 ∨ x1 = 1 ∨ x1 = 2 ∨ x1 = 3 ∨ x1 = 4 ∨ x1 = 5 ∨ x1 = 6 ∨ x1 = 7 ∨ x1 = 8) with c5 | c5 | c5 | c5 | c5 | c5 | c5 | c5 | c5 | c5
    · refine ir_tabD (pc' := 222) rfl c5 rfl ?_
      refine ir_k (pc' := 223) (v := (0, (-1))) rfl rfl rfl (fun _ => rfl) ?_
      exact ir_iret rfl rfl ⟨_, rfl, hT0, hF0, by omega, by omega⟩
    · refine ir_tab (pc' := 72) 0 rfl (by omega) (by decide) rfl rfl ?_
      refine ir_l (pc' := 73) rfl rfl rfl rfl rfl rfl ?_
      refine ir_getR (pc' := 76) rfl rfl rfl (gG_at tsk_0) rfl b3e ?_
      refine ir_tgi (pc' := 79) rfl rfl rfl tf_1_7 tsk_1 hT0 (fun z6 z6e z6l z6h => ?_)
      refine ir_z_le (pt := 86) (pc' := 82) rfl rfl rfl (fun c7 => ?_) (fun c7 => ?_)
      · refine ir_k (pc' := 87) (v := (0, 0)) rfl rfl rfl (fun _ => rfl) ?_
        refine ir_w [] trivial ?_
        exact J87 (0) (by omega) (by omega) s0 hT0 hF0 (z1) (by omega) (by omega) z1e b3e (z4) (by omega) (by omega) z4e (z6) (by omega) (by omega) z6e
      · refine ir_k (pc' := 83) (v := (0, 1)) rfl rfl rfl (fun _ => rfl) ?_
        refine ir_goto (pc' := 87) rfl rfl ?_
        refine ir_w [] trivial ?_
        exact J87 (1) (by omega) (by omega) s0 hT0 hF0 (z1) (by omega) (by omega) z1e b3e (z4) (by omega) (by omega) z4e (z6) (by omega) (by omega) z6e
    · refine ir_tab (pc' := 88) 1 rfl (by omega) (by decide) rfl rfl ?_
      refine ir_l (pc' := 89) rfl rfl rfl rfl rfl rfl ?_
      refine ir_getR (pc' := 92) rfl rfl rfl (gG_at tsk_0) rfl b3e ?_
      refine ir_tgi (pc' := 95) rfl rfl rfl tf_1_7 tsk_1 hT0 (fun z8 z8e z8l z8h => ?_)
      refine ir_l (pc' := 96) rfl rfl rfl rfl rfl rfl ?_
      refine ir_k (pc' := 97) (v := (0, 1)) rfl rfl rfl (fun _ => rfl) ?_
      refine ir_add (pc' := 98) rfl rfl (by omega) (by omega) ?_
      refine ir_c_ne (pt := 105) (pc' := 101) rfl rfl rfl (fun c9 => ?_) (fun c9 => ?_)
      · refine ir_k (pc' := 106) (v := (0, 0)) rfl rfl rfl (fun _ => rfl) ?_
        refine ir_w [] trivial ?_
        exact J106 (0) (by omega) (by omega) s0 hT0 hF0 (z1) (by omega) (by omega) z1e b3e (z4) (by omega) (by omega) z4e (z8) (by omega) (by omega) z8e
      · refine ir_k (pc' := 102) (v := (0, 1)) rfl rfl rfl (fun _ => rfl) ?_
        refine ir_goto (pc' := 106) rfl rfl ?_
        refine ir_w [] trivial ?_
        exact J106 (1) (by omega) (by omega) s0 hT0 hF0 (z1) (by omega) (by omega) z1e b3e (z4) (by omega) (by omega) z4e (z8) (by omega) (by omega) z8e
    · refine ir_tab (pc' := 107) 2 rfl (by omega) (by decide) rfl rfl ?_
      refine ir_l (pc' := 108) rfl rfl rfl rfl rfl rfl ?_
      refine ir_getR (pc' := 111) rfl rfl rfl (gG_at tsk_0) rfl b3e ?_
      refine ir_tgi (pc' := 114) rfl rfl rfl tf_1_8 tsk_1 hT0 (fun z10 z10e z10l z10h => ?_)
      exact ir_iret rfl rfl ⟨_, rfl, hT0, hF0, by omega, by omega⟩
    · refine ir_tab (pc' := 115) 3 rfl (by omega) (by decide) rfl rfl ?_
      refine ir_l (pc' := 116) rfl rfl rfl rfl rfl rfl ?_
      refine ir_getR (pc' := 119) rfl rfl rfl (gG_at tsk_0) rfl b3e ?_
      refine ir_tgi (pc' := 122) rfl rfl rfl tf_1_9 tsk_1 hT0 (fun z11 z11e z11l z11h => ?_)
      exact ir_iret rfl rfl ⟨_, rfl, hT0, hF0, by omega, by omega⟩
    · refine ir_tab (pc' := 123) 4 rfl (by omega) (by decide) rfl rfl ?_
      refine ir_l (pc' := 124) rfl rfl rfl rfl rfl rfl ?_
      refine ir_getR (pc' := 127) rfl rfl rfl (gG_at tsk_0) rfl b3e ?_
      refine ir_tgi (pc' := 130) rfl rfl rfl tf_1_10 tsk_1 hT0 (fun z12 z12e z12l z12h => ?_)
      exact ir_iret rfl rfl ⟨_, rfl, hT0, hF0, by omega, by omega⟩
    · refine ir_tab (pc' := 131) 5 rfl (by omega) (by decide) rfl rfl ?_
      refine ir_l (pc' := 132) rfl rfl rfl rfl rfl rfl ?_
      refine ir_getR (pc' := 135) rfl rfl rfl (gG_at tsk_0) rfl b3e ?_
      refine ir_tgi (pc' := 138) rfl rfl rfl tf_1_8 tsk_1 hT0 (fun z13 z13e z13l z13h => ?_)
      refine ir_z_lt (pt := 158) (pc' := 141) rfl rfl rfl (fun c14 => ?_) (fun c14 => ?_)
      · refine ir_w [] trivial ?_
        exact J158 s0 hT0 hF0 (z1) (by omega) (by omega) z1e b3e (z4) (by omega) (by omega) z4e (z13) (by omega) (by omega) z13e
      · refine ir_l (pc' := 142) rfl rfl rfl rfl rfl rfl ?_
        refine ir_getR (pc' := 145) rfl rfl rfl (gG_at tsk_0) rfl b3e ?_
        refine ir_getI (pc' := 148) rfl rfl rfl (gG_at tsk_1) rfl (by decide) (by decide) z13e (by omega) (by omega) ?_
        refine ir_k (pc' := 149) (v := (0, 2)) rfl rfl rfl (fun _ => rfl) ?_
        refine ir_remN (pc' := 150) rfl rfl (by omega) (by omega) (by omega) (by omega) ?_
        refine ir_k (pc' := 151) (v := (0, 1)) rfl rfl rfl (fun _ => rfl) ?_
        refine ir_c_ne (pt := 158) (pc' := 154) rfl rfl rfl (fun c15 => ?_) (fun c15 => ?_)
        · refine ir_w [] trivial ?_
          exact J158 s0 hT0 hF0 (z1) (by omega) (by omega) z1e b3e (z4) (by omega) (by omega) z4e (z13) (by omega) (by omega) z13e
        · refine ir_k (pc' := 155) (v := (0, 1)) rfl rfl rfl (fun _ => rfl) ?_
          refine ir_goto (pc' := 159) rfl rfl ?_
          refine ir_w [] trivial ?_
          exact J159 (1) (by omega) (by omega) s0 hT0 hF0 (z1) (by omega) (by omega) z1e b3e (z4) (by omega) (by omega) z4e (z13) (by omega) (by omega) z13e
    · refine ir_tab (pc' := 160) 6 rfl (by omega) (by decide) rfl rfl ?_
      refine ir_l (pc' := 161) rfl rfl rfl rfl rfl rfl ?_
      refine ir_getR (pc' := 164) rfl rfl rfl (gG_at tsk_0) rfl b3e ?_
      refine ir_tgi (pc' := 167) rfl rfl rfl tf_1_9 tsk_1 hT0 (fun z16 z16e z16l z16h => ?_)
      refine ir_z_lt (pt := 187) (pc' := 170) rfl rfl rfl (fun c17 => ?_) (fun c17 => ?_)
      · refine ir_w [] trivial ?_
        exact J187 s0 hT0 hF0 (z1) (by omega) (by omega) z1e b3e (z4) (by omega) (by omega) z4e (z16) (by omega) (by omega) z16e
      · refine ir_l (pc' := 171) rfl rfl rfl rfl rfl rfl ?_
        refine ir_getR (pc' := 174) rfl rfl rfl (gG_at tsk_0) rfl b3e ?_
        refine ir_getI (pc' := 177) rfl rfl rfl (gG_at tsk_1) rfl (by decide) (by decide) z16e (by omega) (by omega) ?_
        refine ir_k (pc' := 178) (v := (0, 2)) rfl rfl rfl (fun _ => rfl) ?_
        refine ir_remN (pc' := 179) rfl rfl (by omega) (by omega) (by omega) (by omega) ?_
        refine ir_k (pc' := 180) (v := (0, 1)) rfl rfl rfl (fun _ => rfl) ?_
        refine ir_c_ne (pt := 187) (pc' := 183) rfl rfl rfl (fun c18 => ?_) (fun c18 => ?_)
        · refine ir_w [] trivial ?_
          exact J187 s0 hT0 hF0 (z1) (by omega) (by omega) z1e b3e (z4) (by omega) (by omega) z4e (z16) (by omega) (by omega) z16e
        · refine ir_k (pc' := 184) (v := (0, 1)) rfl rfl rfl (fun _ => rfl) ?_
          refine ir_goto (pc' := 188) rfl rfl ?_
          refine ir_w [] trivial ?_
          exact J188 (1) (by omega) (by omega) s0 hT0 hF0 (z1) (by omega) (by omega) z1e b3e (z4) (by omega) (by omega) z4e (z16) (by omega) (by omega) z16e
    · refine ir_tab (pc' := 189) 7 rfl (by omega) (by decide) rfl rfl ?_
      refine ir_l (pc' := 190) rfl rfl rfl rfl rfl rfl ?_
      refine ir_getR (pc' := 193) rfl rfl rfl (gG_at tsk_0) rfl b3e ?_
      refine ir_tgi (pc' := 196) rfl rfl rfl tf_1_8 tsk_1 hT0 (fun z19 z19e z19l z19h => ?_)
      refine ir_z_ne (pt := 203) (pc' := 199) rfl rfl rfl (fun c20 => ?_) (fun c20 => ?_)
      · refine ir_k (pc' := 204) (v := (0, 0)) rfl rfl rfl (fun _ => rfl) ?_
        refine ir_w [] trivial ?_
        exact J204 (0) (by omega) (by omega) s0 hT0 hF0 (z1) (by omega) (by omega) z1e b3e (z4) (by omega) (by omega) z4e (z19) (by omega) (by omega) z19e
      · refine ir_k (pc' := 200) (v := (0, 1)) rfl rfl rfl (fun _ => rfl) ?_
        refine ir_goto (pc' := 204) rfl rfl ?_
        refine ir_w [] trivial ?_
        exact J204 (1) (by omega) (by omega) s0 hT0 hF0 (z1) (by omega) (by omega) z1e b3e (z4) (by omega) (by omega) z4e (z19) (by omega) (by omega) z19e
    · refine ir_tab (pc' := 205) 8 rfl (by omega) (by decide) rfl rfl ?_
      refine ir_l (pc' := 206) rfl rfl rfl rfl rfl rfl ?_
      refine ir_getR (pc' := 209) rfl rfl rfl (gG_at tsk_0) rfl b3e ?_
      refine ir_tgi (pc' := 212) rfl rfl rfl tf_1_9 tsk_1 hT0 (fun z21 z21e z21l z21h => ?_)
      refine ir_l (pc' := 213) rfl rfl rfl rfl rfl rfl ?_
      refine ir_c_ne (pt := 220) (pc' := 216) rfl rfl rfl (fun c22 => ?_) (fun c22 => ?_)
      · refine ir_k (pc' := 221) (v := (0, 0)) rfl rfl rfl (fun _ => rfl) ?_
        refine ir_w [] trivial ?_
        exact J221 (0) (by omega) (by omega) s0 hT0 hF0 (z1) (by omega) (by omega) z1e b3e (z4) (by omega) (by omega) z4e (z21) (by omega) (by omega) z21e
      · refine ir_k (pc' := 217) (v := (0, 1)) rfl rfl rfl (fun _ => rfl) ?_
        refine ir_goto (pc' := 221) rfl rfl ?_
        refine ir_w [] trivial ?_
        exact J221 (1) (by omega) (by omega) s0 hT0 hF0 (z1) (by omega) (by omega) z1e b3e (z4) (by omega) (by omega) z4e (z21) (by omega) (by omega) z21e
  · refine ir_k (pc' := 8) (v := (0, (-1))) rfl rfl rfl (fun _ => rfl) ?_
    exact ir_iret rfl rfl ⟨_, rfl, hT0, hF0, by omega, by omega⟩
theorem sf_load9 (L : Nat) (ys : Nat → Int32) (d : Nat) (s0 : im_S) (hT0 : tI s0)  : icI gG rm_P L ys 0 (d + 86) 220 [(2, ((0 : Nat) : Int))] s0 (fun z s => tI s ∧ fr [(0, 0), (0, 1), (0, 2), (0, 3), (1, 4), (1, 7), (1, 8), (1, 9), (1, 10), (2, 1), (2, 2), (2, 3), (2, 4), (2, 5), (2, 11), (2, 13), (4, 0), (10, 3), (10, 13), (10, 14), (10, 15), (10, 16), (11, 2), (14, 3), (14, 4), (15, 4), (15, 5), (16, 1), (16, 2), (19, 1), (19, 2), (23, 0), (23, 1), (23, 2), (23, 3), (23, 4), (23, 5), (23, 7), (23, 8), (23, 9), (25, 1), (25, 2)] s0 s ∧ 0 ≤ z ∧ z ≤ 3) := by
  refine ic_startM (M := rm_p_X9_load) om_X9_load (Nat.le_of_ble_eq_true rfl) ?_
  refine ir_w [(0, (2, ((0 : Nat) : Int)))] ⟨rfl, trivial⟩ ?_
  have hF0 := fr_refl [(0, 0), (0, 1), (0, 2), (0, 3), (1, 4), (1, 7), (1, 8), (1, 9), (1, 10), (2, 1), (2, 2), (2, 3), (2, 4), (2, 5), (2, 11), (2, 13), (4, 0), (10, 3), (10, 13), (10, 14), (10, 15), (10, 16), (11, 2), (14, 3), (14, 4), (15, 4), (15, 5), (16, 1), (16, 2), (19, 1), (19, 2), (23, 0), (23, 1), (23, 2), (23, 3), (23, 4), (23, 5), (23, 7), (23, 8), (23, 9), (25, 1), (25, 2)] s0
  have J164 : ∀ n : Nat, ∀ (q164_l3 : Int) (q164_l3l : 0 ≤ q164_l3) (q164_l3h : q164_l3 ≤ 80) (s_164 : im_S) (hT_164 : tI s_164) (hF_164 : fr [(0, 0), (0, 1), (0, 2), (0, 3), (1, 4), (1, 7), (1, 8), (1, 9), (1, 10), (2, 1), (2, 2), (2, 3), (2, 4), (2, 5), (2, 11), (2, 13), (4, 0), (10, 3), (10, 13), (10, 14), (10, 15), (10, 16), (11, 2), (14, 3), (14, 4), (15, 4), (15, 5), (16, 1), (16, 2), (19, 1), (19, 2), (23, 0), (23, 1), (23, 2), (23, 3), (23, 4), (23, 5), (23, 7), (23, 8), (23, 9), (25, 1), (25, 2)] s0 s_164) (w164_0_0 : Int) (w164_0_0l : 0 ≤ w164_0_0) (w164_0_0h : w164_0_0 ≤ 0) (w164_0_0e : s_164.1 0 0 = w164_0_0) (w164_0_1 : Int) (w164_0_1l : 0 ≤ w164_0_1) (w164_0_1h : w164_0_1 ≤ 3) (w164_0_1e : s_164.1 0 1 = w164_0_1) (w164_0_2 : Int) (w164_0_2l : -2 ≤ w164_0_2) (w164_0_2h : w164_0_2 ≤ 400) (w164_0_2e : s_164.1 0 2 = w164_0_2) (w164_0_3 : Int) (w164_0_3l : 1 ≤ w164_0_3) (w164_0_3h : w164_0_3 ≤ 1) (w164_0_3e : s_164.1 0 3 = w164_0_3) (w164_0_4e : s_164.1 0 4 = ((1 : Nat) : Int)) (w164_0_5e : s_164.1 0 5 = ((2 : Nat) : Int)) (w164_0_6e : s_164.1 0 6 = ((83 : Nat) : Int)) (w164_0_7e : s_164.1 0 7 = ((84 : Nat) : Int)) (w164_2_11 : Int) (w164_2_11l : 0 ≤ w164_2_11) (w164_2_11h : w164_2_11 ≤ 10) (w164_2_11e : s_164.1 2 11 = w164_2_11), (80 + 1 - q164_l3) ≤ (n : Int) → ir gG rm_P L ys (d + 85) rm_p_X9_load (164, [(0, (2, ((0 : Nat) : Int))), (3, (0, q164_l3))], [], s_164) (fun r : im_Re => ∃ z, r.1 = some (0, z) ∧ (tI r.2 ∧ fr [(0, 0), (0, 1), (0, 2), (0, 3), (1, 4), (1, 7), (1, 8), (1, 9), (1, 10), (2, 1), (2, 2), (2, 3), (2, 4), (2, 5), (2, 11), (2, 13), (4, 0), (10, 3), (10, 13), (10, 14), (10, 15), (10, 16), (11, 2), (14, 3), (14, 4), (15, 4), (15, 5), (16, 1), (16, 2), (19, 1), (19, 2), (23, 0), (23, 1), (23, 2), (23, 3), (23, 4), (23, 5), (23, 7), (23, 8), (23, 9), (25, 1), (25, 2)] s0 r.2 ∧ 0 ≤ z ∧ z ≤ 3)) := by
    intro n
    induction n with
    | zero => intro q164_l3 q164_l3l q164_l3h s_164 hT_164 hF_164 w164_0_0 w164_0_0l w164_0_0h w164_0_0e w164_0_1 w164_0_1l w164_0_1h w164_0_1e w164_0_2 w164_0_2l w164_0_2h w164_0_2e w164_0_3 w164_0_3l w164_0_3h w164_0_3e w164_0_4e w164_0_5e w164_0_6e w164_0_7e w164_2_11 w164_2_11l w164_2_11h w164_2_11e hr; exfalso; omega
    | succ n ih164 =>
      intro q164_l3 q164_l3l q164_l3h s_164 hT_164 hF_164 w164_0_0 w164_0_0l w164_0_0h w164_0_0e w164_0_1 w164_0_1l w164_0_1h w164_0_1e w164_0_2 w164_0_2l w164_0_2h w164_0_2e w164_0_3 w164_0_3l w164_0_3h w164_0_3e w164_0_4e w164_0_5e w164_0_6e w164_0_7e w164_2_11 w164_2_11l w164_2_11h w164_2_11e hr
      refine ir_l (pc' := 165) rfl rfl rfl rfl rfl rfl ?_
      refine ir_l (pc' := 166) rfl rfl rfl rfl rfl rfl ?_
      refine ir_getR (pc' := 169) rfl rfl rfl (gG_at tsk_0) rfl w164_0_6e ?_
      refine ir_tgi (pc' := 172) rfl rfl rfl tf_10_3 tsk_10 hT_164 (fun z1 z1e z1l z1h => ?_)
      refine ir_c_ge (pt := 189) (pc' := 175) rfl rfl rfl (fun c2 => ?_) (fun c2 => ?_)
      · refine ir_l (pc' := 190) rfl rfl rfl rfl rfl rfl ?_
        refine ir_getR (pc' := 193) rfl rfl rfl (gG_at tsk_0) rfl w164_0_4e ?_
        refine ir_cVV (pc' := 196) rfl rfl rfl rfl rfl (Nat.le_of_ble_eq_true rfl) oo_X4_fillCells (gG_at tsk_1) (sf_fillCells4 L ys (d + 81) s_164 hT_164  ) (fun s4 hr => ?_)
        obtain ⟨hT4, hG4⟩ := hr
        have hF4 := fr_trans hF_164 hG4 (by decide)
        have e5 : s4.1 0 0 = w164_0_0 := (hG4.1 _ _ tsk_0 0 (by decide)).trans w164_0_0e
        have e6 : s4.1 0 5 = ((2 : Nat) : Int) := (hG4.1 _ _ tsk_0 5 (by decide)).trans w164_0_5e
        have e7 : s4.1 0 1 = w164_0_1 := (hG4.1 _ _ tsk_0 1 (by decide)).trans w164_0_1e
        have e8 : s4.1 0 2 = w164_0_2 := (hG4.1 _ _ tsk_0 2 (by decide)).trans w164_0_2e
        have e9 : s4.1 0 3 = w164_0_3 := (hG4.1 _ _ tsk_0 3 (by decide)).trans w164_0_3e
        have e10 : s4.1 0 7 = ((84 : Nat) : Int) := (hG4.1 _ _ tsk_0 7 (by decide)).trans w164_0_7e
        have e11 : s4.1 2 11 = w164_2_11 := (hG4.1 _ _ tsk_2 11 (by decide)).trans w164_2_11e
        have e12 : s4.1 0 6 = ((83 : Nat) : Int) := (hG4.1 _ _ tsk_0 6 (by decide)).trans w164_0_6e
        have e13 : s4.1 0 4 = ((1 : Nat) : Int) := (hG4.1 _ _ tsk_0 4 (by decide)).trans w164_0_4e
        have e14 : s4.1 83 3 = z1 := (hG4.1 _ _ tsk_10 3 (by decide)).trans z1e
        refine ir_l (pc' := 197) rfl rfl rfl rfl rfl rfl ?_
        refine ir_getI (pc' := 200) rfl rfl rfl (gG_at tsk_0) rfl (by decide) (by decide) e7 (by omega) (by omega) ?_
        exact ir_iret rfl rfl ⟨_, rfl, hT4, hF4, by omega, by omega⟩
      · refine ir_l (pc' := 176) rfl rfl rfl rfl rfl rfl ?_
        refine ir_getR (pc' := 179) rfl rfl rfl (gG_at tsk_0) rfl w164_0_4e ?_
        refine ir_l (pc' := 180) rfl rfl rfl rfl rfl rfl ?_
        refine ir_cVV (pc' := 183) rfl rfl rfl rfl rfl (Nat.le_of_ble_eq_true rfl) oo_X4_insert (gG_at tsk_1) (sf_insert4 L ys (d + 78) s_164 hT_164 (q164_l3) (by omega) (by omega) ) (fun s16 hr => ?_)
        obtain ⟨hT16, hG16⟩ := hr
        have hF16 := fr_trans hF_164 hG16 (by decide)
        have e17 : s16.1 0 0 = w164_0_0 := (hG16.1 _ _ tsk_0 0 (by decide)).trans w164_0_0e
        have e18 : s16.1 0 5 = ((2 : Nat) : Int) := (hG16.1 _ _ tsk_0 5 (by decide)).trans w164_0_5e
        have e19 : s16.1 0 1 = w164_0_1 := (hG16.1 _ _ tsk_0 1 (by decide)).trans w164_0_1e
        have e20 : s16.1 0 2 = w164_0_2 := (hG16.1 _ _ tsk_0 2 (by decide)).trans w164_0_2e
        have e21 : s16.1 0 3 = w164_0_3 := (hG16.1 _ _ tsk_0 3 (by decide)).trans w164_0_3e
        have e22 : s16.1 0 7 = ((84 : Nat) : Int) := (hG16.1 _ _ tsk_0 7 (by decide)).trans w164_0_7e
        have e23 : s16.1 2 11 = w164_2_11 := (hG16.1 _ _ tsk_2 11 (by decide)).trans w164_2_11e
        have e24 : s16.1 0 6 = ((83 : Nat) : Int) := (hG16.1 _ _ tsk_0 6 (by decide)).trans w164_0_6e
        have e25 : s16.1 0 4 = ((1 : Nat) : Int) := (hG16.1 _ _ tsk_0 4 (by decide)).trans w164_0_4e
        have e26 : s16.1 83 3 = z1 := (hG16.1 _ _ tsk_10 3 (by decide)).trans z1e
        refine ir_inc (pc' := 186) rfl rfl rfl rfl rfl (by omega) (by omega) ?_
        refine ir_goto (pc' := 164) rfl rfl ?_
        refine ir_w [(0, (2, ((0 : Nat) : Int))), (3, (0, (q164_l3 + 1)))] ⟨rfl, rfl, trivial⟩ ?_
        exact ih164 ((q164_l3 + 1)) (by omega) (by omega) s16 hT16 hF16 (w164_0_0) (by omega) (by omega) e17 (w164_0_1) (by omega) (by omega) e19 (w164_0_2) (by omega) (by omega) e20 (w164_0_3) (by omega) (by omega) e21 e25 e18 e24 e22 (w164_2_11) (by omega) (by omega) e23 (by omega)
  have J135 : ∀ n : Nat, ∀ (q135_l2 : Int) (q135_l2l : 0 ≤ q135_l2) (q135_l2h : q135_l2 ≤ 80) (q135_l3 : Int) (q135_l3l : 0 ≤ q135_l3) (q135_l3h : q135_l3 ≤ 80) (s_135 : im_S) (hT_135 : tI s_135) (hF_135 : fr [(0, 0), (0, 1), (0, 2), (0, 3), (1, 4), (1, 7), (1, 8), (1, 9), (1, 10), (2, 1), (2, 2), (2, 3), (2, 4), (2, 5), (2, 11), (2, 13), (4, 0), (10, 3), (10, 13), (10, 14), (10, 15), (10, 16), (11, 2), (14, 3), (14, 4), (15, 4), (15, 5), (16, 1), (16, 2), (19, 1), (19, 2), (23, 0), (23, 1), (23, 2), (23, 3), (23, 4), (23, 5), (23, 7), (23, 8), (23, 9), (25, 1), (25, 2)] s0 s_135) (w135_0_0 : Int) (w135_0_0l : 0 ≤ w135_0_0) (w135_0_0h : w135_0_0 ≤ 0) (w135_0_0e : s_135.1 0 0 = w135_0_0) (w135_0_1 : Int) (w135_0_1l : 0 ≤ w135_0_1) (w135_0_1h : w135_0_1 ≤ 3) (w135_0_1e : s_135.1 0 1 = w135_0_1) (w135_0_2 : Int) (w135_0_2l : -2 ≤ w135_0_2) (w135_0_2h : w135_0_2 ≤ 400) (w135_0_2e : s_135.1 0 2 = w135_0_2) (w135_0_3 : Int) (w135_0_3l : 1 ≤ w135_0_3) (w135_0_3h : w135_0_3 ≤ 1) (w135_0_3e : s_135.1 0 3 = w135_0_3) (w135_0_5e : s_135.1 0 5 = ((2 : Nat) : Int)) (w135_0_6e : s_135.1 0 6 = ((83 : Nat) : Int)) (w135_0_7e : s_135.1 0 7 = ((84 : Nat) : Int)) (w135_2_11 : Int) (w135_2_11l : 0 ≤ w135_2_11) (w135_2_11h : w135_2_11 ≤ 10) (w135_2_11e : s_135.1 2 11 = w135_2_11), (80 + 1 - q135_l3) ≤ (n : Int) → ir gG rm_P L ys (d + 85) rm_p_X9_load (135, [(0, (2, ((0 : Nat) : Int))), (2, (0, q135_l2)), (3, (0, q135_l3))], [], s_135) (fun r : im_Re => ∃ z, r.1 = some (0, z) ∧ (tI r.2 ∧ fr [(0, 0), (0, 1), (0, 2), (0, 3), (1, 4), (1, 7), (1, 8), (1, 9), (1, 10), (2, 1), (2, 2), (2, 3), (2, 4), (2, 5), (2, 11), (2, 13), (4, 0), (10, 3), (10, 13), (10, 14), (10, 15), (10, 16), (11, 2), (14, 3), (14, 4), (15, 4), (15, 5), (16, 1), (16, 2), (19, 1), (19, 2), (23, 0), (23, 1), (23, 2), (23, 3), (23, 4), (23, 5), (23, 7), (23, 8), (23, 9), (25, 1), (25, 2)] s0 r.2 ∧ 0 ≤ z ∧ z ≤ 3)) := by
    intro n
    induction n with
    | zero => intro q135_l2 q135_l2l q135_l2h q135_l3 q135_l3l q135_l3h s_135 hT_135 hF_135 w135_0_0 w135_0_0l w135_0_0h w135_0_0e w135_0_1 w135_0_1l w135_0_1h w135_0_1e w135_0_2 w135_0_2l w135_0_2h w135_0_2e w135_0_3 w135_0_3l w135_0_3h w135_0_3e w135_0_5e w135_0_6e w135_0_7e w135_2_11 w135_2_11l w135_2_11h w135_2_11e hr; exfalso; omega
    | succ n ih135 =>
      intro q135_l2 q135_l2l q135_l2h q135_l3 q135_l3l q135_l3h s_135 hT_135 hF_135 w135_0_0 w135_0_0l w135_0_0h w135_0_0e w135_0_1 w135_0_1l w135_0_1h w135_0_1e w135_0_2 w135_0_2l w135_0_2h w135_0_2e w135_0_3 w135_0_3l w135_0_3h w135_0_3e w135_0_5e w135_0_6e w135_0_7e w135_2_11 w135_2_11l w135_2_11h w135_2_11e hr
      refine ir_l (pc' := 136) rfl rfl rfl rfl rfl rfl ?_
      refine ir_l (pc' := 137) rfl rfl rfl rfl rfl rfl ?_
      refine ir_c_ge (pt := 154) (pc' := 140) rfl rfl rfl (fun c27 => ?_) (fun c27 => ?_)
      · refine ir_l (pc' := 155) rfl rfl rfl rfl rfl rfl ?_
        refine ir_tgr (pc' := 158) rfl rfl rfl tf_0_4 tsk_0 hT_135 (fun b28 b28e b28k => ?_)
        obtain rfl := tsg_1 b28k
        refine ir_k (pc' := 159) (v := (0, 0)) rfl rfl rfl (fun _ => rfl) ?_
        refine ir_tpi (pc' := 162) rfl rfl rfl tf_1_4 rfl tsk_1 hT_135 rfl (by omega) (by omega) (fun s29 hT29 e29 g29 r29 => ?_)
        have hF29 := fr_put (k := 1) hF_135 (by decide) tsk_1 g29 r29
        have e30 : s29.1 0 0 = w135_0_0 := (g29 0 0 (fun z => absurd z.2 (by decide))).trans w135_0_0e
        have e31 : s29.1 0 5 = ((2 : Nat) : Int) := (g29 0 5 (fun z => absurd z.2 (by decide))).trans w135_0_5e
        have e32 : s29.1 0 1 = w135_0_1 := (g29 0 1 (fun z => absurd z.2 (by decide))).trans w135_0_1e
        have e33 : s29.1 0 2 = w135_0_2 := (g29 0 2 (fun z => absurd z.2 (by decide))).trans w135_0_2e
        have e34 : s29.1 0 3 = w135_0_3 := (g29 0 3 (fun z => absurd z.2 (by decide))).trans w135_0_3e
        have e35 : s29.1 0 7 = ((84 : Nat) : Int) := (g29 0 7 (fun z => absurd z.2 (by decide))).trans w135_0_7e
        have e36 : s29.1 2 11 = w135_2_11 := (g29 2 11 (fun z => absurd z.2 (by decide))).trans w135_2_11e
        have e37 : s29.1 0 6 = ((83 : Nat) : Int) := (g29 0 6 (fun z => absurd z.2 (by decide))).trans w135_0_6e
        have e38 : s29.1 0 4 = ((1 : Nat) : Int) := (g29 0 4 (fun z => absurd z.1 (by decide))).trans b28e
        refine ir_k (pc' := 163) (v := (0, 0)) rfl rfl rfl (fun _ => rfl) ?_
        refine ir_s (pc' := 164) rfl rfl rfl rfl rfl rfl ?_
        refine ir_w [(0, (2, ((0 : Nat) : Int))), (3, (0, 0))] ⟨rfl, rfl, trivial⟩ ?_
        exact J164 _ (0) (by omega) (by omega) s29 hT29 hF29 (w135_0_0) (by omega) (by omega) e30 (w135_0_1) (by omega) (by omega) e32 (w135_0_2) (by omega) (by omega) e33 (w135_0_3) (by omega) (by omega) e34 e38 e31 e37 e35 (w135_2_11) (by omega) (by omega) e36 (Int.self_le_toNat _)
      · refine ir_l (pc' := 141) rfl rfl rfl rfl rfl rfl ?_
        refine ir_getR (pc' := 144) rfl rfl rfl (gG_at tsk_0) rfl w135_0_6e ?_
        refine ir_l (pc' := 145) rfl rfl rfl rfl rfl rfl ?_
        refine ir_cVV (pc' := 148) rfl rfl rfl rfl rfl (Nat.le_of_ble_eq_true rfl) oo_X3_solve (gG_at tsk_10) (sf_solve3 L ys (d + 78) s_135 hT_135 (q135_l3) (by omega) (by omega) ) (fun s40 hr => ?_)
        obtain ⟨hT40, hG40⟩ := hr
        have hF40 := fr_trans hF_135 hG40 (by decide)
        have e41 : s40.1 0 0 = w135_0_0 := (hG40.1 _ _ tsk_0 0 (by decide)).trans w135_0_0e
        have e42 : s40.1 0 5 = ((2 : Nat) : Int) := (hG40.1 _ _ tsk_0 5 (by decide)).trans w135_0_5e
        have e43 : s40.1 0 1 = w135_0_1 := (hG40.1 _ _ tsk_0 1 (by decide)).trans w135_0_1e
        have e44 : s40.1 0 2 = w135_0_2 := (hG40.1 _ _ tsk_0 2 (by decide)).trans w135_0_2e
        have e45 : s40.1 0 3 = w135_0_3 := (hG40.1 _ _ tsk_0 3 (by decide)).trans w135_0_3e
        have e46 : s40.1 0 7 = ((84 : Nat) : Int) := (hG40.1 _ _ tsk_0 7 (by decide)).trans w135_0_7e
        have e47 : s40.1 2 11 = w135_2_11 := (hG40.1 _ _ tsk_2 11 (by decide)).trans w135_2_11e
        have e48 : s40.1 0 6 = ((83 : Nat) : Int) := (hG40.1 _ _ tsk_0 6 (by decide)).trans w135_0_6e
        refine ir_inc (pc' := 151) rfl rfl rfl rfl rfl (by omega) (by omega) ?_
        refine ir_goto (pc' := 135) rfl rfl ?_
        refine ir_w [(0, (2, ((0 : Nat) : Int))), (2, (0, q135_l2)), (3, (0, (q135_l3 + 1)))] ⟨rfl, rfl, rfl, trivial⟩ ?_
        exact ih135 (q135_l2) (by omega) (by omega) ((q135_l3 + 1)) (by omega) (by omega) s40 hT40 hF40 (w135_0_0) (by omega) (by omega) e41 (w135_0_1) (by omega) (by omega) e43 (w135_0_2) (by omega) (by omega) e44 (w135_0_3) (by omega) (by omega) e45 e42 e48 e46 (w135_2_11) (by omega) (by omega) e47 (by omega)
  have J83 : ∀ n : Nat, ∀ (q83_l2 : Int) (q83_l2l : 0 ≤ q83_l2) (q83_l2h : q83_l2 ≤ 10) (s_83 : im_S) (hT_83 : tI s_83) (hF_83 : fr [(0, 0), (0, 1), (0, 2), (0, 3), (1, 4), (1, 7), (1, 8), (1, 9), (1, 10), (2, 1), (2, 2), (2, 3), (2, 4), (2, 5), (2, 11), (2, 13), (4, 0), (10, 3), (10, 13), (10, 14), (10, 15), (10, 16), (11, 2), (14, 3), (14, 4), (15, 4), (15, 5), (16, 1), (16, 2), (19, 1), (19, 2), (23, 0), (23, 1), (23, 2), (23, 3), (23, 4), (23, 5), (23, 7), (23, 8), (23, 9), (25, 1), (25, 2)] s0 s_83) (w83_0_0 : Int) (w83_0_0l : 0 ≤ w83_0_0) (w83_0_0h : w83_0_0 ≤ 0) (w83_0_0e : s_83.1 0 0 = w83_0_0) (w83_0_1 : Int) (w83_0_1l : 0 ≤ w83_0_1) (w83_0_1h : w83_0_1 ≤ 3) (w83_0_1e : s_83.1 0 1 = w83_0_1) (w83_0_2 : Int) (w83_0_2l : -2 ≤ w83_0_2) (w83_0_2h : w83_0_2 ≤ 400) (w83_0_2e : s_83.1 0 2 = w83_0_2) (w83_0_3 : Int) (w83_0_3l : 1 ≤ w83_0_3) (w83_0_3h : w83_0_3 ≤ 1) (w83_0_3e : s_83.1 0 3 = w83_0_3) (w83_0_5e : s_83.1 0 5 = ((2 : Nat) : Int)) (w83_0_7e : s_83.1 0 7 = ((84 : Nat) : Int)), (10 + 1 - q83_l2) ≤ (n : Int) → ir gG rm_P L ys (d + 85) rm_p_X9_load (83, [(0, (2, ((0 : Nat) : Int))), (2, (0, q83_l2))], [], s_83) (fun r : im_Re => ∃ z, r.1 = some (0, z) ∧ (tI r.2 ∧ fr [(0, 0), (0, 1), (0, 2), (0, 3), (1, 4), (1, 7), (1, 8), (1, 9), (1, 10), (2, 1), (2, 2), (2, 3), (2, 4), (2, 5), (2, 11), (2, 13), (4, 0), (10, 3), (10, 13), (10, 14), (10, 15), (10, 16), (11, 2), (14, 3), (14, 4), (15, 4), (15, 5), (16, 1), (16, 2), (19, 1), (19, 2), (23, 0), (23, 1), (23, 2), (23, 3), (23, 4), (23, 5), (23, 7), (23, 8), (23, 9), (25, 1), (25, 2)] s0 r.2 ∧ 0 ≤ z ∧ z ≤ 3)) := by
    intro n
    induction n with
    | zero => intro q83_l2 q83_l2l q83_l2h s_83 hT_83 hF_83 w83_0_0 w83_0_0l w83_0_0h w83_0_0e w83_0_1 w83_0_1l w83_0_1h w83_0_1e w83_0_2 w83_0_2l w83_0_2h w83_0_2e w83_0_3 w83_0_3l w83_0_3h w83_0_3e w83_0_5e w83_0_7e hr; exfalso; omega
    | succ n ih83 =>
      intro q83_l2 q83_l2l q83_l2h s_83 hT_83 hF_83 w83_0_0 w83_0_0l w83_0_0h w83_0_0e w83_0_1 w83_0_1l w83_0_1h w83_0_1e w83_0_2 w83_0_2l w83_0_2h w83_0_2e w83_0_3 w83_0_3l w83_0_3h w83_0_3e w83_0_5e w83_0_7e hr
      refine ir_l (pc' := 84) rfl rfl rfl rfl rfl rfl ?_
      refine ir_l (pc' := 85) rfl rfl rfl rfl rfl rfl ?_
      refine ir_getR (pc' := 88) rfl rfl rfl (gG_at tsk_0) rfl w83_0_5e ?_
      refine ir_tgi (pc' := 91) rfl rfl rfl tf_2_11 tsk_2 hT_83 (fun z49 z49e z49l z49h => ?_)
      refine ir_c_ge (pt := 117) (pc' := 94) rfl rfl rfl (fun c50 => ?_) (fun c50 => ?_)
      · refine ir_l (pc' := 118) rfl rfl rfl rfl rfl rfl ?_
        refine ir_tgr (pc' := 121) rfl rfl rfl tf_0_6 tsk_0 hT_83 (fun b51 b51e b51k => ?_)
        obtain rfl := tsg_10 b51k
        refine ir_k (pc' := 122) (v := (0, 0)) rfl rfl rfl (fun _ => rfl) ?_
        refine ir_tpi (pc' := 125) rfl rfl rfl tf_10_3 rfl tsk_10 hT_83 rfl (by omega) (by omega) (fun s52 hT52 e52 g52 r52 => ?_)
        have hF52 := fr_put (k := 10) hF_83 (by decide) tsk_10 g52 r52
        have e53 : s52.1 0 0 = w83_0_0 := (g52 0 0 (fun z => absurd z.2 (by decide))).trans w83_0_0e
        have e54 : s52.1 0 5 = ((2 : Nat) : Int) := (g52 0 5 (fun z => absurd z.2 (by decide))).trans w83_0_5e
        have e55 : s52.1 0 1 = w83_0_1 := (g52 0 1 (fun z => absurd z.2 (by decide))).trans w83_0_1e
        have e56 : s52.1 0 2 = w83_0_2 := (g52 0 2 (fun z => absurd z.2 (by decide))).trans w83_0_2e
        have e57 : s52.1 0 3 = w83_0_3 := (g52 0 3 (fun z => absurd z.1 (by decide))).trans w83_0_3e
        have e58 : s52.1 0 7 = ((84 : Nat) : Int) := (g52 0 7 (fun z => absurd z.2 (by decide))).trans w83_0_7e
        have e59 : s52.1 2 11 = z49 := (g52 2 11 (fun z => absurd z.2 (by decide))).trans z49e
        have e60 : s52.1 0 6 = ((83 : Nat) : Int) := (g52 0 6 (fun z => absurd z.2 (by decide))).trans b51e
        refine ir_l (pc' := 126) rfl rfl rfl rfl rfl rfl ?_
        refine ir_getR (pc' := 129) rfl rfl rfl (gG_at tsk_0) rfl e58 ?_
        refine ir_tgi (pc' := 132) rfl rfl rfl tf_11_2 tsk_11 hT52 (fun z61 z61e z61l z61h => ?_)
        refine ir_s (pc' := 133) rfl rfl rfl rfl rfl rfl ?_
        refine ir_k (pc' := 134) (v := (0, 0)) rfl rfl rfl (fun _ => rfl) ?_
        refine ir_s (pc' := 135) rfl rfl rfl rfl rfl rfl ?_
        refine ir_w [(0, (2, ((0 : Nat) : Int))), (2, (0, z61)), (3, (0, 0))] ⟨rfl, rfl, rfl, trivial⟩ ?_
        exact J135 _ (z61) (by omega) (by omega) (0) (by omega) (by omega) s52 hT52 hF52 (w83_0_0) (by omega) (by omega) e53 (w83_0_1) (by omega) (by omega) e55 (w83_0_2) (by omega) (by omega) e56 (w83_0_3) (by omega) (by omega) e57 e54 e60 e58 (z49) (by omega) (by omega) e59 (Int.self_le_toNat _)
      · refine ir_l (pc' := 95) rfl rfl rfl rfl rfl rfl ?_
        refine ir_getR (pc' := 98) rfl rfl rfl (gG_at tsk_0) rfl w83_0_7e ?_
        refine ir_l (pc' := 99) rfl rfl rfl rfl rfl rfl ?_
        refine ir_getR (pc' := 102) rfl rfl rfl (gG_at tsk_0) rfl w83_0_5e ?_
        refine ir_tgr (pc' := 105) rfl rfl rfl tf_2_9 tsk_2 hT_83 (fun b62 b62e b62k => ?_)
        obtain rfl := tsg_7 b62k
        refine ir_l (pc' := 106) rfl rfl rfl rfl rfl rfl ?_
        refine ir_taa (pc' := 107) (k2 := 4) rfl rfl te_7 (by decide) tsk_7 hT_83 (by omega) (by omega) (fun b63 b63k => ?_)
        refine ir_l (pc' := 108) rfl rfl rfl rfl rfl rfl ?_
        refine ir_cVV (pc' := 111) rfl rfl rfl rfl rfl (Nat.le_of_ble_eq_true rfl) oo_X0_addAtom (gG_at tsk_11) (sf_addAtom0 L ys (d + 78) s_83 hT_83 b63 b63k (q83_l2) (by omega) (by omega) ) (fun s65 hr => ?_)
        obtain ⟨hT65, hG65⟩ := hr
        have hF65 := fr_trans hF_83 hG65 (by decide)
        have e66 : s65.1 0 0 = w83_0_0 := (hG65.1 _ _ tsk_0 0 (by decide)).trans w83_0_0e
        have e67 : s65.1 0 5 = ((2 : Nat) : Int) := (hG65.1 _ _ tsk_0 5 (by decide)).trans w83_0_5e
        have e68 : s65.1 0 1 = w83_0_1 := (hG65.1 _ _ tsk_0 1 (by decide)).trans w83_0_1e
        have e69 : s65.1 0 2 = w83_0_2 := (hG65.1 _ _ tsk_0 2 (by decide)).trans w83_0_2e
        have e70 : s65.1 0 3 = w83_0_3 := (hG65.1 _ _ tsk_0 3 (by decide)).trans w83_0_3e
        have e71 : s65.1 0 7 = ((84 : Nat) : Int) := (hG65.1 _ _ tsk_0 7 (by decide)).trans w83_0_7e
        have e72 : s65.1 2 11 = z49 := (hG65.1 _ _ tsk_2 11 (by decide)).trans z49e
        have e73 : s65.1 2 9 = ((60 : Nat) : Int) := (hG65.1 _ _ tsk_2 9 (by decide)).trans b62e
        refine ir_inc (pc' := 114) rfl rfl rfl rfl rfl (by omega) (by omega) ?_
        refine ir_goto (pc' := 83) rfl rfl ?_
        refine ir_w [(0, (2, ((0 : Nat) : Int))), (2, (0, (q83_l2 + 1)))] ⟨rfl, rfl, trivial⟩ ?_
        exact ih83 ((q83_l2 + 1)) (by omega) (by omega) s65 hT65 hF65 (w83_0_0) (by omega) (by omega) e66 (w83_0_1) (by omega) (by omega) e68 (w83_0_2) (by omega) (by omega) e69 (w83_0_3) (by omega) (by omega) e70 e67 e71 (by omega)
  have J58 : ∀ (q58_s1 : Int) (q58_s1l : 0 ≤ q58_s1) (q58_s1h : q58_s1 ≤ 1) (s_58 : im_S) (hT_58 : tI s_58) (hF_58 : fr [(0, 0), (0, 1), (0, 2), (0, 3), (1, 4), (1, 7), (1, 8), (1, 9), (1, 10), (2, 1), (2, 2), (2, 3), (2, 4), (2, 5), (2, 11), (2, 13), (4, 0), (10, 3), (10, 13), (10, 14), (10, 15), (10, 16), (11, 2), (14, 3), (14, 4), (15, 4), (15, 5), (16, 1), (16, 2), (19, 1), (19, 2), (23, 0), (23, 1), (23, 2), (23, 3), (23, 4), (23, 5), (23, 7), (23, 8), (23, 9), (25, 1), (25, 2)] s0 s_58) (w58_0_0 : Int) (w58_0_0l : 0 ≤ w58_0_0) (w58_0_0h : w58_0_0 ≤ 0) (w58_0_0e : s_58.1 0 0 = w58_0_0) (w58_0_1 : Int) (w58_0_1l : 0 ≤ w58_0_1) (w58_0_1h : w58_0_1 ≤ 3) (w58_0_1e : s_58.1 0 1 = w58_0_1) (w58_0_2 : Int) (w58_0_2l : -2 ≤ w58_0_2) (w58_0_2h : w58_0_2 ≤ 400) (w58_0_2e : s_58.1 0 2 = w58_0_2) (w58_0_5e : s_58.1 0 5 = ((2 : Nat) : Int)), ir gG rm_P L ys (d + 85) rm_p_X9_load (58, [(0, (2, ((0 : Nat) : Int)))], [(0, q58_s1), (2, ((0 : Nat) : Int))], s_58) (fun r : im_Re => ∃ z, r.1 = some (0, z) ∧ (tI r.2 ∧ fr [(0, 0), (0, 1), (0, 2), (0, 3), (1, 4), (1, 7), (1, 8), (1, 9), (1, 10), (2, 1), (2, 2), (2, 3), (2, 4), (2, 5), (2, 11), (2, 13), (4, 0), (10, 3), (10, 13), (10, 14), (10, 15), (10, 16), (11, 2), (14, 3), (14, 4), (15, 4), (15, 5), (16, 1), (16, 2), (19, 1), (19, 2), (23, 0), (23, 1), (23, 2), (23, 3), (23, 4), (23, 5), (23, 7), (23, 8), (23, 9), (25, 1), (25, 2)] s0 r.2 ∧ 0 ≤ z ∧ z ≤ 3)) := by
    intro q58_s1 q58_s1l q58_s1h s_58 hT_58 hF_58 w58_0_0 w58_0_0l w58_0_0h w58_0_0e w58_0_1 w58_0_1l w58_0_1h w58_0_1e w58_0_2 w58_0_2l w58_0_2h w58_0_2e w58_0_5e
    refine ir_tpi (pc' := 61) rfl rfl rfl tf_0_3 rfl tsk_0 hT_58 (by first | rfl | exact im_fitZ rfl (by omega)) (by omega) (by omega) (fun s74 hT74 e74 g74 r74 => ?_)
    have hF74 := fr_put (k := 0) hF_58 (by decide) tsk_0 g74 r74
    have e75 : s74.1 0 0 = w58_0_0 := (g74 0 0 (fun z => absurd z.2 (by decide))).trans w58_0_0e
    have e76 : s74.1 0 5 = ((2 : Nat) : Int) := (g74 0 5 (fun z => absurd z.2 (by decide))).trans w58_0_5e
    have e77 : s74.1 0 1 = w58_0_1 := (g74 0 1 (fun z => absurd z.2 (by decide))).trans w58_0_1e
    have e78 : s74.1 0 2 = w58_0_2 := (g74 0 2 (fun z => absurd z.2 (by decide))).trans w58_0_2e
    refine ir_l (pc' := 62) rfl rfl rfl rfl rfl rfl ?_
    refine ir_getI (pc' := 65) rfl rfl rfl (gG_at tsk_0) rfl (by decide) (by decide) e74 (by omega) (by omega) ?_
    refine ir_z_ne (pt := 73) (pc' := 68) rfl rfl rfl (fun c79 => ?_) (fun c79 => ?_)
    · refine ir_l (pc' := 74) rfl rfl rfl rfl rfl rfl ?_
      refine ir_tgr (pc' := 77) rfl rfl rfl tf_0_7 tsk_0 hT74 (fun b80 b80e b80k => ?_)
      obtain rfl := tsg_11 b80k
      refine ir_k (pc' := 78) (v := (0, 0)) rfl rfl rfl (fun _ => rfl) ?_
      refine ir_tpi (pc' := 81) rfl rfl rfl tf_11_2 rfl tsk_11 hT74 rfl (by omega) (by omega) (fun s81 hT81 e81 g81 r81 => ?_)
      have hF81 := fr_put (k := 11) hF74 (by decide) tsk_11 g81 r81
      have e82 : s81.1 0 0 = w58_0_0 := (g81 0 0 (fun z => absurd z.2 (by decide))).trans e75
      have e83 : s81.1 0 5 = ((2 : Nat) : Int) := (g81 0 5 (fun z => absurd z.2 (by decide))).trans e76
      have e84 : s81.1 0 1 = w58_0_1 := (g81 0 1 (fun z => absurd z.2 (by decide))).trans e77
      have e85 : s81.1 0 2 = w58_0_2 := (g81 0 2 (fun z => absurd z.1 (by decide))).trans e78
      have e86 : s81.1 0 3 = q58_s1 := (g81 0 3 (fun z => absurd z.2 (by decide))).trans e74
      have e87 : s81.1 0 7 = ((84 : Nat) : Int) := (g81 0 7 (fun z => absurd z.2 (by decide))).trans b80e
      refine ir_k (pc' := 82) (v := (0, 0)) rfl rfl rfl (fun _ => rfl) ?_
      refine ir_s (pc' := 83) rfl rfl rfl rfl rfl rfl ?_
      refine ir_w [(0, (2, ((0 : Nat) : Int))), (2, (0, 0))] ⟨rfl, rfl, trivial⟩ ?_
      exact J83 _ (0) (by omega) (by omega) s81 hT81 hF81 (w58_0_0) (by omega) (by omega) e82 (w58_0_1) (by omega) (by omega) e84 (w58_0_2) (by omega) (by omega) e85 (q58_s1) (by omega) (by omega) e86 e83 e87 (Int.self_le_toNat _)
    · refine ir_l (pc' := 69) rfl rfl rfl rfl rfl rfl ?_
      refine ir_getI (pc' := 72) rfl rfl rfl (gG_at tsk_0) rfl (by decide) (by decide) e77 (by omega) (by omega) ?_
      exact ir_iret rfl rfl ⟨_, rfl, hT74, hF74, by omega, by omega⟩
  have J42 : ∀ (q42_s1 : Int) (q42_s1l : -2 ≤ q42_s1) (q42_s1h : q42_s1 ≤ 400) (s_42 : im_S) (hT_42 : tI s_42) (hF_42 : fr [(0, 0), (0, 1), (0, 2), (0, 3), (1, 4), (1, 7), (1, 8), (1, 9), (1, 10), (2, 1), (2, 2), (2, 3), (2, 4), (2, 5), (2, 11), (2, 13), (4, 0), (10, 3), (10, 13), (10, 14), (10, 15), (10, 16), (11, 2), (14, 3), (14, 4), (15, 4), (15, 5), (16, 1), (16, 2), (19, 1), (19, 2), (23, 0), (23, 1), (23, 2), (23, 3), (23, 4), (23, 5), (23, 7), (23, 8), (23, 9), (25, 1), (25, 2)] s0 s_42) (w42_0_0 : Int) (w42_0_0l : 0 ≤ w42_0_0) (w42_0_0h : w42_0_0 ≤ 0) (w42_0_0e : s_42.1 0 0 = w42_0_0) (w42_0_1 : Int) (w42_0_1l : 0 ≤ w42_0_1) (w42_0_1h : w42_0_1 ≤ 3) (w42_0_1e : s_42.1 0 1 = w42_0_1) (w42_0_5e : s_42.1 0 5 = ((2 : Nat) : Int)), ir gG rm_P L ys (d + 85) rm_p_X9_load (42, [(0, (2, ((0 : Nat) : Int)))], [(0, q42_s1), (2, ((0 : Nat) : Int))], s_42) (fun r : im_Re => ∃ z, r.1 = some (0, z) ∧ (tI r.2 ∧ fr [(0, 0), (0, 1), (0, 2), (0, 3), (1, 4), (1, 7), (1, 8), (1, 9), (1, 10), (2, 1), (2, 2), (2, 3), (2, 4), (2, 5), (2, 11), (2, 13), (4, 0), (10, 3), (10, 13), (10, 14), (10, 15), (10, 16), (11, 2), (14, 3), (14, 4), (15, 4), (15, 5), (16, 1), (16, 2), (19, 1), (19, 2), (23, 0), (23, 1), (23, 2), (23, 3), (23, 4), (23, 5), (23, 7), (23, 8), (23, 9), (25, 1), (25, 2)] s0 r.2 ∧ 0 ≤ z ∧ z ≤ 3)) := by
    intro q42_s1 q42_s1l q42_s1h s_42 hT_42 hF_42 w42_0_0 w42_0_0l w42_0_0h w42_0_0e w42_0_1 w42_0_1l w42_0_1h w42_0_1e w42_0_5e
    refine ir_tpi (pc' := 45) rfl rfl rfl tf_0_2 rfl tsk_0 hT_42 rfl (by omega) (by omega) (fun s88 hT88 e88 g88 r88 => ?_)
    have hF88 := fr_put (k := 0) hF_42 (by decide) tsk_0 g88 r88
    have e89 : s88.1 0 0 = w42_0_0 := (g88 0 0 (fun z => absurd z.2 (by decide))).trans w42_0_0e
    have e90 : s88.1 0 5 = ((2 : Nat) : Int) := (g88 0 5 (fun z => absurd z.2 (by decide))).trans w42_0_5e
    have e91 : s88.1 0 1 = w42_0_1 := (g88 0 1 (fun z => absurd z.2 (by decide))).trans w42_0_1e
    refine ir_l (pc' := 46) rfl rfl rfl rfl rfl rfl ?_
    refine ir_l (pc' := 47) rfl rfl rfl rfl rfl rfl ?_
    refine ir_getI (pc' := 50) rfl rfl rfl (gG_at tsk_0) rfl (by decide) (by decide) e91 (by omega) (by omega) ?_
    refine ir_z_ne (pt := 57) (pc' := 53) rfl rfl rfl (fun c92 => ?_) (fun c92 => ?_)
    · refine ir_k (pc' := 58) (v := (0, 0)) rfl rfl rfl (fun _ => rfl) ?_
      refine ir_w [(0, (2, ((0 : Nat) : Int)))] ⟨rfl, trivial⟩ ?_
      exact J58 (0) (by omega) (by omega) s88 hT88 hF88 (w42_0_0) (by omega) (by omega) e89 (w42_0_1) (by omega) (by omega) e91 (q42_s1) (by omega) (by omega) e88 e90
    · refine ir_k (pc' := 54) (v := (0, 1)) rfl rfl rfl (fun _ => rfl) ?_
      refine ir_goto (pc' := 58) rfl rfl ?_
      refine ir_w [(0, (2, ((0 : Nat) : Int)))] ⟨rfl, trivial⟩ ?_
      exact J58 (1) (by omega) (by omega) s88 hT88 hF88 (w42_0_0) (by omega) (by omega) e89 (w42_0_1) (by omega) (by omega) e91 (q42_s1) (by omega) (by omega) e88 e90
  refine ir_l (pc' := 1) rfl rfl rfl rfl rfl rfl ?_
  refine ir_tgi (pc' := 4) rfl rfl rfl tf_0_0 tsk_0 hT0 (fun z93 z93e z93l z93h => ?_)
  refine ir_s (pc' := 5) rfl rfl rfl rfl rfl rfl ?_
  refine ir_l (pc' := 6) rfl rfl rfl rfl rfl rfl ?_
  refine ir_k (pc' := 7) (v := (0, 0)) rfl rfl rfl (fun _ => rfl) ?_
  refine ir_tpi (pc' := 10) rfl rfl rfl tf_0_0 rfl tsk_0 hT0 rfl (by omega) (by omega) (fun s94 hT94 e94 g94 r94 => ?_)
  have hF94 := fr_put (k := 0) hF0 (by decide) tsk_0 g94 r94
  refine ir_l (pc' := 11) rfl rfl rfl rfl rfl rfl ?_
  refine ir_l (pc' := 12) rfl rfl rfl rfl rfl rfl ?_
  refine ir_tgr (pc' := 15) rfl rfl rfl tf_0_5 tsk_0 hT94 (fun b95 b95e b95k => ?_)
  obtain rfl := tsg_2 b95k
  refine ir_l (pc' := 16) rfl rfl rfl rfl rfl rfl ?_
  refine ir_cVI (pc' := 19) rfl rfl rfl rfl rfl (Nat.le_of_ble_eq_true rfl) oo_X7_read (gG_at tsk_2) (sf_read7 L ys d s94 hT94 (z93) (by omega) (by omega) ) (fun z96 s97 hr => ?_)
  obtain ⟨hT97, hG97, z96l, z96h⟩ := hr
  have hF97 := fr_trans hF94 hG97 (by decide)
  have e98 : s97.1 0 0 = 0 := (hG97.1 _ _ tsk_0 0 (by decide)).trans e94
  have e99 : s97.1 0 5 = ((2 : Nat) : Int) := (hG97.1 _ _ tsk_0 5 (by decide)).trans b95e
  refine ir_tpi (pc' := 22) rfl rfl rfl tf_0_1 rfl tsk_0 hT97 rfl (by omega) (by omega) (fun s100 hT100 e100 g100 r100 => ?_)
  have hF100 := fr_put (k := 0) hF97 (by decide) tsk_0 g100 r100
  have e101 : s100.1 0 0 = 0 := (g100 0 0 (fun z => absurd z.2 (by decide))).trans e98
  have e102 : s100.1 0 5 = ((2 : Nat) : Int) := (g100 0 5 (fun z => absurd z.2 (by decide))).trans e99
  refine ir_l (pc' := 23) rfl rfl rfl rfl rfl rfl ?_
  refine ir_l (pc' := 24) rfl rfl rfl rfl rfl rfl ?_
  refine ir_getI (pc' := 27) rfl rfl rfl (gG_at tsk_0) rfl (by decide) (by decide) e100 (by omega) (by omega) ?_
  refine ir_z_ne (pt := 35) (pc' := 30) rfl rfl rfl (fun c103 => ?_) (fun c103 => ?_)
  · refine ir_l (pc' := 36) rfl rfl rfl rfl rfl rfl ?_
    refine ir_getR (pc' := 39) rfl rfl rfl (gG_at tsk_0) rfl e102 ?_
    refine ir_tgi (pc' := 42) rfl rfl rfl tf_2_5 tsk_2 hT100 (fun z104 z104e z104l z104h => ?_)
    refine ir_w [(0, (2, ((0 : Nat) : Int)))] ⟨rfl, trivial⟩ ?_
    exact J42 (z104) (by omega) (by omega) s100 hT100 hF100 (0) (by omega) (by omega) e101 (z96) (by omega) (by omega) e100 e102
  · refine ir_k (pc' := 32) (v := (0, (-2))) rfl rfl rfl (fun _ => rfl) ?_
    refine ir_goto (pc' := 42) rfl rfl ?_
    refine ir_w [(0, (2, ((0 : Nat) : Int)))] ⟨rfl, trivial⟩ ?_
    exact J42 ((-2)) (by omega) (by omega) s100 hT100 hF100 (0) (by omega) (by omega) e101 (z96) (by omega) (by omega) e100 e102
