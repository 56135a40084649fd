/-! WALKS OF THE CLASS'S METHODS, by program -/
theorem sf_compareDeeply3 (L : Nat) (ys : Nat → Int32) (d : Nat) (s0 : im_S) (hT0 : tI s0) (a1 : Nat) (a1k : gK[a1]? = some 23) (a2 : Nat) (a2k : gK[a2]? = some 23) : icI gG rm_P L ys 0 (d + 6) 131 [(2, ((83 : Nat) : Int)), (2, (a1 : Int)), (2, (a2 : Int))] s0 (fun z s => tI s ∧ fr [(10, 13), (10, 14), (10, 15), (10, 16), (19, 1), (19, 2), (23, 1), (23, 7), (23, 8), (25, 1), (25, 2)] s0 s ∧ -1 ≤ z ∧ z ≤ 1) := by
  refine ic_startM (M := rm_p_X3_compareDeeply) om_X3_compareDeeply (Nat.le_of_ble_eq_true rfl) ?_
  refine ir_w [(0, (2, ((83 : Nat) : Int))), (1, (2, ((a1 : Nat) : Int))), (2, (2, ((a2 : Nat) : Int)))] ⟨rfl, rfl, rfl, trivial⟩ ?_
  have hF0 := fr_refl [(10, 13), (10, 14), (10, 15), (10, 16), (19, 1), (19, 2), (23, 1), (23, 7), (23, 8), (25, 1), (25, 2)] s0
  have J163 : ∀ (q163_s0 : Int) (q163_s0l : -1 ≤ q163_s0) (q163_s0h : q163_s0 ≤ 1) (s_163 : im_S) (hT_163 : tI s_163) (hF_163 : fr [(10, 13), (10, 14), (10, 15), (10, 16), (19, 1), (19, 2), (23, 1), (23, 7), (23, 8), (25, 1), (25, 2)] s0 s_163) (w163_83_6 : Nat) (w163_83_6k : gK[w163_83_6]? = some 19) (w163_83_6e : s_163.1 83 6 = ((w163_83_6 : Nat) : Int)) (w163_83_7 : Nat) (w163_83_7k : gK[w163_83_7]? = some 19) (w163_83_7e : s_163.1 83 7 = ((w163_83_7 : Nat) : Int)) (w163_a1_7 : Int) (w163_a1_7l : -2147483648 ≤ w163_a1_7) (w163_a1_7h : w163_a1_7 ≤ 2147483647) (w163_a1_7e : s_163.1 a1 7 = w163_a1_7) (w163_a2_7 : Int) (w163_a2_7l : -2147483648 ≤ w163_a2_7) (w163_a2_7h : w163_a2_7 ≤ 2147483647) (w163_a2_7e : s_163.1 a2 7 = w163_a2_7), ir gG rm_P L ys (d + 5) rm_p_X3_compareDeeply (163, [], [(0, q163_s0)], s_163) (fun r : im_Re => ∃ z, r.1 = some (0, z) ∧ (tI r.2 ∧ fr [(10, 13), (10, 14), (10, 15), (10, 16), (19, 1), (19, 2), (23, 1), (23, 7), (23, 8), (25, 1), (25, 2)] s0 r.2 ∧ -1 ≤ z ∧ z ≤ 1)) := by
    intro q163_s0 q163_s0l q163_s0h s_163 hT_163 hF_163 w163_83_6 w163_83_6k w163_83_6e w163_83_7 w163_83_7k w163_83_7e w163_a1_7 w163_a1_7l w163_a1_7h w163_a1_7e w163_a2_7 w163_a2_7l w163_a2_7h w163_a2_7e
    exact ir_iret rfl rfl ⟨_, rfl, hT_163, hF_163, by omega, by omega⟩
  have J153 : ∀ (q153_l4 : Int) (q153_l4l : 0 ≤ q153_l4) (q153_l4h : q153_l4 ≤ 1) (s_153 : im_S) (hT_153 : tI s_153) (hF_153 : fr [(10, 13), (10, 14), (10, 15), (10, 16), (19, 1), (19, 2), (23, 1), (23, 7), (23, 8), (25, 1), (25, 2)] s0 s_153) (w153_83_6 : Nat) (w153_83_6k : gK[w153_83_6]? = some 19) (w153_83_6e : s_153.1 83 6 = ((w153_83_6 : Nat) : Int)) (w153_83_7 : Nat) (w153_83_7k : gK[w153_83_7]? = some 19) (w153_83_7e : s_153.1 83 7 = ((w153_83_7 : Nat) : Int)) (w153_a1_7 : Int) (w153_a1_7l : -2147483648 ≤ w153_a1_7) (w153_a1_7h : w153_a1_7 ≤ 2147483647) (w153_a1_7e : s_153.1 a1 7 = w153_a1_7) (w153_a2_7 : Int) (w153_a2_7l : -2147483648 ≤ w153_a2_7) (w153_a2_7h : w153_a2_7 ≤ 2147483647) (w153_a2_7e : s_153.1 a2 7 = w153_a2_7), ir gG rm_P L ys (d + 5) rm_p_X3_compareDeeply (153, [(4, (0, q153_l4))], [], s_153) (fun r : im_Re => ∃ z, r.1 = some (0, z) ∧ (tI r.2 ∧ fr [(10, 13), (10, 14), (10, 15), (10, 16), (19, 1), (19, 2), (23, 1), (23, 7), (23, 8), (25, 1), (25, 2)] s0 r.2 ∧ -1 ≤ z ∧ z ≤ 1)) := by
    intro q153_l4 q153_l4l q153_l4h s_153 hT_153 hF_153 w153_83_6 w153_83_6k w153_83_6e w153_83_7 w153_83_7k w153_83_7e w153_a1_7 w153_a1_7l w153_a1_7h w153_a1_7e w153_a2_7 w153_a2_7l w153_a2_7h w153_a2_7e
    refine ir_l (pc' := 155) rfl rfl rfl rfl rfl rfl ?_
    refine ir_z_eq (pt := 162) (pc' := 158) rfl rfl rfl (fun c1 => ?_) (fun c1 => ?_)
    · refine ir_k (pc' := 163) (v := (0, 1)) rfl rfl rfl (fun _ => rfl) ?_
      refine ir_w [] trivial ?_
      exact J163 (1) (by omega) (by omega) s_153 hT_153 hF_153 w153_83_6 w153_83_6k w153_83_6e w153_83_7 w153_83_7k w153_83_7e (w153_a1_7) (by omega) (by omega) w153_a1_7e (w153_a2_7) (by omega) (by omega) w153_a2_7e
    · refine ir_k (pc' := 159) (v := (0, (-1))) rfl rfl rfl (fun _ => rfl) ?_
      refine ir_goto (pc' := 163) rfl rfl ?_
      refine ir_w [] trivial ?_
      exact J163 ((-1)) (by omega) (by omega) s_153 hT_153 hF_153 w153_83_6 w153_83_6k w153_83_6e w153_83_7 w153_83_7k w153_83_7e (w153_a1_7) (by omega) (by omega) w153_a1_7e (w153_a2_7) (by omega) (by omega) w153_a2_7e
  have J129 : ∀ (q129_s0 : Int) (q129_s0l : -1 ≤ q129_s0) (q129_s0h : q129_s0 ≤ 1) (s_129 : im_S) (hT_129 : tI s_129) (hF_129 : fr [(10, 13), (10, 14), (10, 15), (10, 16), (19, 1), (19, 2), (23, 1), (23, 7), (23, 8), (25, 1), (25, 2)] s0 s_129) (w129_83_6 : Nat) (w129_83_6k : gK[w129_83_6]? = some 19) (w129_83_6e : s_129.1 83 6 = ((w129_83_6 : Nat) : Int)) (w129_83_7 : Nat) (w129_83_7k : gK[w129_83_7]? = some 19) (w129_83_7e : s_129.1 83 7 = ((w129_83_7 : Nat) : Int)) (w129_a1_7 : Int) (w129_a1_7l : -2147483648 ≤ w129_a1_7) (w129_a1_7h : w129_a1_7 ≤ 2147483647) (w129_a1_7e : s_129.1 a1 7 = w129_a1_7) (w129_a2_7 : Int) (w129_a2_7l : -2147483648 ≤ w129_a2_7) (w129_a2_7h : w129_a2_7 ≤ 2147483647) (w129_a2_7e : s_129.1 a2 7 = w129_a2_7), ir gG rm_P L ys (d + 5) rm_p_X3_compareDeeply (129, [], [(0, q129_s0)], s_129) (fun r : im_Re => ∃ z, r.1 = some (0, z) ∧ (tI r.2 ∧ fr [(10, 13), (10, 14), (10, 15), (10, 16), (19, 1), (19, 2), (23, 1), (23, 7), (23, 8), (25, 1), (25, 2)] s0 r.2 ∧ -1 ≤ z ∧ z ≤ 1)) := by
    intro q129_s0 q129_s0l q129_s0h s_129 hT_129 hF_129 w129_83_6 w129_83_6k w129_83_6e w129_83_7 w129_83_7k w129_83_7e w129_a1_7 w129_a1_7l w129_a1_7h w129_a1_7e w129_a2_7 w129_a2_7l w129_a2_7h w129_a2_7e
    exact ir_iret rfl rfl ⟨_, rfl, hT_129, hF_129, by omega, by omega⟩
  have J2 : ∀ n : Nat, ∀ (q2_l3 : Int) (q2_l3l : 0 ≤ q2_l3) (q2_l3h : q2_l3 ≤ 10000) (s_2 : im_S) (hT_2 : tI s_2) (hF_2 : fr [(10, 13), (10, 14), (10, 15), (10, 16), (19, 1), (19, 2), (23, 1), (23, 7), (23, 8), (25, 1), (25, 2)] s0 s_2), (10000 + 1 - q2_l3) ≤ (n : Int) → ir gG rm_P L ys (d + 5) rm_p_X3_compareDeeply (2, [(0, (2, ((83 : Nat) : Int))), (1, (2, ((a1 : Nat) : Int))), (2, (2, ((a2 : Nat) : Int))), (3, (0, q2_l3))], [], s_2) (fun r : im_Re => ∃ z, r.1 = some (0, z) ∧ (tI r.2 ∧ fr [(10, 13), (10, 14), (10, 15), (10, 16), (19, 1), (19, 2), (23, 1), (23, 7), (23, 8), (25, 1), (25, 2)] s0 r.2 ∧ -1 ≤ z ∧ z ≤ 1)) := by
    intro n
    induction n with
    | zero => intro q2_l3 q2_l3l q2_l3h s_2 hT_2 hF_2 hr; exfalso; omega
    | succ n ih2 =>
      intro q2_l3 q2_l3l q2_l3h s_2 hT_2 hF_2 hr
      have J49 : ∀ (q49_l4 : Int) (q49_l4l : 0 ≤ q49_l4) (q49_l4h : q49_l4 ≤ 1) (q49_l5 : Nat) (q49_l5k : gK[q49_l5]? = some 23) (q49_s0 : Nat) (q49_s0k : gK[q49_s0]? = some 23) (f49_3h : q2_l3 ≤ 9999) (s_49 : im_S) (hT_49 : tI s_49) (hF_49 : fr [(10, 13), (10, 14), (10, 15), (10, 16), (19, 1), (19, 2), (23, 1), (23, 7), (23, 8), (25, 1), (25, 2)] s0 s_49) (w49_a1_7 : Int) (w49_a1_7l : -2147483648 ≤ w49_a1_7) (w49_a1_7h : w49_a1_7 ≤ 2147483647) (w49_a1_7e : s_49.1 a1 7 = w49_a1_7) (w49_a2_7 : Int) (w49_a2_7l : -2147483648 ≤ w49_a2_7) (w49_a2_7h : w49_a2_7 ≤ 2147483647) (w49_a2_7e : s_49.1 a2 7 = w49_a2_7), ir gG rm_P L ys (d + 5) rm_p_X3_compareDeeply (49, [(0, (2, ((83 : Nat) : Int))), (1, (2, ((a1 : Nat) : Int))), (2, (2, ((a2 : Nat) : Int))), (3, (0, q2_l3)), (4, (0, q49_l4)), (5, (2, ((q49_l5 : Nat) : Int)))], [(2, ((q49_s0 : Nat) : Int))], s_49) (fun r : im_Re => ∃ z, r.1 = some (0, z) ∧ (tI r.2 ∧ fr [(10, 13), (10, 14), (10, 15), (10, 16), (19, 1), (19, 2), (23, 1), (23, 7), (23, 8), (25, 1), (25, 2)] s0 r.2 ∧ -1 ≤ z ∧ z ≤ 1)) := by
        intro q49_l4 q49_l4l q49_l4h q49_l5 q49_l5k q49_s0 q49_s0k f49_3h s_49 hT_49 hF_49 w49_a1_7 w49_a1_7l w49_a1_7h w49_a1_7e w49_a2_7 w49_a2_7l w49_a2_7h w49_a2_7e
        refine ir_s (pc' := 51) rfl rfl rfl rfl rfl rfl ?_
        refine ir_l (pc' := 53) rfl rfl rfl rfl rfl rfl ?_
        refine ir_tgi (pc' := 56) rfl rfl rfl tf_23_7 q49_s0k hT_49 (fun z2 z2e z2l z2h => ?_)
        refine ir_l (pc' := 58) rfl rfl rfl rfl rfl rfl ?_
        refine ir_tgi (pc' := 61) rfl rfl rfl tf_23_7 q49_l5k hT_49 (fun z3 z3e z3l z3h => ?_)
        refine ir_iiA (pc' := 62) rfl rfl rfl rfl (fun z4 z4l z4h => ?_)
        refine ir_s (pc' := 64) rfl rfl rfl rfl rfl rfl ?_
        refine ir_l (pc' := 65) rfl rfl rfl rfl rfl rfl ?_
        refine ir_tgr (pc' := 68) rfl rfl rfl tf_10_6 tsk_10 hT_49 (fun b5 b5e b5k => ?_)
        refine ir_l (pc' := 70) rfl rfl rfl rfl rfl rfl ?_
        refine ir_tgr (pc' := 73) rfl rfl rfl tf_23_6 q49_l5k hT_49 (fun b6 b6e b6k => ?_)
        refine ir_cVV (pc' := 76) rfl rfl rfl rfl rfl (Nat.le_of_ble_eq_true rfl) oo_X1_copy (gG_at b5k) (sf_copy1_19_19 L ys (d + 3) s_49 hT_49 b5 b5k b6 b6k ) (fun s8 hr => ?_)
        obtain ⟨hT8, hG8⟩ := hr
        have hF8 := fr_trans hF_49 hG8 (by decide)
        have e9 : s8.1 a1 7 = w49_a1_7 := (hG8.1 _ _ a1k 7 (by decide)).trans w49_a1_7e
        have e10 : s8.1 a2 7 = w49_a2_7 := (hG8.1 _ _ a2k 7 (by decide)).trans w49_a2_7e
        have e11 : s8.1 q49_s0 7 = z2 := (hG8.1 _ _ q49_s0k 7 (by decide)).trans z2e
        have e12 : s8.1 q49_l5 7 = z3 := (hG8.1 _ _ q49_l5k 7 (by decide)).trans z3e
        have e13 : s8.1 83 6 = ((b5 : Nat) : Int) := (hG8.1 _ _ tsk_10 6 (by decide)).trans b5e
        have e14 : s8.1 q49_l5 6 = ((b6 : Nat) : Int) := (hG8.1 _ _ q49_l5k 6 (by decide)).trans b6e
        refine ir_l (pc' := 77) rfl rfl rfl rfl rfl rfl ?_
        refine ir_getR (pc' := 80) rfl rfl rfl (gG_at tsk_10) rfl e13 ?_
        refine ir_l (pc' := 82) rfl rfl rfl rfl rfl rfl ?_
        refine ir_cVV (pc' := 85) rfl rfl rfl rfl rfl (Nat.le_of_ble_eq_true rfl) oo_X1_shiftUp (gG_at b5k) (sf_shiftUp1_19 L ys (d + 3) s8 hT8 b5 b5k (z4) (by omega) (by omega) ) (fun s16 hr => ?_)
        obtain ⟨hT16, hG16⟩ := hr
        have hF16 := fr_trans hF8 hG16 (by decide)
        have e17 : s16.1 a1 7 = w49_a1_7 := (hG16.1 _ _ a1k 7 (by decide)).trans e9
        have e18 : s16.1 a2 7 = w49_a2_7 := (hG16.1 _ _ a2k 7 (by decide)).trans e10
        have e19 : s16.1 q49_s0 7 = z2 := (hG16.1 _ _ q49_s0k 7 (by decide)).trans e11
        have e20 : s16.1 q49_l5 7 = z3 := (hG16.1 _ _ q49_l5k 7 (by decide)).trans e12
        have e21 : s16.1 83 6 = ((b5 : Nat) : Int) := (hG16.1 _ _ tsk_10 6 (by decide)).trans e13
        have e22 : s16.1 q49_l5 6 = ((b6 : Nat) : Int) := (hG16.1 _ _ q49_l5k 6 (by decide)).trans e14
        refine ir_l (pc' := 86) rfl rfl rfl rfl rfl rfl ?_
        refine ir_tgr (pc' := 89) rfl rfl rfl tf_10_7 tsk_10 hT16 (fun b23 b23e b23k => ?_)
        refine ir_l (pc' := 91) rfl rfl rfl rfl rfl rfl ?_
        refine ir_tgr (pc' := 94) rfl rfl rfl tf_23_6 q49_s0k hT16 (fun b24 b24e b24k => ?_)
        refine ir_cVV (pc' := 97) rfl rfl rfl rfl rfl (Nat.le_of_ble_eq_true rfl) oo_X1_copy (gG_at b23k) (sf_copy1_19_19 L ys (d + 3) s16 hT16 b23 b23k b24 b24k ) (fun s26 hr => ?_)
        obtain ⟨hT26, hG26⟩ := hr
        have hF26 := fr_trans hF16 hG26 (by decide)
        have e27 : s26.1 a1 7 = w49_a1_7 := (hG26.1 _ _ a1k 7 (by decide)).trans e17
        have e28 : s26.1 a2 7 = w49_a2_7 := (hG26.1 _ _ a2k 7 (by decide)).trans e18
        have e29 : s26.1 q49_s0 7 = z2 := (hG26.1 _ _ q49_s0k 7 (by decide)).trans e19
        have e30 : s26.1 q49_l5 7 = z3 := (hG26.1 _ _ q49_l5k 7 (by decide)).trans e20
        have e31 : s26.1 83 6 = ((b5 : Nat) : Int) := (hG26.1 _ _ tsk_10 6 (by decide)).trans e21
        have e32 : s26.1 q49_l5 6 = ((b6 : Nat) : Int) := (hG26.1 _ _ q49_l5k 6 (by decide)).trans e22
        have e33 : s26.1 83 7 = ((b23 : Nat) : Int) := (hG26.1 _ _ tsk_10 7 (by decide)).trans b23e
        have e34 : s26.1 q49_s0 6 = ((b24 : Nat) : Int) := (hG26.1 _ _ q49_s0k 6 (by decide)).trans b24e
        refine ir_l (pc' := 98) rfl rfl rfl rfl rfl rfl ?_
        refine ir_getR (pc' := 101) rfl rfl rfl (gG_at tsk_10) rfl e33 ?_
        refine ir_l (pc' := 102) rfl rfl rfl rfl rfl rfl ?_
        refine ir_getR (pc' := 105) rfl rfl rfl (gG_at tsk_10) rfl e31 ?_
        refine ir_k (pc' := 106) (v := (0, (-1))) rfl rfl rfl (fun _ => rfl) ?_
        refine ir_cVV (pc' := 109) rfl rfl rfl rfl rfl (Nat.le_of_ble_eq_true rfl) oo_X1_add (gG_at b23k) (sf_add1_19_19 L ys (d + 2) s26 hT26 b23 b23k b5 b5k ((-1)) (by omega) (by omega) ) (fun s36 hr => ?_)
        obtain ⟨hT36, hG36⟩ := hr
        have hF36 := fr_trans hF26 hG36 (by decide)
        have e37 : s36.1 a1 7 = w49_a1_7 := (hG36.1 _ _ a1k 7 (by decide)).trans e27
        have e38 : s36.1 a2 7 = w49_a2_7 := (hG36.1 _ _ a2k 7 (by decide)).trans e28
        have e39 : s36.1 q49_s0 7 = z2 := (hG36.1 _ _ q49_s0k 7 (by decide)).trans e29
        have e40 : s36.1 q49_l5 7 = z3 := (hG36.1 _ _ q49_l5k 7 (by decide)).trans e30
        have e41 : s36.1 83 6 = ((b5 : Nat) : Int) := (hG36.1 _ _ tsk_10 6 (by decide)).trans e31
        have e42 : s36.1 q49_l5 6 = ((b6 : Nat) : Int) := (hG36.1 _ _ q49_l5k 6 (by decide)).trans e32
        have e43 : s36.1 83 7 = ((b23 : Nat) : Int) := (hG36.1 _ _ tsk_10 7 (by decide)).trans e33
        have e44 : s36.1 q49_s0 6 = ((b24 : Nat) : Int) := (hG36.1 _ _ q49_s0k 6 (by decide)).trans e34
        refine ir_l (pc' := 110) rfl rfl rfl rfl rfl rfl ?_
        refine ir_getR (pc' := 113) rfl rfl rfl (gG_at tsk_10) rfl e43 ?_
        refine ir_tgi (pc' := 116) rfl rfl rfl tf_19_2 b23k hT36 (fun z45 z45e z45l z45h => ?_)
        refine ir_z_ge (pt := 130) (pc' := 119) rfl rfl rfl (fun c46 => ?_) (fun c46 => ?_)
        · refine ir_l (pc' := 131) rfl rfl rfl rfl rfl rfl ?_
          refine ir_getR (pc' := 134) rfl rfl rfl (gG_at tsk_10) rfl e43 ?_
          refine ir_cVI (pc' := 137) rfl rfl rfl rfl rfl (Nat.le_of_ble_eq_true rfl) oo_X1_bits (gG_at b23k) (sf_bits1_19 L ys (d + 3) s36 hT36 b23 b23k ) (fun z47 s48 hr => ?_)
          obtain ⟨hT48, hG48, z47l, z47h⟩ := hr
          have hF48 := fr_trans hF36 hG48 (by decide)
          have e49 : s48.1 a1 7 = w49_a1_7 := (hG48.1 _ _ a1k 7 (by decide)).trans e37
          have e50 : s48.1 a2 7 = w49_a2_7 := (hG48.1 _ _ a2k 7 (by decide)).trans e38
          have e51 : s48.1 q49_s0 7 = z2 := (hG48.1 _ _ q49_s0k 7 (by decide)).trans e39
          have e52 : s48.1 q49_l5 7 = z3 := (hG48.1 _ _ q49_l5k 7 (by decide)).trans e40
          have e53 : s48.1 83 6 = ((b5 : Nat) : Int) := (hG48.1 _ _ tsk_10 6 (by decide)).trans e41
          have e54 : s48.1 q49_l5 6 = ((b6 : Nat) : Int) := (hG48.1 _ _ q49_l5k 6 (by decide)).trans e42
          have e55 : s48.1 83 7 = ((b23 : Nat) : Int) := (hG48.1 _ _ tsk_10 7 (by decide)).trans e43
          have e56 : s48.1 q49_s0 6 = ((b24 : Nat) : Int) := (hG48.1 _ _ q49_s0k 6 (by decide)).trans e44
          have e57 : s48.1 b23 2 = z45 := (hG48.1 _ _ b23k 2 (by decide)).trans z45e
          refine ir_l (pc' := 139) rfl rfl rfl rfl rfl rfl ?_
          refine ir_c_gt (pt := 153) (pc' := 142) rfl rfl rfl (fun c58 => ?_) (fun c58 => ?_)
          · refine ir_w [(4, (0, q49_l4))] ⟨rfl, trivial⟩ ?_
            exact J153 (q49_l4) (by omega) (by omega) s48 hT48 hF48 b5 b5k e53 b23 b23k e55 (w49_a1_7) (by omega) (by omega) e49 (w49_a2_7) (by omega) (by omega) e50
          · refine ir_l (pc' := 144) rfl rfl rfl rfl rfl rfl ?_
            refine ir_getI (pc' := 147) rfl rfl rfl (gG_at q49_l5k) rfl (by decide) (by decide) e52 (by omega) (by omega) ?_
            refine ir_k (pc' := 150) (v := (0, 640)) rfl rfl rfl (fun _ => rfl) ?_
            refine ir_c_lt (pt := 164) (pc' := 153) rfl rfl rfl (fun c59 => ?_) (fun c59 => ?_)
            · refine ir_l (pc' := 165) rfl rfl rfl rfl rfl rfl ?_
              refine ir_l (pc' := 167) rfl rfl rfl rfl rfl rfl ?_
              refine ir_l (pc' := 168) rfl rfl rfl rfl rfl rfl ?_
              refine ir_tgr (pc' := 171) rfl rfl rfl tf_10_0 tsk_10 hT48 (fun b60 b60e b60k => ?_)
              obtain rfl := tsg_11 b60k
              refine ir_tgr (pc' := 174) rfl rfl rfl tf_11_0 tsk_11 hT48 (fun b61 b61e b61k => ?_)
              obtain rfl := tsg_12 b61k
              refine ir_l (pc' := 176) rfl rfl rfl rfl rfl rfl ?_
              refine ir_tgi (pc' := 179) rfl rfl rfl tf_23_0 q49_l5k hT48 (fun z62 z62e z62l z62h => ?_)
              refine ir_taa (pc' := 180) (k2 := 4) rfl rfl te_12 (by decide) tsk_12 hT48 (by omega) (by omega) (fun b63 b63k => ?_)
              refine ir_l (pc' := 182) rfl rfl rfl rfl rfl rfl ?_
              refine ir_getI (pc' := 185) rfl rfl rfl (gG_at q49_l5k) rfl (by decide) (by decide) e52 (by omega) (by omega) ?_
              refine ir_l (pc' := 187) rfl rfl rfl rfl rfl rfl ?_
              refine ir_tgi (pc' := 190) rfl rfl rfl tf_23_8 q49_l5k hT48 (fun z64 z64e z64l z64h => ?_)
              refine ir_iiA (pc' := 191) rfl rfl rfl rfl (fun z65 z65l z65h => ?_)
              refine ir_cVV (pc' := 194) rfl rfl rfl rfl rfl (Nat.le_of_ble_eq_true rfl) oo_X3_tighten (gG_at tsk_10) (sf_tighten3 L ys d s48 hT48 q49_l5 q49_l5k b63 b63k (z65) (by omega) (by omega) ) (fun s67 hr => ?_)
              obtain ⟨hT67, hG67⟩ := hr
              have hF67 := fr_trans hF48 hG67 (by decide)
              have e68 : s67.1 83 6 = ((b5 : Nat) : Int) := (hG67.1 _ _ tsk_10 6 (by decide)).trans e53
              have e69 : s67.1 83 7 = ((b23 : Nat) : Int) := (hG67.1 _ _ tsk_10 7 (by decide)).trans e55
              have e70 : s67.1 83 0 = ((84 : Nat) : Int) := (hG67.1 _ _ tsk_10 0 (by decide)).trans b60e
              have e71 : s67.1 84 0 = ((85 : Nat) : Int) := (hG67.1 _ _ tsk_11 0 (by decide)).trans b61e
              refine ir_inc (pc' := 197) rfl rfl rfl rfl rfl (by omega) (by omega) ?_
              refine ir_goto (pc' := 2) rfl rfl ?_
              refine ir_w [(0, (2, ((83 : Nat) : Int))), (1, (2, ((a1 : Nat) : Int))), (2, (2, ((a2 : Nat) : Int))), (3, (0, (q2_l3 + 1)))] ⟨rfl, rfl, rfl, rfl, trivial⟩ ?_
              exact ih2 ((q2_l3 + 1)) (by omega) (by omega) s67 hT67 hF67 (by omega)
            · refine ir_w [(4, (0, q49_l4))] ⟨rfl, trivial⟩ ?_
              exact J153 (q49_l4) (by omega) (by omega) s48 hT48 hF48 b5 b5k e53 b23 b23k e55 (w49_a1_7) (by omega) (by omega) e49 (w49_a2_7) (by omega) (by omega) e50
        · refine ir_l (pc' := 121) rfl rfl rfl rfl rfl rfl ?_
          refine ir_z_eq (pt := 128) (pc' := 124) rfl rfl rfl (fun c72 => ?_) (fun c72 => ?_)
          · refine ir_k (pc' := 129) (v := (0, (-1))) rfl rfl rfl (fun _ => rfl) ?_
            refine ir_w [] trivial ?_
            exact J129 ((-1)) (by omega) (by omega) s36 hT36 hF36 b5 b5k e41 b23 b23k e43 (w49_a1_7) (by omega) (by omega) e37 (w49_a2_7) (by omega) (by omega) e38
          · refine ir_k (pc' := 125) (v := (0, 1)) rfl rfl rfl (fun _ => rfl) ?_
            refine ir_goto (pc' := 129) rfl rfl ?_
            refine ir_w [] trivial ?_
            exact J129 (1) (by omega) (by omega) s36 hT36 hF36 b5 b5k e41 b23 b23k e43 (w49_a1_7) (by omega) (by omega) e37 (w49_a2_7) (by omega) (by omega) e38
      have J37 : ∀ (q37_l4 : Int) (q37_l4l : 0 ≤ q37_l4) (q37_l4h : q37_l4 ≤ 1) (q37_s0 : Nat) (q37_s0k : gK[q37_s0]? = some 23) (f37_3h : q2_l3 ≤ 9999) (s_37 : im_S) (hT_37 : tI s_37) (hF_37 : fr [(10, 13), (10, 14), (10, 15), (10, 16), (19, 1), (19, 2), (23, 1), (23, 7), (23, 8), (25, 1), (25, 2)] s0 s_37) (w37_a1_7 : Int) (w37_a1_7l : -2147483648 ≤ w37_a1_7) (w37_a1_7h : w37_a1_7 ≤ 2147483647) (w37_a1_7e : s_37.1 a1 7 = w37_a1_7) (w37_a2_7 : Int) (w37_a2_7l : -2147483648 ≤ w37_a2_7) (w37_a2_7h : w37_a2_7 ≤ 2147483647) (w37_a2_7e : s_37.1 a2 7 = w37_a2_7), ir gG rm_P L ys (d + 5) rm_p_X3_compareDeeply (37, [(0, (2, ((83 : Nat) : Int))), (1, (2, ((a1 : Nat) : Int))), (2, (2, ((a2 : Nat) : Int))), (3, (0, q2_l3)), (4, (0, q37_l4))], [(2, ((q37_s0 : Nat) : Int))], s_37) (fun r : im_Re => ∃ z, r.1 = some (0, z) ∧ (tI r.2 ∧ fr [(10, 13), (10, 14), (10, 15), (10, 16), (19, 1), (19, 2), (23, 1), (23, 7), (23, 8), (25, 1), (25, 2)] s0 r.2 ∧ -1 ≤ z ∧ z ≤ 1)) := by
        intro q37_l4 q37_l4l q37_l4h q37_s0 q37_s0k f37_3h s_37 hT_37 hF_37 w37_a1_7 w37_a1_7l w37_a1_7h w37_a1_7e w37_a2_7 w37_a2_7l w37_a2_7h w37_a2_7e
        refine ir_s (pc' := 39) rfl rfl rfl rfl rfl rfl ?_
        refine ir_l (pc' := 41) rfl rfl rfl rfl rfl rfl ?_
        refine ir_z_eq (pt := 48) (pc' := 44) rfl rfl rfl (fun c73 => ?_) (fun c73 => ?_)
        · refine ir_l (pc' := 49) rfl rfl rfl rfl rfl rfl ?_
          refine ir_w [(0, (2, ((83 : Nat) : Int))), (1, (2, ((a1 : Nat) : Int))), (2, (2, ((a2 : Nat) : Int))), (3, (0, q2_l3)), (4, (0, q37_l4)), (5, (2, ((q37_s0 : Nat) : Int)))] ⟨rfl, rfl, rfl, rfl, rfl, rfl, trivial⟩ ?_
          exact J49 (q37_l4) (by omega) (by omega) q37_s0 q37_s0k a1 a1k (by omega) s_37 hT_37 hF_37 (w37_a1_7) (by omega) (by omega) w37_a1_7e (w37_a2_7) (by omega) (by omega) w37_a2_7e
        · refine ir_l (pc' := 45) rfl rfl rfl rfl rfl rfl ?_
          refine ir_goto (pc' := 49) rfl rfl ?_
          refine ir_w [(0, (2, ((83 : Nat) : Int))), (1, (2, ((a1 : Nat) : Int))), (2, (2, ((a2 : Nat) : Int))), (3, (0, q2_l3)), (4, (0, q37_l4)), (5, (2, ((q37_s0 : Nat) : Int)))] ⟨rfl, rfl, rfl, rfl, rfl, rfl, trivial⟩ ?_
          exact J49 (q37_l4) (by omega) (by omega) q37_s0 q37_s0k a2 a2k (by omega) s_37 hT_37 hF_37 (w37_a1_7) (by omega) (by omega) w37_a1_7e (w37_a2_7) (by omega) (by omega) w37_a2_7e
      have J25 : ∀ (q25_s0 : Int) (q25_s0l : 0 ≤ q25_s0) (q25_s0h : q25_s0 ≤ 1) (f25_3h : q2_l3 ≤ 9999) (s_25 : im_S) (hT_25 : tI s_25) (hF_25 : fr [(10, 13), (10, 14), (10, 15), (10, 16), (19, 1), (19, 2), (23, 1), (23, 7), (23, 8), (25, 1), (25, 2)] s0 s_25) (w25_a1_7 : Int) (w25_a1_7l : -2147483648 ≤ w25_a1_7) (w25_a1_7h : w25_a1_7 ≤ 2147483647) (w25_a1_7e : s_25.1 a1 7 = w25_a1_7) (w25_a2_7 : Int) (w25_a2_7l : -2147483648 ≤ w25_a2_7) (w25_a2_7h : w25_a2_7 ≤ 2147483647) (w25_a2_7e : s_25.1 a2 7 = w25_a2_7), ir gG rm_P L ys (d + 5) rm_p_X3_compareDeeply (25, [(0, (2, ((83 : Nat) : Int))), (1, (2, ((a1 : Nat) : Int))), (2, (2, ((a2 : Nat) : Int))), (3, (0, q2_l3))], [(0, q25_s0)], s_25) (fun r : im_Re => ∃ z, r.1 = some (0, z) ∧ (tI r.2 ∧ fr [(10, 13), (10, 14), (10, 15), (10, 16), (19, 1), (19, 2), (23, 1), (23, 7), (23, 8), (25, 1), (25, 2)] s0 r.2 ∧ -1 ≤ z ∧ z ≤ 1)) := by
        intro q25_s0 q25_s0l q25_s0h f25_3h s_25 hT_25 hF_25 w25_a1_7 w25_a1_7l w25_a1_7h w25_a1_7e w25_a2_7 w25_a2_7l w25_a2_7h w25_a2_7e
        refine ir_s (pc' := 27) rfl rfl rfl rfl rfl rfl ?_
        refine ir_l (pc' := 29) rfl rfl rfl rfl rfl rfl ?_
        refine ir_z_eq (pt := 36) (pc' := 32) rfl rfl rfl (fun c74 => ?_) (fun c74 => ?_)
        · refine ir_l (pc' := 37) rfl rfl rfl rfl rfl rfl ?_
          refine ir_w [(0, (2, ((83 : Nat) : Int))), (1, (2, ((a1 : Nat) : Int))), (2, (2, ((a2 : Nat) : Int))), (3, (0, q2_l3)), (4, (0, q25_s0))] ⟨rfl, rfl, rfl, rfl, rfl, trivial⟩ ?_
          exact J37 (q25_s0) (by omega) (by omega) a2 a2k (by omega) s_25 hT_25 hF_25 (w25_a1_7) (by omega) (by omega) w25_a1_7e (w25_a2_7) (by omega) (by omega) w25_a2_7e
        · refine ir_l (pc' := 33) rfl rfl rfl rfl rfl rfl ?_
          refine ir_goto (pc' := 37) rfl rfl ?_
          refine ir_w [(0, (2, ((83 : Nat) : Int))), (1, (2, ((a1 : Nat) : Int))), (2, (2, ((a2 : Nat) : Int))), (3, (0, q2_l3)), (4, (0, q25_s0))] ⟨rfl, rfl, rfl, rfl, rfl, trivial⟩ ?_
          exact J37 (q25_s0) (by omega) (by omega) a1 a1k (by omega) s_25 hT_25 hF_25 (w25_a1_7) (by omega) (by omega) w25_a1_7e (w25_a2_7) (by omega) (by omega) w25_a2_7e
      refine ir_l (pc' := 3) rfl rfl rfl rfl rfl rfl ?_
      refine ir_k (pc' := 6) (v := (0, 10000)) rfl rfl rfl (fun _ => rfl) ?_
      refine ir_c_ge (pt := 200) (pc' := 9) rfl rfl rfl (fun c75 => ?_) (fun c75 => ?_)
      · refine ir_k (pc' := 201) (v := (0, 0)) rfl rfl rfl (fun _ => rfl) ?_
        exact ir_iret rfl rfl ⟨_, rfl, hT_2, hF_2, by omega, by omega⟩
      · refine ir_l (pc' := 10) rfl rfl rfl rfl rfl rfl ?_
        refine ir_tgi (pc' := 13) rfl rfl rfl tf_23_7 a1k hT_2 (fun z76 z76e z76l z76h => ?_)
        refine ir_l (pc' := 14) rfl rfl rfl rfl rfl rfl ?_
        refine ir_tgi (pc' := 17) rfl rfl rfl tf_23_7 a2k hT_2 (fun z77 z77e z77l z77h => ?_)
        refine ir_c_gt (pt := 24) (pc' := 20) rfl rfl rfl (fun c78 => ?_) (fun c78 => ?_)
        · refine ir_k (pc' := 25) (v := (0, 0)) rfl rfl rfl (fun _ => rfl) ?_
          refine ir_w [(0, (2, ((83 : Nat) : Int))), (1, (2, ((a1 : Nat) : Int))), (2, (2, ((a2 : Nat) : Int))), (3, (0, q2_l3))] ⟨rfl, rfl, rfl, rfl, trivial⟩ ?_
          exact J25 (0) (by omega) (by omega) (by omega) s_2 hT_2 hF_2 (z76) (by omega) (by omega) z76e (z77) (by omega) (by omega) z77e
        · refine ir_k (pc' := 21) (v := (0, 1)) rfl rfl rfl (fun _ => rfl) ?_
          refine ir_goto (pc' := 25) rfl rfl ?_
          refine ir_w [(0, (2, ((83 : Nat) : Int))), (1, (2, ((a1 : Nat) : Int))), (2, (2, ((a2 : Nat) : Int))), (3, (0, q2_l3))] ⟨rfl, rfl, rfl, rfl, trivial⟩ ?_
          exact J25 (1) (by omega) (by omega) (by omega) s_2 hT_2 hF_2 (z76) (by omega) (by omega) z76e (z77) (by omega) (by omega) z77e
  refine ir_k (pc' := 1) (v := (0, 0)) rfl rfl rfl (fun _ => rfl) ?_
  refine ir_s (pc' := 2) rfl rfl rfl rfl rfl rfl ?_
  refine ir_w [(0, (2, ((83 : Nat) : Int))), (1, (2, ((a1 : Nat) : Int))), (2, (2, ((a2 : Nat) : Int))), (3, (0, 0))] ⟨rfl, rfl, rfl, rfl, trivial⟩ ?_
  exact J2 _ (0) (by omega) (by omega) s0 hT0 hF0 (Int.self_le_toNat _)
theorem sf_setProduct1_25_19_19 (L : Nat) (ys : Nat → Int32) (d : Nat) (s0 : im_S) (hT0 : tI s0) (a0 : Nat) (a0k : gK[a0]? = some 25) (a1 : Nat) (a1k : gK[a1]? = some 19) (a2 : Nat) (a2k : gK[a2]? = some 19) : icV gG rm_P L ys (d + 2) 116 [(2, (a0 : Int)), (2, (a1 : Int)), (2, (a2 : Int))] s0 (fun s => tI s ∧ fr [(25, 1), (25, 2)] s0 s) := by
  refine ic_startM (M := rm_p_X1_setProduct) om_X1_setProduct (Nat.le_of_ble_eq_true rfl) ?_
  refine ir_w [(0, (2, ((a0 : Nat) : Int))), (1, (2, ((a1 : Nat) : Int))), (2, (2, ((a2 : Nat) : Int)))] ⟨rfl, rfl, rfl, trivial⟩ ?_
  have hF0 := fr_refl [(25, 1), (25, 2)] s0
  have J216 : ∀ (s_216 : im_S) (hT_216 : tI s_216) (hF_216 : fr [(25, 1), (25, 2)] s0 s_216) (w216_a0_1 : Int) (w216_a0_1l : 0 ≤ w216_a0_1) (w216_a0_1h : w216_a0_1 ≤ 196) (w216_a0_1e : s_216.1 a0 1 = w216_a0_1) (w216_a0_2 : Int) (w216_a0_2l : -2147483648 ≤ w216_a0_2) (w216_a0_2h : w216_a0_2 ≤ 2147483647) (w216_a0_2e : s_216.1 a0 2 = w216_a0_2) (w216_a1_1 : Int) (w216_a1_1l : 0 ≤ w216_a1_1) (w216_a1_1h : w216_a1_1 ≤ 24) (w216_a1_1e : s_216.1 a1 1 = w216_a1_1), ir gG rm_P L ys (d + 1) rm_p_X1_setProduct (216, [(0, (2, ((a0 : Nat) : Int)))], [], s_216) (fun r : im_Re => r.1 = none ∧ (tI r.2 ∧ fr [(25, 1), (25, 2)] s0 r.2)) := by
    intro s_216 hT_216 hF_216 w216_a0_1 w216_a0_1l w216_a0_1h w216_a0_1e w216_a0_2 w216_a0_2l w216_a0_2h w216_a0_2e w216_a1_1 w216_a1_1l w216_a1_1h w216_a1_1e
    refine ir_l (pc' := 217) rfl rfl rfl rfl rfl rfl ?_
    refine ir_cVV (pc' := 220) rfl rfl rfl rfl rfl (Nat.le_of_ble_eq_true rfl) oo_X1_trim (gG_at a0k) (sf_trim1_25 L ys d s_216 hT_216 a0 a0k ) (fun s2 hr => ?_)
    obtain ⟨hT2, hG2⟩ := hr
    have hF2 := fr_trans hF_216 hG2 (by decide)
    have e3 : s2.1 a1 1 = w216_a1_1 := (hG2.1 _ _ a1k 1 (by decide)).trans w216_a1_1e
    exact ir_vret rfl rfl ⟨rfl, hT2, hF2⟩
  have J70 : ∀ n : Nat, ∀ (q70_l3 : Int) (q70_l3l : 0 ≤ q70_l3) (q70_l3h : q70_l3 ≤ 30) (s_70 : im_S) (hT_70 : tI s_70) (hF_70 : fr [(25, 1), (25, 2)] s0 s_70) (w70_a0_1 : Int) (w70_a0_1l : 0 ≤ w70_a0_1) (w70_a0_1h : w70_a0_1 ≤ 196) (w70_a0_1e : s_70.1 a0 1 = w70_a0_1) (w70_a0_2 : Int) (w70_a0_2l : -2147483648 ≤ w70_a0_2) (w70_a0_2h : w70_a0_2 ≤ 2147483647) (w70_a0_2e : s_70.1 a0 2 = w70_a0_2), (30 + 1 - q70_l3) ≤ (n : Int) → ir gG rm_P L ys (d + 1) rm_p_X1_setProduct (70, [(0, (2, ((a0 : Nat) : Int))), (1, (2, ((a1 : Nat) : Int))), (2, (2, ((a2 : Nat) : Int))), (3, (0, q70_l3))], [], s_70) (fun r : im_Re => r.1 = none ∧ (tI r.2 ∧ fr [(25, 1), (25, 2)] s0 r.2)) := by
    intro n
    induction n with
    | zero => intro q70_l3 q70_l3l q70_l3h s_70 hT_70 hF_70 w70_a0_1 w70_a0_1l w70_a0_1h w70_a0_1e w70_a0_2 w70_a0_2l w70_a0_2h w70_a0_2e hr; exfalso; omega
    | succ n ih70 =>
      intro q70_l3 q70_l3l q70_l3h s_70 hT_70 hF_70 w70_a0_1 w70_a0_1l w70_a0_1h w70_a0_1e w70_a0_2 w70_a0_2l w70_a0_2h w70_a0_2e hr
      have J210 : ∀ (f210_3h : q70_l3 ≤ 24) (s_210 : im_S) (hT_210 : tI s_210) (hF_210 : fr [(25, 1), (25, 2)] s0 s_210) (w210_a0_1 : Int) (w210_a0_1l : 1 ≤ w210_a0_1) (w210_a0_1h : w210_a0_1 ≤ 196) (w210_a0_1e : s_210.1 a0 1 = w210_a0_1) (w210_a0_2 : Int) (w210_a0_2l : -2147483648 ≤ w210_a0_2) (w210_a0_2h : w210_a0_2 ≤ 2147483647) (w210_a0_2e : s_210.1 a0 2 = w210_a0_2) (w210_a1_0 : Nat) (w210_a1_0k : gK[w210_a1_0]? = some 20) (w210_a1_0e : s_210.1 a1 0 = ((w210_a1_0 : Nat) : Int)) (w210_a1_1 : Int) (w210_a1_1l : 1 ≤ w210_a1_1) (w210_a1_1h : w210_a1_1 ≤ 24) (w210_a1_1e : s_210.1 a1 1 = w210_a1_1) (w210_a2_1 : Int) (w210_a2_1l : 0 ≤ w210_a2_1) (w210_a2_1h : w210_a2_1 ≤ 24) (w210_a2_1e : s_210.1 a2 1 = w210_a2_1), ir gG rm_P L ys (d + 1) rm_p_X1_setProduct (210, [(0, (2, ((a0 : Nat) : Int))), (1, (2, ((a1 : Nat) : Int))), (2, (2, ((a2 : Nat) : Int))), (3, (0, q70_l3))], [], s_210) (fun r : im_Re => r.1 = none ∧ (tI r.2 ∧ fr [(25, 1), (25, 2)] s0 r.2)) := by
        intro f210_3h s_210 hT_210 hF_210 w210_a0_1 w210_a0_1l w210_a0_1h w210_a0_1e w210_a0_2 w210_a0_2l w210_a0_2h w210_a0_2e w210_a1_0 w210_a1_0k w210_a1_0e w210_a1_1 w210_a1_1l w210_a1_1h w210_a1_1e w210_a2_1 w210_a2_1l w210_a2_1h w210_a2_1e
        refine ir_inc (pc' := 213) rfl rfl rfl rfl rfl (by omega) (by omega) ?_
        refine ir_goto (pc' := 70) rfl rfl ?_
        refine ir_w [(0, (2, ((a0 : Nat) : Int))), (1, (2, ((a1 : Nat) : Int))), (2, (2, ((a2 : Nat) : Int))), (3, (0, (q70_l3 + 1)))] ⟨rfl, rfl, rfl, rfl, trivial⟩ ?_
        exact ih70 ((q70_l3 + 1)) (by omega) (by omega) s_210 hT_210 hF_210 (w210_a0_1) (by omega) (by omega) w210_a0_1e (w210_a0_2) (by omega) (by omega) w210_a0_2e (by omega)
      have J120 : ∀ n : Nat, ∀ (q120_l4 : Int) (q120_l4l : 0 ≤ q120_l4) (q120_l4h : q120_l4 ≤ 4294967295) (q120_l6 : Int) (q120_l6l : -9223372036854775808 ≤ q120_l6) (q120_l6h : q120_l6 ≤ 9223372036854775807) (q120_l8 : Int) (q120_l8l : 0 ≤ q120_l8) (q120_l8h : q120_l8 ≤ 24) (q120_l9 : Int) (q120_l9l : 0 ≤ q120_l9) (q120_l9h : q120_l9 ≤ 24) (f120_3h : q70_l3 ≤ 24) (s_120 : im_S) (hT_120 : tI s_120) (hF_120 : fr [(25, 1), (25, 2)] s0 s_120) (w120_a0_1 : Int) (w120_a0_1l : 1 ≤ w120_a0_1) (w120_a0_1h : w120_a0_1 ≤ 196) (w120_a0_1e : s_120.1 a0 1 = w120_a0_1) (w120_a0_2 : Int) (w120_a0_2l : -2147483648 ≤ w120_a0_2) (w120_a0_2h : w120_a0_2 ≤ 2147483647) (w120_a0_2e : s_120.1 a0 2 = w120_a0_2) (w120_a1_0 : Nat) (w120_a1_0k : gK[w120_a1_0]? = some 20) (w120_a1_0e : s_120.1 a1 0 = ((w120_a1_0 : Nat) : Int)) (w120_a1_1 : Int) (w120_a1_1l : 1 ≤ w120_a1_1) (w120_a1_1h : w120_a1_1 ≤ 24) (w120_a1_1e : s_120.1 a1 1 = w120_a1_1) (w120_a2_1 : Int) (w120_a2_1l : 0 ≤ w120_a2_1) (w120_a2_1h : w120_a2_1 ≤ 24) (w120_a2_1e : s_120.1 a2 1 = w120_a2_1) (i120_0 : q70_l3 + q120_l8 ≤ w120_a0_1), (24 + 1 - q120_l9) ≤ (n : Int) → ir gG rm_P L ys (d + 1) rm_p_X1_setProduct (120, [(0, (2, ((a0 : Nat) : Int))), (1, (2, ((a1 : Nat) : Int))), (2, (2, ((a2 : Nat) : Int))), (3, (0, q70_l3)), (4, (1, q120_l4)), (6, (1, q120_l6)), (8, (0, q120_l8)), (9, (0, q120_l9))], [], s_120) (fun r : im_Re => r.1 = none ∧ (tI r.2 ∧ fr [(25, 1), (25, 2)] s0 r.2)) := by
        intro n
        induction n with
        | zero => intro q120_l4 q120_l4l q120_l4h q120_l6 q120_l6l q120_l6h q120_l8 q120_l8l q120_l8h q120_l9 q120_l9l q120_l9h f120_3h s_120 hT_120 hF_120 w120_a0_1 w120_a0_1l w120_a0_1h w120_a0_1e w120_a0_2 w120_a0_2l w120_a0_2h w120_a0_2e w120_a1_0 w120_a1_0k w120_a1_0e w120_a1_1 w120_a1_1l w120_a1_1h w120_a1_1e w120_a2_1 w120_a2_1l w120_a2_1h w120_a2_1e i120_0 hr; exfalso; omega
        | succ n ih120 =>
          intro q120_l4 q120_l4l q120_l4h q120_l6 q120_l6l q120_l6h q120_l8 q120_l8l q120_l8h q120_l9 q120_l9l q120_l9h f120_3h s_120 hT_120 hF_120 w120_a0_1 w120_a0_1l w120_a0_1h w120_a0_1e w120_a0_2 w120_a0_2l w120_a0_2h w120_a0_2e w120_a1_0 w120_a1_0k w120_a1_0e w120_a1_1 w120_a1_1l w120_a1_1h w120_a1_1e w120_a2_1 w120_a2_1l w120_a2_1h w120_a2_1e i120_0 hr
          refine ir_l (pc' := 122) rfl rfl rfl rfl rfl rfl ?_
          refine ir_l (pc' := 124) rfl rfl rfl rfl rfl rfl ?_
          refine ir_c_ge (pt := 187) (pc' := 127) rfl rfl rfl (fun c4 => ?_) (fun c4 => ?_)
          · refine ir_l (pc' := 188) rfl rfl rfl rfl rfl rfl ?_
            refine ir_l (pc' := 190) rfl rfl rfl rfl rfl rfl ?_
            refine ir_add (pc' := 191) rfl rfl (by omega) (by omega) ?_
            refine ir_l (pc' := 192) rfl rfl rfl rfl rfl rfl ?_
            refine ir_getI (pc' := 195) rfl rfl rfl (gG_at a0k) rfl (by decide) (by decide) w120_a0_1e (by omega) (by omega) ?_
            refine ir_c_ge (pt := 210) (pc' := 198) rfl rfl rfl (fun c5 => ?_) (fun c5 => ?_)
            · refine ir_w [(0, (2, ((a0 : Nat) : Int))), (1, (2, ((a1 : Nat) : Int))), (2, (2, ((a2 : Nat) : Int))), (3, (0, q70_l3))] ⟨rfl, rfl, rfl, rfl, trivial⟩ ?_
              exact J210 (by omega) s_120 hT_120 hF_120 (w120_a0_1) (by omega) (by omega) w120_a0_1e (w120_a0_2) (by omega) (by omega) w120_a0_2e w120_a1_0 w120_a1_0k w120_a1_0e (w120_a1_1) (by omega) (by omega) w120_a1_1e (w120_a2_1) (by omega) (by omega) w120_a2_1e
            · refine ir_l (pc' := 199) rfl rfl rfl rfl rfl rfl ?_
              refine ir_tgr (pc' := 202) rfl rfl rfl tf_25_0 a0k hT_120 (fun b6 b6e b6k => ?_)
              refine ir_l (pc' := 203) rfl rfl rfl rfl rfl rfl ?_
              refine ir_l (pc' := 205) rfl rfl rfl rfl rfl rfl ?_
              refine ir_add (pc' := 206) rfl rfl (by omega) (by omega) ?_
              refine ir_l (pc' := 208) rfl rfl rfl rfl rfl rfl ?_
              refine ir_j1A (pc' := 209) rfl rfl rfl rfl (fun z7 z7e z7l z7h => ?_)
              clear z7e
              refine ir_tis (pc' := 210) rfl rfl rfl rfl te_26 b6k hT_120 (by omega) (by omega) (rfl) (by omega) (by omega) (fun s8 hT8 r8 o8 => ?_)
              have hF8 := fr_row hF_120 r8 o8
              have e9 : s8.1 a0 2 = w120_a0_2 := by rw [r8]; exact w120_a0_2e
              have e10 : s8.1 a0 1 = w120_a0_1 := by rw [r8]; exact w120_a0_1e
              have e11 : s8.1 a1 1 = w120_a1_1 := by rw [r8]; exact w120_a1_1e
              have e12 : s8.1 a1 0 = ((w120_a1_0 : Nat) : Int) := by rw [r8]; exact w120_a1_0e
              have e13 : s8.1 a2 1 = w120_a2_1 := by rw [r8]; exact w120_a2_1e
              have e14 : s8.1 a0 0 = ((b6 : Nat) : Int) := by rw [r8]; exact b6e
              refine ir_w [(0, (2, ((a0 : Nat) : Int))), (1, (2, ((a1 : Nat) : Int))), (2, (2, ((a2 : Nat) : Int))), (3, (0, q70_l3))] ⟨rfl, rfl, rfl, rfl, trivial⟩ ?_
              exact J210 (by omega) s8 hT8 hF8 (w120_a0_1) (by omega) (by omega) e10 (w120_a0_2) (by omega) (by omega) e9 w120_a1_0 w120_a1_0k e12 (w120_a1_1) (by omega) (by omega) e11 (w120_a2_1) (by omega) (by omega) e13
          · refine ir_l (pc' := 129) rfl rfl rfl rfl rfl rfl ?_
            refine ir_l (pc' := 131) rfl rfl rfl rfl rfl rfl ?_
            refine ir_l (pc' := 132) rfl rfl rfl rfl rfl rfl ?_
            refine ir_tgr (pc' := 135) rfl rfl rfl tf_19_0 a2k hT_120 (fun b15 b15e b15k => ?_)
            refine ir_l (pc' := 137) rfl rfl rfl rfl rfl rfl ?_
            refine ir_tia (pc' := 138) rfl rfl te_20 (by decide) b15k hT_120 (by omega) (by omega) (fun z16 z16e z16l z16h => ?_)
            clear z16e
            refine ir_i2l (pc' := 139) rfl rfl (by omega) (by omega) ?_
            refine ir_k (pc' := 142) (v := (1, 4294967295)) rfl rfl rfl (fun _ => rfl) ?_
            refine ir_landm (pc' := 143) rfl rfl (by decide) (by decide) (fun z17 z17l z17h => ?_)
            refine ir_jjA (pc' := 144) rfl rfl rfl rfl (fun z18 z18l z18h => ?_)
            refine ir_l (pc' := 145) rfl rfl rfl rfl rfl rfl ?_
            refine ir_tgr (pc' := 148) rfl rfl rfl tf_25_0 a0k hT_120 (fun b19 b19e b19k => ?_)
            refine ir_l (pc' := 149) rfl rfl rfl rfl rfl rfl ?_
            refine ir_l (pc' := 151) rfl rfl rfl rfl rfl rfl ?_
            refine ir_add (pc' := 152) rfl rfl (by omega) (by omega) ?_
            refine ir_tia (pc' := 153) rfl rfl te_26 (by decide) b19k hT_120 (by omega) (by omega) (fun z20 z20e z20l z20h => ?_)
            clear z20e
            refine ir_i2l (pc' := 154) rfl rfl (by omega) (by omega) ?_
            refine ir_k (pc' := 157) (v := (1, 4294967295)) rfl rfl rfl (fun _ => rfl) ?_
            refine ir_landm (pc' := 158) rfl rfl (by decide) (by decide) (fun z21 z21l z21h => ?_)
            refine ir_jjA (pc' := 159) rfl rfl rfl rfl (fun z22 z22l z22h => ?_)
            refine ir_jjA (pc' := 160) rfl rfl rfl rfl (fun z23 z23l z23h => ?_)
            refine ir_s2 (pc' := 162) rfl rfl rfl rfl rfl rfl ?_
            refine ir_l (pc' := 163) rfl rfl rfl rfl rfl rfl ?_
            refine ir_getR (pc' := 166) rfl rfl rfl (gG_at a0k) rfl b19e ?_
            refine ir_l (pc' := 167) rfl rfl rfl rfl rfl rfl ?_
            refine ir_l (pc' := 169) rfl rfl rfl rfl rfl rfl ?_
            refine ir_add (pc' := 170) rfl rfl (by omega) (by omega) ?_
            refine ir_l (pc' := 172) rfl rfl rfl rfl rfl rfl ?_
            refine ir_j1A (pc' := 173) rfl rfl rfl rfl (fun z24 z24e z24l z24h => ?_)
            clear z24e
            refine ir_tis (pc' := 174) rfl rfl rfl rfl te_26 b19k hT_120 (by omega) (by omega) (rfl) (by omega) (by omega) (fun s25 hT25 r25 o25 => ?_)
            have hF25 := fr_row hF_120 r25 o25
            have e26 : s25.1 a0 2 = w120_a0_2 := by rw [r25]; exact w120_a0_2e
            have e27 : s25.1 a0 1 = w120_a0_1 := by rw [r25]; exact w120_a0_1e
            have e28 : s25.1 a1 1 = w120_a1_1 := by rw [r25]; exact w120_a1_1e
            have e29 : s25.1 a1 0 = ((w120_a1_0 : Nat) : Int) := by rw [r25]; exact w120_a1_0e
            have e30 : s25.1 a2 1 = w120_a2_1 := by rw [r25]; exact w120_a2_1e
            have e31 : s25.1 a2 0 = ((b15 : Nat) : Int) := by rw [r25]; exact b15e
            have e32 : s25.1 a0 0 = ((b19 : Nat) : Int) := by rw [r25]; exact b19e
            refine ir_l (pc' := 176) rfl rfl rfl rfl rfl rfl ?_
            refine ir_k (pc' := 178) (v := (0, 32)) rfl rfl rfl (fun _ => rfl) ?_
            refine ir_jijA (pc' := 179) rfl rfl rfl rfl (fun z33 z33l z33h => ?_)
            refine ir_s2 (pc' := 181) rfl rfl rfl rfl rfl rfl ?_
            refine ir_inc (pc' := 184) rfl rfl rfl rfl rfl (by omega) (by omega) ?_
            refine ir_goto (pc' := 120) rfl rfl ?_
            refine ir_w [(0, (2, ((a0 : Nat) : Int))), (1, (2, ((a1 : Nat) : Int))), (2, (2, ((a2 : Nat) : Int))), (3, (0, q70_l3)), (4, (1, q120_l4)), (6, (1, z33)), (8, (0, q120_l8)), (9, (0, (q120_l9 + 1)))] ⟨rfl, rfl, rfl, rfl, rfl, rfl, rfl, rfl, trivial⟩ ?_
            exact ih120 (q120_l4) (by omega) (by omega) (z33) (by omega) (by omega) (q120_l8) (by omega) (by omega) ((q120_l9 + 1)) (by omega) (by omega) (by omega) s25 hT25 hF25 (w120_a0_1) (by omega) (by omega) e27 (w120_a0_2) (by omega) (by omega) e26 w120_a1_0 w120_a1_0k e29 (w120_a1_1) (by omega) (by omega) e28 (w120_a2_1) (by omega) (by omega) e30 (by omega) (by omega)
      refine ir_l (pc' := 71) rfl rfl rfl rfl rfl rfl ?_
      refine ir_l (pc' := 72) rfl rfl rfl rfl rfl rfl ?_
      refine ir_tgi (pc' := 75) rfl rfl rfl tf_19_1 a1k hT_70 (fun z34 z34e z34l z34h => ?_)
      refine ir_c_ge (pt := 216) (pc' := 78) rfl rfl rfl (fun c35 => ?_) (fun c35 => ?_)
      · refine ir_w [(0, (2, ((a0 : Nat) : Int)))] ⟨rfl, trivial⟩ ?_
        exact J216 s_70 hT_70 hF_70 (w70_a0_1) (by omega) (by omega) w70_a0_1e (w70_a0_2) (by omega) (by omega) w70_a0_2e (z34) (by omega) (by omega) z34e
      · refine ir_l (pc' := 79) rfl rfl rfl rfl rfl rfl ?_
        refine ir_l (pc' := 80) rfl rfl rfl rfl rfl rfl ?_
        refine ir_getI (pc' := 83) rfl rfl rfl (gG_at a0k) rfl (by decide) (by decide) w70_a0_1e (by omega) (by omega) ?_
        refine ir_c_ge (pt := 216) (pc' := 86) rfl rfl rfl (fun c36 => ?_) (fun c36 => ?_)
        · refine ir_w [(0, (2, ((a0 : Nat) : Int)))] ⟨rfl, trivial⟩ ?_
          exact J216 s_70 hT_70 hF_70 (w70_a0_1) (by omega) (by omega) w70_a0_1e (w70_a0_2) (by omega) (by omega) w70_a0_2e (z34) (by omega) (by omega) z34e
        · refine ir_l (pc' := 87) rfl rfl rfl rfl rfl rfl ?_
          refine ir_tgr (pc' := 90) rfl rfl rfl tf_19_0 a1k hT_70 (fun b37 b37e b37k => ?_)
          refine ir_l (pc' := 91) rfl rfl rfl rfl rfl rfl ?_
          refine ir_tia (pc' := 92) rfl rfl te_20 (by decide) b37k hT_70 (by omega) (by omega) (fun z38 z38e z38l z38h => ?_)
          clear z38e
          refine ir_i2l (pc' := 93) rfl rfl (by omega) (by omega) ?_
          refine ir_k (pc' := 96) (v := (1, 4294967295)) rfl rfl rfl (fun _ => rfl) ?_
          refine ir_landm (pc' := 97) rfl rfl (by decide) (by decide) (fun z39 z39l z39h => ?_)
          refine ir_s2 (pc' := 99) rfl rfl rfl rfl rfl rfl ?_
          refine ir_k (pc' := 100) (v := (1, 0)) rfl rfl rfl (fun _ => rfl) ?_
          refine ir_s2 (pc' := 102) rfl rfl rfl rfl rfl rfl ?_
          refine ir_l (pc' := 103) rfl rfl rfl rfl rfl rfl ?_
          refine ir_tgi (pc' := 106) rfl rfl rfl tf_19_1 a2k hT_70 (fun z40 z40e z40l z40h => ?_)
          refine ir_l (pc' := 107) rfl rfl rfl rfl rfl rfl ?_
          refine ir_getI (pc' := 110) rfl rfl rfl (gG_at a0k) rfl (by decide) (by decide) w70_a0_1e (by omega) (by omega) ?_
          refine ir_l (pc' := 111) rfl rfl rfl rfl rfl rfl ?_
          refine ir_sub (pc' := 112) rfl rfl (by omega) (by omega) ?_
          refine ir_cSI (pc' := 115) rfl rfl rfl rfl rfl rfl (Nat.le_of_ble_eq_true rfl) (sf_min L ys d s_70 (z40) (by omega) (by omega) ((w70_a0_1 - q70_l3)) (by omega) (by omega)) (fun z41 s42 hr => ?_)
          obtain ⟨rfl, z41p0, z41p1, z41p2⟩ := hr
          refine ir_s (pc' := 117) rfl rfl rfl rfl rfl rfl ?_
          refine ir_k (pc' := 118) (v := (0, 0)) rfl rfl rfl (fun _ => rfl) ?_
          refine ir_s (pc' := 120) rfl rfl rfl rfl rfl rfl ?_
          refine ir_w [(0, (2, ((a0 : Nat) : Int))), (1, (2, ((a1 : Nat) : Int))), (2, (2, ((a2 : Nat) : Int))), (3, (0, q70_l3)), (4, (1, z39)), (6, (1, 0)), (8, (0, z41)), (9, (0, 0))] ⟨rfl, rfl, rfl, rfl, rfl, rfl, rfl, rfl, trivial⟩ ?_
          exact J120 _ (z39) (by omega) (by omega) (0) (by omega) (by omega) (z41) (by omega) (by omega) (0) (by omega) (by omega) (by omega) s_70 hT_70 hF_70 (w70_a0_1) (by omega) (by omega) w70_a0_1e (w70_a0_2) (by omega) (by omega) w70_a0_2e b37 b37k b37e (z34) (by omega) (by omega) z34e (z40) (by omega) (by omega) z40e (by omega) (Int.self_le_toNat _)
  have J47 : ∀ n : Nat, ∀ (q47_l3 : Int) (q47_l3l : 0 ≤ q47_l3) (q47_l3h : q47_l3 ≤ 196) (s_47 : im_S) (hT_47 : tI s_47) (hF_47 : fr [(25, 1), (25, 2)] s0 s_47) (w47_a0_2 : Int) (w47_a0_2l : -2147483648 ≤ w47_a0_2) (w47_a0_2h : w47_a0_2 ≤ 2147483647) (w47_a0_2e : s_47.1 a0 2 = w47_a0_2), (196 + 1 - q47_l3) ≤ (n : Int) → ir gG rm_P L ys (d + 1) rm_p_X1_setProduct (47, [(0, (2, ((a0 : Nat) : Int))), (1, (2, ((a1 : Nat) : Int))), (2, (2, ((a2 : Nat) : Int))), (3, (0, q47_l3))], [], s_47) (fun r : im_Re => r.1 = none ∧ (tI r.2 ∧ fr [(25, 1), (25, 2)] s0 r.2)) := by
    intro n
    induction n with
    | zero => intro q47_l3 q47_l3l q47_l3h s_47 hT_47 hF_47 w47_a0_2 w47_a0_2l w47_a0_2h w47_a0_2e hr; exfalso; omega
    | succ n ih47 =>
      intro q47_l3 q47_l3l q47_l3h s_47 hT_47 hF_47 w47_a0_2 w47_a0_2l w47_a0_2h w47_a0_2e hr
      refine ir_l (pc' := 48) rfl rfl rfl rfl rfl rfl ?_
      refine ir_l (pc' := 49) rfl rfl rfl rfl rfl rfl ?_
      refine ir_tgi (pc' := 52) rfl rfl rfl tf_25_1 a0k hT_47 (fun z43 z43e z43l z43h => ?_)
      refine ir_c_ge (pt := 68) (pc' := 55) rfl rfl rfl (fun c44 => ?_) (fun c44 => ?_)
      · refine ir_k (pc' := 69) (v := (0, 0)) rfl rfl rfl (fun _ => rfl) ?_
        refine ir_s (pc' := 70) rfl rfl rfl rfl rfl rfl ?_
        refine ir_w [(0, (2, ((a0 : Nat) : Int))), (1, (2, ((a1 : Nat) : Int))), (2, (2, ((a2 : Nat) : Int))), (3, (0, 0))] ⟨rfl, rfl, rfl, rfl, trivial⟩ ?_
        exact J70 _ (0) (by omega) (by omega) s_47 hT_47 hF_47 (z43) (by omega) (by omega) z43e (w47_a0_2) (by omega) (by omega) w47_a0_2e (Int.self_le_toNat _)
      · refine ir_l (pc' := 56) rfl rfl rfl rfl rfl rfl ?_
        refine ir_tgr (pc' := 59) rfl rfl rfl tf_25_0 a0k hT_47 (fun b45 b45e b45k => ?_)
        refine ir_l (pc' := 60) rfl rfl rfl rfl rfl rfl ?_
        refine ir_k (pc' := 61) (v := (0, 0)) rfl rfl rfl (fun _ => rfl) ?_
        refine ir_tis (pc' := 62) rfl rfl rfl rfl te_26 b45k hT_47 (by omega) (by omega) (rfl) (by omega) (by omega) (fun s46 hT46 r46 o46 => ?_)
        have hF46 := fr_row hF_47 r46 o46
        have e47 : s46.1 a0 2 = w47_a0_2 := by rw [r46]; exact w47_a0_2e
        have e48 : s46.1 a0 1 = z43 := by rw [r46]; exact z43e
        have e49 : s46.1 a0 0 = ((b45 : Nat) : Int) := by rw [r46]; exact b45e
        refine ir_inc (pc' := 65) rfl rfl rfl rfl rfl (by omega) (by omega) ?_
        refine ir_goto (pc' := 47) rfl rfl ?_
        refine ir_w [(0, (2, ((a0 : Nat) : Int))), (1, (2, ((a1 : Nat) : Int))), (2, (2, ((a2 : Nat) : Int))), (3, (0, (q47_l3 + 1)))] ⟨rfl, rfl, rfl, rfl, trivial⟩ ?_
        exact ih47 ((q47_l3 + 1)) (by omega) (by omega) s46 hT46 hF46 (w47_a0_2) (by omega) (by omega) e47 (by omega)
  have J42 : ∀ (q42_s0 : Nat) (q42_s0k : gK[q42_s0]? = some 25) (q42_s1 : Int) (q42_s1l : 0 ≤ q42_s1) (q42_s1h : q42_s1 ≤ 48) (s_42 : im_S) (hT_42 : tI s_42) (hF_42 : fr [(25, 1), (25, 2)] s0 s_42) (w42_a0_2 : Int) (w42_a0_2l : -2147483648 ≤ w42_a0_2) (w42_a0_2h : w42_a0_2 ≤ 2147483647) (w42_a0_2e : s_42.1 a0 2 = w42_a0_2), ir gG rm_P L ys (d + 1) rm_p_X1_setProduct (42, [(0, (2, ((a0 : Nat) : Int))), (1, (2, ((a1 : Nat) : Int))), (2, (2, ((a2 : Nat) : Int)))], [(0, q42_s1), (2, ((q42_s0 : Nat) : Int))], s_42) (fun r : im_Re => r.1 = none ∧ (tI r.2 ∧ fr [(25, 1), (25, 2)] s0 r.2)) := by
    intro q42_s0 q42_s0k q42_s1 q42_s1l q42_s1h s_42 hT_42 hF_42 w42_a0_2 w42_a0_2l w42_a0_2h w42_a0_2e
    refine ir_tpi (pc' := 45) rfl rfl rfl tf_25_1 rfl q42_s0k hT_42 rfl (by omega) (by omega) (fun s50 hT50 e50 g50 r50 => ?_)
    have hF50 := fr_put (k := 25) hF_42 (by decide) q42_s0k g50 r50
    have e51 : s50.1 a0 2 = w42_a0_2 := (g50 a0 2 (fun z => absurd z.2 (by decide))).trans w42_a0_2e
    refine ir_k (pc' := 46) (v := (0, 0)) rfl rfl rfl (fun _ => rfl) ?_
    refine ir_s (pc' := 47) rfl rfl rfl rfl rfl rfl ?_
    refine ir_w [(0, (2, ((a0 : Nat) : Int))), (1, (2, ((a1 : Nat) : Int))), (2, (2, ((a2 : Nat) : Int))), (3, (0, 0))] ⟨rfl, rfl, rfl, rfl, trivial⟩ ?_
    exact J47 _ (0) (by omega) (by omega) s50 hT50 hF50 (w42_a0_2) (by omega) (by omega) e51 (Int.self_le_toNat _)
  refine ir_l (pc' := 1) rfl rfl rfl rfl rfl rfl ?_
  refine ir_l (pc' := 2) rfl rfl rfl rfl rfl rfl ?_
  refine ir_tgi (pc' := 5) rfl rfl rfl tf_19_2 a1k hT0 (fun z52 z52e z52l z52h => ?_)
  refine ir_l (pc' := 6) rfl rfl rfl rfl rfl rfl ?_
  refine ir_tgi (pc' := 9) rfl rfl rfl tf_19_2 a2k hT0 (fun z53 z53e z53l z53h => ?_)
  refine ir_iiA (pc' := 10) rfl rfl rfl rfl (fun z54 z54l z54h => ?_)
  refine ir_tpi (pc' := 13) rfl rfl rfl tf_25_2 rfl a0k hT0 rfl (by omega) (by omega) (fun s55 hT55 e55 g55 r55 => ?_)
  have hF55 := fr_put (k := 25) hF0 (by decide) a0k g55 r55
  refine ir_l (pc' := 14) rfl rfl rfl rfl rfl rfl ?_
  refine ir_l (pc' := 15) rfl rfl rfl rfl rfl rfl ?_
  refine ir_getI (pc' := 18) rfl rfl rfl (gG_at a0k) rfl (by decide) (by decide) e55 (by omega) (by omega) ?_
  refine ir_z_ne (pt := 25) (pc' := 21) rfl rfl rfl (fun c56 => ?_) (fun c56 => ?_)
  · refine ir_l (pc' := 26) rfl rfl rfl rfl rfl rfl ?_
    refine ir_tgi (pc' := 29) rfl rfl rfl tf_19_1 a1k hT55 (fun z57 z57e z57l z57h => ?_)
    refine ir_l (pc' := 30) rfl rfl rfl rfl rfl rfl ?_
    refine ir_tgi (pc' := 33) rfl rfl rfl tf_19_1 a2k hT55 (fun z58 z58e z58l z58h => ?_)
    refine ir_add (pc' := 34) rfl rfl (by omega) (by omega) ?_
    refine ir_l (pc' := 35) rfl rfl rfl rfl rfl rfl ?_
    refine ir_tgr (pc' := 38) rfl rfl rfl tf_25_0 a0k hT55 (fun b59 b59e b59k => ?_)
    refine ir_tlen (pc' := 39) rfl rfl te_26 (by decide) b59k ?_
    refine ir_cSI (pc' := 42) rfl rfl rfl rfl rfl rfl (Nat.le_of_ble_eq_true rfl) (sf_min L ys d s55 ((z57 + z58)) (by omega) (by omega) (((196 : Nat) : Int)) (by omega) (by omega)) (fun z60 s61 hr => ?_)
    obtain ⟨rfl, z60p0, z60p1, z60p2⟩ := hr
    refine ir_w [(0, (2, ((a0 : Nat) : Int))), (1, (2, ((a1 : Nat) : Int))), (2, (2, ((a2 : Nat) : Int)))] ⟨rfl, rfl, rfl, trivial⟩ ?_
    exact J42 a0 a0k (z60) (by omega) (by omega) s55 hT55 hF55 (z54) (by omega) (by omega) e55
  · refine ir_k (pc' := 22) (v := (0, 0)) rfl rfl rfl (fun _ => rfl) ?_
    refine ir_goto (pc' := 42) rfl rfl ?_
    refine ir_w [(0, (2, ((a0 : Nat) : Int))), (1, (2, ((a1 : Nat) : Int))), (2, (2, ((a2 : Nat) : Int)))] ⟨rfl, rfl, rfl, trivial⟩ ?_
    exact J42 a0 a0k (0) (by omega) (by omega) s55 hT55 hF55 (z54) (by omega) (by omega) e55
theorem sf_copy1_25_19 (L : Nat) (ys : Nat → Int32) (d : Nat) (s0 : im_S) (hT0 : tI s0) (a0 : Nat) (a0k : gK[a0]? = some 25) (a1 : Nat) (a1k : gK[a1]? = some 19) : icV gG rm_P L ys (d + 2) 111 [(2, (a0 : Int)), (2, (a1 : Int))] s0 (fun s => tI s ∧ fr [(25, 1), (25, 2)] s0 s) := by
  refine ic_startM (M := rm_p_X1_copy) om_X1_copy (Nat.le_of_ble_eq_true rfl) ?_
  refine ir_w [(0, (2, ((a0 : Nat) : Int))), (1, (2, ((a1 : Nat) : Int)))] ⟨rfl, rfl, trivial⟩ ?_
  have hF0 := fr_refl [(25, 1), (25, 2)] s0
  refine ir_l (pc' := 1) rfl rfl rfl rfl rfl rfl ?_
  refine ir_l (pc' := 2) rfl rfl rfl rfl rfl rfl ?_
  refine ir_tgi (pc' := 5) rfl rfl rfl tf_19_1 a1k hT0 (fun z1 z1e z1l z1h => ?_)
  refine ir_l (pc' := 6) rfl rfl rfl rfl rfl rfl ?_
  refine ir_tgr (pc' := 9) rfl rfl rfl tf_25_0 a0k hT0 (fun b2 b2e b2k => ?_)
  refine ir_tlen (pc' := 10) rfl rfl te_26 (by decide) b2k ?_
  refine ir_cSI (pc' := 13) rfl rfl rfl rfl rfl rfl (Nat.le_of_ble_eq_true rfl) (sf_min L ys d s0 (z1) (by omega) (by omega) (((196 : Nat) : Int)) (by omega) (by omega)) (fun z3 s4 hr => ?_)
  obtain ⟨rfl, z3p0, z3p1, z3p2⟩ := hr
  refine ir_tpi (pc' := 16) rfl rfl rfl tf_25_1 rfl a0k hT0 rfl (by omega) (by omega) (fun s5 hT5 e5 g5 r5 => ?_)
  have hF5 := fr_put (k := 25) hF0 (by decide) a0k g5 r5
  have e6 : s5.1 a0 0 = ((b2 : Nat) : Int) := (g5 a0 0 (fun z => absurd z.2 (by decide))).trans b2e
  refine ir_l (pc' := 17) rfl rfl rfl rfl rfl rfl ?_
  refine ir_tgr (pc' := 20) rfl rfl rfl tf_19_0 a1k hT5 (fun b7 b7e b7k => ?_)
  refine ir_k (pc' := 21) (v := (0, 0)) rfl rfl rfl (fun _ => rfl) ?_
  refine ir_l (pc' := 22) rfl rfl rfl rfl rfl rfl ?_
  refine ir_getR (pc' := 25) rfl rfl rfl (gG_at a0k) rfl e6 ?_
  refine ir_k (pc' := 26) (v := (0, 0)) rfl rfl rfl (fun _ => rfl) ?_
  refine ir_l (pc' := 27) rfl rfl rfl rfl rfl rfl ?_
  refine ir_getI (pc' := 30) rfl rfl rfl (gG_at a0k) rfl (by decide) (by decide) e5 (by omega) (by omega) ?_
  refine ir_tcp (pc' := 33) rfl rfl rfl te_20 te_26 b7k b2k hT5 (by omega) (by omega) (by omega) (by omega) (by omega) (Nat.le_of_ble_eq_true rfl) (fun s8 hT8 r8 o8 => ?_)
  have hF8 := fr_row hF5 r8 o8
  have e9 : s8.1 a0 0 = ((b2 : Nat) : Int) := by rw [r8]; exact e6
  have e10 : s8.1 a0 1 = z3 := by rw [r8]; exact e5
  have e11 : s8.1 a1 0 = ((b7 : Nat) : Int) := by rw [r8]; exact b7e
  refine ir_l (pc' := 34) rfl rfl rfl rfl rfl rfl ?_
  refine ir_l (pc' := 35) rfl rfl rfl rfl rfl rfl ?_
  refine ir_tgi (pc' := 38) rfl rfl rfl tf_19_2 a1k hT8 (fun z12 z12e z12l z12h => ?_)
  refine ir_tpi (pc' := 41) rfl rfl rfl tf_25_2 rfl a0k hT8 rfl (by omega) (by omega) (fun s13 hT13 e13 g13 r13 => ?_)
  have hF13 := fr_put (k := 25) hF8 (by decide) a0k g13 r13
  have e14 : s13.1 a0 0 = ((b2 : Nat) : Int) := (g13 a0 0 (fun z => absurd z.2 (by decide))).trans e9
  have e15 : s13.1 a0 1 = z3 := (g13 a0 1 (fun z => absurd z.2 (by decide))).trans e10
  have e16 : s13.1 a1 0 = ((b7 : Nat) : Int) := (g13 a1 0 (fun z => absurd z.2 (by decide))).trans e11
  exact ir_vret rfl rfl ⟨rfl, hT13, hF13⟩
theorem sf_grow1_25_19 (L : Nat) (ys : Nat → Int32) (d : Nat) (s0 : im_S) (hT0 : tI s0) (a0 : Nat) (a0k : gK[a0]? = some 25) (a1 : Nat) (a1k : gK[a1]? = some 19) : icV gG rm_P L ys (d + 2) 112 [(2, (a0 : Int)), (2, (a1 : Int))] s0 (fun s => tI s ∧ fr [(25, 1)] s0 s) := by
  refine ic_startM (M := rm_p_X1_grow) om_X1_grow (Nat.le_of_ble_eq_true rfl) ?_
  refine ir_w [(0, (2, ((a0 : Nat) : Int))), (1, (2, ((a1 : Nat) : Int)))] ⟨rfl, rfl, trivial⟩ ?_
  have hF0 := fr_refl [(25, 1)] s0
  have J179 : ∀ (s_179 : im_S) (hT_179 : tI s_179) (hF_179 : fr [(25, 1)] s0 s_179) (w179_a0_0 : Nat) (w179_a0_0k : gK[w179_a0_0]? = some 26) (w179_a0_0e : s_179.1 a0 0 = ((w179_a0_0 : Nat) : Int)) (w179_a0_1 : Int) (w179_a0_1l : 0 ≤ w179_a0_1) (w179_a0_1h : w179_a0_1 ≤ 196) (w179_a0_1e : s_179.1 a0 1 = w179_a0_1), ir gG rm_P L ys (d + 1) rm_p_X1_grow (179, [], [], s_179) (fun r : im_Re => r.1 = none ∧ (tI r.2 ∧ fr [(25, 1)] s0 r.2)) := by
    intro s_179 hT_179 hF_179 w179_a0_0 w179_a0_0k w179_a0_0e w179_a0_1 w179_a0_1l w179_a0_1h w179_a0_1e
    exact ir_vret rfl rfl ⟨rfl, hT_179, hF_179⟩
  have J100 : ∀ n : Nat, ∀ (q100_l2 : Int) (q100_l2l : -9223372036854775808 ≤ q100_l2) (q100_l2h : q100_l2 ≤ 9223372036854775807) (q100_l5 : Int) (q100_l5l : 0 ≤ q100_l5) (q100_l5h : q100_l5 ≤ 196) (s_100 : im_S) (hT_100 : tI s_100) (hF_100 : fr [(25, 1)] s0 s_100) (w100_a0_0 : Nat) (w100_a0_0k : gK[w100_a0_0]? = some 26) (w100_a0_0e : s_100.1 a0 0 = ((w100_a0_0 : Nat) : Int)) (w100_a0_1 : Int) (w100_a0_1l : 0 ≤ w100_a0_1) (w100_a0_1h : w100_a0_1 ≤ 196) (w100_a0_1e : s_100.1 a0 1 = w100_a0_1), (196 + 1 - q100_l5) ≤ (n : Int) → ir gG rm_P L ys (d + 1) rm_p_X1_grow (100, [(0, (2, ((a0 : Nat) : Int))), (2, (1, q100_l2)), (5, (0, q100_l5))], [], s_100) (fun r : im_Re => r.1 = none ∧ (tI r.2 ∧ fr [(25, 1)] s0 r.2)) := by
    intro n
    induction n with
    | zero => intro q100_l2 q100_l2l q100_l2h q100_l5 q100_l5l q100_l5h s_100 hT_100 hF_100 w100_a0_0 w100_a0_0k w100_a0_0e w100_a0_1 w100_a0_1l w100_a0_1h w100_a0_1e hr; exfalso; omega
    | succ n ih100 =>
      intro q100_l2 q100_l2l q100_l2h q100_l5 q100_l5l q100_l5h s_100 hT_100 hF_100 w100_a0_0 w100_a0_0k w100_a0_0e w100_a0_1 w100_a0_1l w100_a0_1h w100_a0_1e hr
      have J142 : ∀ (q142_s0 : Int) (q142_s0l : -9223372036854775808 ≤ q142_s0) (q142_s0h : q142_s0 ≤ 9223372036854775807) (q142_s0n : q142_s0 ≠ 0) (q142_s1 : Int) (q142_s1l : 0 ≤ q142_s1) (q142_s1h : q142_s1 ≤ 4294967295) (f142_5h : q100_l5 ≤ 195) (s_142 : im_S) (hT_142 : tI s_142) (hF_142 : fr [(25, 1)] s0 s_142) (w142_a0_0 : Nat) (w142_a0_0k : gK[w142_a0_0]? = some 26) (w142_a0_0e : s_142.1 a0 0 = ((w142_a0_0 : Nat) : Int)) (w142_a0_1 : Int) (w142_a0_1l : 0 ≤ w142_a0_1) (w142_a0_1h : w142_a0_1 ≤ 196) (w142_a0_1e : s_142.1 a0 1 = w142_a0_1), ir gG rm_P L ys (d + 1) rm_p_X1_grow (142, [(0, (2, ((a0 : Nat) : Int))), (5, (0, q100_l5))], [(1, q142_s1), (1, q142_s0)], s_142) (fun r : im_Re => r.1 = none ∧ (tI r.2 ∧ fr [(25, 1)] s0 r.2)) := by
        intro q142_s0 q142_s0l q142_s0h q142_s0n q142_s1 q142_s1l q142_s1h f142_5h s_142 hT_142 hF_142 w142_a0_0 w142_a0_0k w142_a0_0e w142_a0_1 w142_a0_1l w142_a0_1h w142_a0_1e
        refine ir_jjA (pc' := 143) rfl rfl rfl rfl (fun z1 z1l z1h => ?_)
        refine ir_s2 (pc' := 144) rfl rfl rfl rfl rfl rfl ?_
        refine ir_l (pc' := 145) rfl rfl rfl rfl rfl rfl ?_
        refine ir_getR (pc' := 148) rfl rfl rfl (gG_at a0k) rfl w142_a0_0e ?_
        refine ir_l (pc' := 150) rfl rfl rfl rfl rfl rfl ?_
        refine ir_l (pc' := 151) rfl rfl rfl rfl rfl rfl ?_
        refine ir_j1A (pc' := 152) rfl rfl rfl rfl (fun z2 z2e z2l z2h => ?_)
        clear z2e
        refine ir_tis (pc' := 153) rfl rfl rfl rfl te_26 w142_a0_0k hT_142 (by omega) (by omega) (rfl) (by omega) (by omega) (fun s3 hT3 r3 o3 => ?_)
        have hF3 := fr_row hF_142 r3 o3
        have e4 : s3.1 a0 0 = ((w142_a0_0 : Nat) : Int) := by rw [r3]; exact w142_a0_0e
        have e5 : s3.1 a0 1 = w142_a0_1 := by rw [r3]; exact w142_a0_1e
        refine ir_l (pc' := 154) rfl rfl rfl rfl rfl rfl ?_
        refine ir_k (pc' := 156) (v := (0, 32)) rfl rfl rfl (fun _ => rfl) ?_
        refine ir_jijA (pc' := 157) rfl rfl rfl rfl (fun z6 z6l z6h => ?_)
        refine ir_s2 (pc' := 158) rfl rfl rfl rfl rfl rfl ?_
        refine ir_l (pc' := 159) rfl rfl rfl rfl rfl rfl ?_
        refine ir_l (pc' := 160) rfl rfl rfl rfl rfl rfl ?_
        refine ir_getI (pc' := 163) rfl rfl rfl (gG_at a0k) rfl (by decide) (by decide) e5 (by omega) (by omega) ?_
        refine ir_l (pc' := 165) rfl rfl rfl rfl rfl rfl ?_
        refine ir_k (pc' := 166) (v := (0, 1)) rfl rfl rfl (fun _ => rfl) ?_
        refine ir_add (pc' := 167) rfl rfl (by omega) (by omega) ?_
        refine ir_cSI (pc' := 170) rfl rfl rfl rfl rfl rfl (Nat.le_of_ble_eq_true rfl) (sf_max L ys d s3 (w142_a0_1) (by omega) (by omega) ((q100_l5 + 1)) (by omega) (by omega)) (fun z7 s8 hr => ?_)
        obtain ⟨rfl, z7p0, z7p1, z7p2⟩ := hr
        refine ir_tpi (pc' := 173) rfl rfl rfl tf_25_1 rfl a0k hT3 rfl (by omega) (by omega) (fun s9 hT9 e9 g9 r9 => ?_)
        have hF9 := fr_put (k := 25) hF3 (by decide) a0k g9 r9
        have e10 : s9.1 a0 0 = ((w142_a0_0 : Nat) : Int) := (g9 a0 0 (fun z => absurd z.2 (by decide))).trans e4
        refine ir_inc (pc' := 176) rfl rfl rfl rfl rfl (by omega) (by omega) ?_
        refine ir_goto (pc' := 100) rfl rfl ?_
        refine ir_w [(0, (2, ((a0 : Nat) : Int))), (2, (1, z6)), (5, (0, (q100_l5 + 1)))] ⟨rfl, rfl, rfl, trivial⟩ ?_
        exact ih100 (z6) (by omega) (by omega) ((q100_l5 + 1)) (by omega) (by omega) s9 hT9 hF9 w142_a0_0 w142_a0_0k e10 (z7) (by omega) (by omega) e9 (by omega)
      refine ir_l (pc' := 101) rfl rfl rfl rfl rfl rfl ?_
      refine ir_k (pc' := 102) (v := (1, 0)) rfl rfl rfl (fun _ => rfl) ?_
      refine ir_lcmp (pc' := 103) rfl rfl (by omega) (by omega) (by omega) (by omega) (fun z11 z11c => ?_)
      refine ir_z_eq (pt := 179) (pc' := 106) rfl rfl rfl (fun c12 => ?_) (fun c12 => ?_)
      · refine ir_w [] trivial ?_
        exact J179 s_100 hT_100 hF_100 w100_a0_0 w100_a0_0k w100_a0_0e (w100_a0_1) (by omega) (by omega) w100_a0_1e
      · refine ir_l (pc' := 108) rfl rfl rfl rfl rfl rfl ?_
        refine ir_l (pc' := 109) rfl rfl rfl rfl rfl rfl ?_
        refine ir_getR (pc' := 112) rfl rfl rfl (gG_at a0k) rfl w100_a0_0e ?_
        refine ir_tlen (pc' := 113) rfl rfl te_26 (by decide) w100_a0_0k ?_
        refine ir_c_ge (pt := 179) (pc' := 116) rfl rfl rfl (fun c13 => ?_) (fun c13 => ?_)
        · refine ir_w [] trivial ?_
          exact J179 s_100 hT_100 hF_100 w100_a0_0 w100_a0_0k w100_a0_0e (w100_a0_1) (by omega) (by omega) w100_a0_1e
        · refine ir_l (pc' := 117) rfl rfl rfl rfl rfl rfl ?_
          refine ir_l (pc' := 119) rfl rfl rfl rfl rfl rfl ?_
          refine ir_l (pc' := 120) rfl rfl rfl rfl rfl rfl ?_
          refine ir_getI (pc' := 123) rfl rfl rfl (gG_at a0k) rfl (by decide) (by decide) w100_a0_1e (by omega) (by omega) ?_
          refine ir_c_ge (pt := 141) (pc' := 126) rfl rfl rfl (fun c14 => ?_) (fun c14 => ?_)
          · refine ir_k (pc' := 142) (v := (1, 0)) rfl rfl rfl (fun _ => rfl) ?_
            refine ir_w [(0, (2, ((a0 : Nat) : Int))), (5, (0, q100_l5))] ⟨rfl, rfl, trivial⟩ ?_
            exact J142 (q100_l2) (by omega) (by omega) (by omega) (0) (by omega) (by omega) (by omega) s_100 hT_100 hF_100 w100_a0_0 w100_a0_0k w100_a0_0e (w100_a0_1) (by omega) (by omega) w100_a0_1e
          · refine ir_l (pc' := 127) rfl rfl rfl rfl rfl rfl ?_
            refine ir_getR (pc' := 130) rfl rfl rfl (gG_at a0k) rfl w100_a0_0e ?_
            refine ir_l (pc' := 132) rfl rfl rfl rfl rfl rfl ?_
            refine ir_tia (pc' := 133) rfl rfl te_26 (by decide) w100_a0_0k hT_100 (by omega) (by omega) (fun z15 z15e z15l z15h => ?_)
            clear z15e
            refine ir_i2l (pc' := 134) rfl rfl (by omega) (by omega) ?_
            refine ir_k (pc' := 137) (v := (1, 4294967295)) rfl rfl rfl (fun _ => rfl) ?_
            refine ir_landm (pc' := 138) rfl rfl (by decide) (by decide) (fun z16 z16l z16h => ?_)
            refine ir_goto (pc' := 142) rfl rfl ?_
            refine ir_w [(0, (2, ((a0 : Nat) : Int))), (5, (0, q100_l5))] ⟨rfl, rfl, trivial⟩ ?_
            exact J142 (q100_l2) (by omega) (by omega) (by omega) (z16) (by omega) (by omega) (by omega) s_100 hT_100 hF_100 w100_a0_0 w100_a0_0k w100_a0_0e (w100_a0_1) (by omega) (by omega) w100_a0_1e
  have J19 : ∀ n : Nat, ∀ (q19_l2 : Int) (q19_l2l : -9223372036854775808 ≤ q19_l2) (q19_l2h : q19_l2 ≤ 9223372036854775807) (q19_l4 : Int) (q19_l4l : 0 ≤ q19_l4) (q19_l4h : q19_l4 ≤ 24) (q19_l5 : Int) (q19_l5l : 0 ≤ q19_l5) (q19_l5h : q19_l5 ≤ 24) (s_19 : im_S) (hT_19 : tI s_19) (hF_19 : fr [(25, 1)] s0 s_19) (w19_a0_0 : Nat) (w19_a0_0k : gK[w19_a0_0]? = some 26) (w19_a0_0e : s_19.1 a0 0 = ((w19_a0_0 : Nat) : Int)) (w19_a1_1 : Int) (w19_a1_1l : 0 ≤ w19_a1_1) (w19_a1_1h : w19_a1_1 ≤ 24) (w19_a1_1e : s_19.1 a1 1 = w19_a1_1), (24 + 1 - q19_l5) ≤ (n : Int) → ir gG rm_P L ys (d + 1) rm_p_X1_grow (19, [(0, (2, ((a0 : Nat) : Int))), (1, (2, ((a1 : Nat) : Int))), (2, (1, q19_l2)), (4, (0, q19_l4)), (5, (0, q19_l5))], [], s_19) (fun r : im_Re => r.1 = none ∧ (tI r.2 ∧ fr [(25, 1)] s0 r.2)) := by
    intro n
    induction n with
    | zero => intro q19_l2 q19_l2l q19_l2h q19_l4 q19_l4l q19_l4h q19_l5 q19_l5l q19_l5h s_19 hT_19 hF_19 w19_a0_0 w19_a0_0k w19_a0_0e w19_a1_1 w19_a1_1l w19_a1_1h w19_a1_1e hr; exfalso; omega
    | succ n ih19 =>
      intro q19_l2 q19_l2l q19_l2h q19_l4 q19_l4l q19_l4h q19_l5 q19_l5l q19_l5h s_19 hT_19 hF_19 w19_a0_0 w19_a0_0k w19_a0_0e w19_a1_1 w19_a1_1l w19_a1_1h w19_a1_1e hr
      have J64 : ∀ (q64_s0 : Int) (q64_s0l : -9223372036854775808 ≤ q64_s0) (q64_s0h : q64_s0 ≤ 9223372036854775807) (q64_s1 : Int) (q64_s1l : 0 ≤ q64_s1) (q64_s1h : q64_s1 ≤ 4294967295) (q64_s2 : Int) (q64_s2l : 0 ≤ q64_s2) (q64_s2h : q64_s2 ≤ 4294967295) (f64_4l : 1 ≤ q19_l4) (f64_5h : q19_l5 ≤ 23) (s_64 : im_S) (hT_64 : tI s_64) (hF_64 : fr [(25, 1)] s0 s_64) (w64_a0_0 : Nat) (w64_a0_0k : gK[w64_a0_0]? = some 26) (w64_a0_0e : s_64.1 a0 0 = ((w64_a0_0 : Nat) : Int)) (w64_a0_1 : Int) (w64_a0_1l : 0 ≤ w64_a0_1) (w64_a0_1h : w64_a0_1 ≤ 196) (w64_a0_1e : s_64.1 a0 1 = w64_a0_1) (w64_a1_0 : Nat) (w64_a1_0k : gK[w64_a1_0]? = some 20) (w64_a1_0e : s_64.1 a1 0 = ((w64_a1_0 : Nat) : Int)) (w64_a1_1 : Int) (w64_a1_1l : 0 ≤ w64_a1_1) (w64_a1_1h : w64_a1_1 ≤ 24) (w64_a1_1e : s_64.1 a1 1 = w64_a1_1), ir gG rm_P L ys (d + 1) rm_p_X1_grow (64, [(0, (2, ((a0 : Nat) : Int))), (1, (2, ((a1 : Nat) : Int))), (4, (0, q19_l4)), (5, (0, q19_l5))], [(1, q64_s2), (1, q64_s1), (1, q64_s0)], s_64) (fun r : im_Re => r.1 = none ∧ (tI r.2 ∧ fr [(25, 1)] s0 r.2)) := by
        intro q64_s0 q64_s0l q64_s0h q64_s1 q64_s1l q64_s1h q64_s2 q64_s2l q64_s2h f64_4l f64_5h s_64 hT_64 hF_64 w64_a0_0 w64_a0_0k w64_a0_0e w64_a0_1 w64_a0_1l w64_a0_1h w64_a0_1e w64_a1_0 w64_a1_0k w64_a1_0e w64_a1_1 w64_a1_1l w64_a1_1h w64_a1_1e
        refine ir_ladd (pc' := 65) rfl rfl (by omega) (by omega) ?_
        refine ir_jjA (pc' := 66) rfl rfl rfl rfl (fun z17 z17l z17h => ?_)
        refine ir_s2 (pc' := 67) rfl rfl rfl rfl rfl rfl ?_
        refine ir_l (pc' := 68) rfl rfl rfl rfl rfl rfl ?_
        refine ir_getR (pc' := 71) rfl rfl rfl (gG_at a0k) rfl w64_a0_0e ?_
        refine ir_l (pc' := 73) rfl rfl rfl rfl rfl rfl ?_
        refine ir_l (pc' := 74) rfl rfl rfl rfl rfl rfl ?_
        refine ir_j1A (pc' := 75) rfl rfl rfl rfl (fun z18 z18e z18l z18h => ?_)
        clear z18e
        refine ir_tis (pc' := 76) rfl rfl rfl rfl te_26 w64_a0_0k hT_64 (by omega) (by omega) (rfl) (by omega) (by omega) (fun s19 hT19 r19 o19 => ?_)
        have hF19 := fr_row hF_64 r19 o19
        have e20 : s19.1 a1 1 = w64_a1_1 := by rw [r19]; exact w64_a1_1e
        have e21 : s19.1 a0 0 = ((w64_a0_0 : Nat) : Int) := by rw [r19]; exact w64_a0_0e
        have e22 : s19.1 a1 0 = ((w64_a1_0 : Nat) : Int) := by rw [r19]; exact w64_a1_0e
        have e23 : s19.1 a0 1 = w64_a0_1 := by rw [r19]; exact w64_a0_1e
        refine ir_l (pc' := 77) rfl rfl rfl rfl rfl rfl ?_
        refine ir_k (pc' := 79) (v := (0, 32)) rfl rfl rfl (fun _ => rfl) ?_
        refine ir_jijA (pc' := 80) rfl rfl rfl rfl (fun z24 z24l z24h => ?_)
        refine ir_s2 (pc' := 81) rfl rfl rfl rfl rfl rfl ?_
        refine ir_inc (pc' := 84) rfl rfl rfl rfl rfl (by omega) (by omega) ?_
        refine ir_goto (pc' := 19) rfl rfl ?_
        refine ir_w [(0, (2, ((a0 : Nat) : Int))), (1, (2, ((a1 : Nat) : Int))), (2, (1, z24)), (4, (0, q19_l4)), (5, (0, (q19_l5 + 1)))] ⟨rfl, rfl, rfl, rfl, rfl, trivial⟩ ?_
        exact ih19 (z24) (by omega) (by omega) (q19_l4) (by omega) (by omega) ((q19_l5 + 1)) (by omega) (by omega) s19 hT19 hF19 w64_a0_0 w64_a0_0k e21 (w64_a1_1) (by omega) (by omega) e20 (by omega)
      refine ir_l (pc' := 21) rfl rfl rfl rfl rfl rfl ?_
      refine ir_l (pc' := 23) rfl rfl rfl rfl rfl rfl ?_
      refine ir_c_ge (pt := 87) (pc' := 26) rfl rfl rfl (fun c25 => ?_) (fun c25 => ?_)
      · refine ir_l (pc' := 88) rfl rfl rfl rfl rfl rfl ?_
        refine ir_l (pc' := 89) rfl rfl rfl rfl rfl rfl ?_
        refine ir_tgi (pc' := 92) rfl rfl rfl tf_25_1 a0k hT_19 (fun z26 z26e z26l z26h => ?_)
        refine ir_l (pc' := 94) rfl rfl rfl rfl rfl rfl ?_
        refine ir_cSI (pc' := 97) rfl rfl rfl rfl rfl rfl (Nat.le_of_ble_eq_true rfl) (sf_max L ys d s_19 (z26) (by omega) (by omega) (q19_l4) (by omega) (by omega)) (fun z27 s28 hr => ?_)
        obtain ⟨rfl, z27p0, z27p1, z27p2⟩ := hr
        refine ir_tpi (pc' := 100) rfl rfl rfl tf_25_1 rfl a0k hT_19 rfl (by omega) (by omega) (fun s29 hT29 e29 g29 r29 => ?_)
        have hF29 := fr_put (k := 25) hF_19 (by decide) a0k g29 r29
        have e30 : s29.1 a0 0 = ((w19_a0_0 : Nat) : Int) := (g29 a0 0 (fun z => absurd z.2 (by decide))).trans w19_a0_0e
        refine ir_w [(0, (2, ((a0 : Nat) : Int))), (2, (1, q19_l2)), (5, (0, q19_l5))] ⟨rfl, rfl, rfl, trivial⟩ ?_
        exact J100 _ (q19_l2) (by omega) (by omega) (q19_l5) (by omega) (by omega) s29 hT29 hF29 w19_a0_0 w19_a0_0k e30 (z27) (by omega) (by omega) e29 (Int.self_le_toNat _)
      · refine ir_l (pc' := 27) rfl rfl rfl rfl rfl rfl ?_
        refine ir_l (pc' := 28) rfl rfl rfl rfl rfl rfl ?_
        refine ir_tgr (pc' := 31) rfl rfl rfl tf_19_0 a1k hT_19 (fun b31 b31e b31k => ?_)
        refine ir_l (pc' := 33) rfl rfl rfl rfl rfl rfl ?_
        refine ir_tia (pc' := 34) rfl rfl te_20 (by decide) b31k hT_19 (by omega) (by omega) (fun z32 z32e z32l z32h => ?_)
        clear z32e
        refine ir_i2l (pc' := 35) rfl rfl (by omega) (by omega) ?_
        refine ir_k (pc' := 38) (v := (1, 4294967295)) rfl rfl rfl (fun _ => rfl) ?_
        refine ir_landm (pc' := 39) rfl rfl (by decide) (by decide) (fun z33 z33l z33h => ?_)
        refine ir_l (pc' := 41) rfl rfl rfl rfl rfl rfl ?_
        refine ir_l (pc' := 42) rfl rfl rfl rfl rfl rfl ?_
        refine ir_tgi (pc' := 45) rfl rfl rfl tf_25_1 a0k hT_19 (fun z34 z34e z34l z34h => ?_)
        refine ir_c_ge (pt := 63) (pc' := 48) rfl rfl rfl (fun c35 => ?_) (fun c35 => ?_)
        · refine ir_k (pc' := 64) (v := (1, 0)) rfl rfl rfl (fun _ => rfl) ?_
          refine ir_w [(0, (2, ((a0 : Nat) : Int))), (1, (2, ((a1 : Nat) : Int))), (4, (0, q19_l4)), (5, (0, q19_l5))] ⟨rfl, rfl, rfl, rfl, trivial⟩ ?_
          exact J64 (q19_l2) (by omega) (by omega) (z33) (by omega) (by omega) (0) (by omega) (by omega) (by omega) (by omega) s_19 hT_19 hF_19 w19_a0_0 w19_a0_0k w19_a0_0e (z34) (by omega) (by omega) z34e b31 b31k b31e (w19_a1_1) (by omega) (by omega) w19_a1_1e
        · refine ir_l (pc' := 49) rfl rfl rfl rfl rfl rfl ?_
          refine ir_getR (pc' := 52) rfl rfl rfl (gG_at a0k) rfl w19_a0_0e ?_
          refine ir_l (pc' := 54) rfl rfl rfl rfl rfl rfl ?_
          refine ir_tia (pc' := 55) rfl rfl te_26 (by decide) w19_a0_0k hT_19 (by omega) (by omega) (fun z36 z36e z36l z36h => ?_)
          clear z36e
          refine ir_i2l (pc' := 56) rfl rfl (by omega) (by omega) ?_
          refine ir_k (pc' := 59) (v := (1, 4294967295)) rfl rfl rfl (fun _ => rfl) ?_
          refine ir_landm (pc' := 60) rfl rfl (by decide) (by decide) (fun z37 z37l z37h => ?_)
          refine ir_goto (pc' := 64) rfl rfl ?_
          refine ir_w [(0, (2, ((a0 : Nat) : Int))), (1, (2, ((a1 : Nat) : Int))), (4, (0, q19_l4)), (5, (0, q19_l5))] ⟨rfl, rfl, rfl, rfl, trivial⟩ ?_
          exact J64 (q19_l2) (by omega) (by omega) (z33) (by omega) (by omega) (z37) (by omega) (by omega) (by omega) (by omega) s_19 hT_19 hF_19 w19_a0_0 w19_a0_0k w19_a0_0e (z34) (by omega) (by omega) z34e b31 b31k b31e (w19_a1_1) (by omega) (by omega) w19_a1_1e
  refine ir_k (pc' := 1) (v := (1, 0)) rfl rfl rfl (fun _ => rfl) ?_
  refine ir_s2 (pc' := 2) rfl rfl rfl rfl rfl rfl ?_
  refine ir_l (pc' := 3) rfl rfl rfl rfl rfl rfl ?_
  refine ir_tgi (pc' := 6) rfl rfl rfl tf_19_1 a1k hT0 (fun z38 z38e z38l z38h => ?_)
  refine ir_l (pc' := 7) rfl rfl rfl rfl rfl rfl ?_
  refine ir_tgr (pc' := 10) rfl rfl rfl tf_25_0 a0k hT0 (fun b39 b39e b39k => ?_)
  refine ir_tlen (pc' := 11) rfl rfl te_26 (by decide) b39k ?_
  refine ir_cSI (pc' := 14) rfl rfl rfl rfl rfl rfl (Nat.le_of_ble_eq_true rfl) (sf_min L ys d s0 (z38) (by omega) (by omega) (((196 : Nat) : Int)) (by omega) (by omega)) (fun z40 s41 hr => ?_)
  obtain ⟨rfl, z40p0, z40p1, z40p2⟩ := hr
  refine ir_s (pc' := 16) rfl rfl rfl rfl rfl rfl ?_
  refine ir_k (pc' := 17) (v := (0, 0)) rfl rfl rfl (fun _ => rfl) ?_
  refine ir_s (pc' := 19) rfl rfl rfl rfl rfl rfl ?_
  refine ir_w [(0, (2, ((a0 : Nat) : Int))), (1, (2, ((a1 : Nat) : Int))), (2, (1, 0)), (4, (0, z40)), (5, (0, 0))] ⟨rfl, rfl, rfl, rfl, rfl, trivial⟩ ?_
  exact J19 _ (0) (by omega) (by omega) (z40) (by omega) (by omega) (0) (by omega) (by omega) s0 hT0 hF0 b39 b39k b39e (z38) (by omega) (by omega) z38e (Int.self_le_toNat _)
