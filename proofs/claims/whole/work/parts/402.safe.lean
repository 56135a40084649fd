/-! WALKS OF THE CLASS'S METHODS, by program -/
theorem sf_foldRest0 (L : Nat) (ys : Nat → Int32) (d : Nat) (s0 : im_S) (hT0 : tI s0) (x1 : Int) (x1l : 0 ≤ x1) (x1h : x1 ≤ 9) : icV gG rm_P L ys (d + 6) 2 [(2, ((84 : Nat) : Int)), (0, x1)] s0 (fun s => tI s ∧ fr [(4, 0), (11, 2), (14, 3), (14, 4)] s0 s) := by
  refine ic_startM (M := rm_p_X0_foldRest) om_X0_foldRest (Nat.le_of_ble_eq_true rfl) ?_
  refine ir_w [(0, (2, ((84 : Nat) : Int))), (1, (0, x1))] ⟨rfl, rfl, trivial⟩ ?_
  have hF0 := fr_refl [(4, 0), (11, 2), (14, 3), (14, 4)] s0
  have J234 : ∀ (s_234 : im_S) (hT_234 : tI s_234) (hF_234 : fr [(4, 0), (11, 2), (14, 3), (14, 4)] s0 s_234) (w234_84_7 : Nat) (w234_84_7k : gK[w234_84_7]? = some 4) (w234_84_7e : s_234.1 84 7 = ((w234_84_7 : Nat) : Int)), ir gG rm_P L ys (d + 5) rm_p_X0_foldRest (234, [], [], s_234) (fun r : im_Re => r.1 = none ∧ (tI r.2 ∧ fr [(4, 0), (11, 2), (14, 3), (14, 4)] s0 r.2)) := by
    intro s_234 hT_234 hF_234 w234_84_7 w234_84_7k w234_84_7e
    exact ir_vret rfl rfl ⟨rfl, hT_234, hF_234⟩
  have J188 : ∀ n : Nat, ∀ (q188_l3 : Int) (q188_l3l : 0 ≤ q188_l3) (q188_l3h : q188_l3 ≤ 10) (s_188 : im_S) (hT_188 : tI s_188) (hF_188 : fr [(4, 0), (11, 2), (14, 3), (14, 4)] s0 s_188) (w188_84_0e : s_188.1 84 0 = ((85 : Nat) : Int)) (w188_84_2 : Int) (w188_84_2l : 0 ≤ w188_84_2) (w188_84_2h : w188_84_2 ≤ 79) (w188_84_2e : s_188.1 84 2 = w188_84_2) (w188_84_7 : Nat) (w188_84_7k : gK[w188_84_7]? = some 4) (w188_84_7e : s_188.1 84 7 = ((w188_84_7 : Nat) : Int)), (10 + 1 - q188_l3) ≤ (n : Int) → ir gG rm_P L ys (d + 5) rm_p_X0_foldRest (188, [(0, (2, ((84 : Nat) : Int))), (1, (0, x1)), (3, (0, q188_l3))], [], s_188) (fun r : im_Re => r.1 = none ∧ (tI r.2 ∧ fr [(4, 0), (11, 2), (14, 3), (14, 4)] s0 r.2)) := by
    intro n
    induction n with
    | zero => intro q188_l3 q188_l3l q188_l3h s_188 hT_188 hF_188 w188_84_0e w188_84_2 w188_84_2l w188_84_2h w188_84_2e w188_84_7 w188_84_7k w188_84_7e hr; exfalso; omega
    | succ n ih188 =>
      intro q188_l3 q188_l3l q188_l3h s_188 hT_188 hF_188 w188_84_0e w188_84_2 w188_84_2l w188_84_2h w188_84_2e w188_84_7 w188_84_7k w188_84_7e hr
      have J217 : ∀ (q217_s1 : Int) (q217_s1l : 0 ≤ q217_s1) (q217_s1h : q217_s1 ≤ 799) (q217_s2 : Int) (q217_s2l : 0 ≤ q217_s2) (q217_s2h : q217_s2 ≤ 1) (f217_3h : q188_l3 ≤ 9) (s_217 : im_S) (hT_217 : tI s_217) (hF_217 : fr [(4, 0), (11, 2), (14, 3), (14, 4)] s0 s_217) (w217_84_0e : s_217.1 84 0 = ((85 : Nat) : Int)) (w217_84_1e : s_217.1 84 1 = ((246 : Nat) : Int)) (w217_84_2 : Int) (w217_84_2l : 0 ≤ w217_84_2) (w217_84_2h : w217_84_2 ≤ 79) (w217_84_2e : s_217.1 84 2 = w217_84_2) (w217_84_7 : Nat) (w217_84_7k : gK[w217_84_7]? = some 4) (w217_84_7e : s_217.1 84 7 = ((w217_84_7 : Nat) : Int)), ir gG rm_P L ys (d + 5) rm_p_X0_foldRest (217, [(0, (2, ((84 : Nat) : Int))), (1, (0, x1)), (3, (0, q188_l3))], [(0, q217_s2), (0, q217_s1), (2, ((246 : Nat) : Int))], s_217) (fun r : im_Re => r.1 = none ∧ (tI r.2 ∧ fr [(4, 0), (11, 2), (14, 3), (14, 4)] s0 r.2)) := by
        intro q217_s1 q217_s1l q217_s1h q217_s2 q217_s2l q217_s2h f217_3h s_217 hT_217 hF_217 w217_84_0e w217_84_1e w217_84_2 w217_84_2l w217_84_2h w217_84_2e w217_84_7 w217_84_7k w217_84_7e
        refine ir_tis (pc' := 218) rfl rfl rfl rfl te_13 tsk_13 hT_217 (by omega) (by omega) (rfl) (by omega) (by omega) (fun s1 hT1 r1 o1 => ?_)
        have hF1 := fr_row hF_217 r1 o1
        have e2 : s1.1 84 2 = w217_84_2 := by rw [r1]; exact w217_84_2e
        have e3 : s1.1 84 7 = ((w217_84_7 : Nat) : Int) := by rw [r1]; exact w217_84_7e
        have e4 : s1.1 84 0 = ((85 : Nat) : Int) := by rw [r1]; exact w217_84_0e
        have e5 : s1.1 84 1 = ((246 : Nat) : Int) := by rw [r1]; exact w217_84_1e
        refine ir_inc (pc' := 221) rfl rfl rfl rfl rfl (by omega) (by omega) ?_
        refine ir_goto (pc' := 188) rfl rfl ?_
        refine ir_w [(0, (2, ((84 : Nat) : Int))), (1, (0, x1)), (3, (0, (q188_l3 + 1)))] ⟨rfl, rfl, rfl, trivial⟩ ?_
        exact ih188 ((q188_l3 + 1)) (by omega) (by omega) s1 hT1 hF1 e4 (w217_84_2) (by omega) (by omega) e2 w217_84_7 w217_84_7k e3 (by omega)
      refine ir_l (pc' := 189) rfl rfl rfl rfl rfl rfl ?_
      refine ir_k (pc' := 191) (v := (0, 10)) rfl rfl rfl (fun _ => rfl) ?_
      refine ir_c_ge (pt := 224) (pc' := 194) rfl rfl rfl (fun c6 => ?_) (fun c6 => ?_)
      · refine ir_l (pc' := 225) rfl rfl rfl rfl rfl rfl ?_
        refine ir_x (pc' := 226) rfl rfl rfl (fun _ => rfl) ?_
        refine ir_getI (pc' := 229) rfl rfl rfl (gG_at tsk_11) rfl (by decide) (by decide) w188_84_2e (by omega) (by omega) ?_
        refine ir_k (pc' := 230) (v := (0, 1)) rfl rfl rfl (fun _ => rfl) ?_
        refine ir_add (pc' := 231) rfl rfl (by omega) (by omega) ?_
        refine ir_tpi (pc' := 234) rfl rfl rfl tf_11_2 rfl tsk_11 hT_188 rfl (by omega) (by omega) (fun s7 hT7 e7 g7 r7 => ?_)
        have hF7 := fr_put (k := 11) hF_188 (by decide) tsk_11 g7 r7
        have e8 : s7.1 84 7 = ((w188_84_7 : Nat) : Int) := (g7 84 7 (fun z => absurd z.2 (by decide))).trans w188_84_7e
        have e9 : s7.1 84 0 = ((85 : Nat) : Int) := (g7 84 0 (fun z => absurd z.2 (by decide))).trans w188_84_0e
        refine ir_w [] trivial ?_
        exact J234 s7 hT7 hF7 w188_84_7 w188_84_7k e8
      · refine ir_l (pc' := 195) rfl rfl rfl rfl rfl rfl ?_
        refine ir_tgr (pc' := 198) rfl rfl rfl tf_11_1 tsk_11 hT_188 (fun b10 b10e b10k => ?_)
        obtain rfl := tsg_13 b10k
        refine ir_l (pc' := 199) rfl rfl rfl rfl rfl rfl ?_
        refine ir_getI (pc' := 202) rfl rfl rfl (gG_at tsk_11) rfl (by decide) (by decide) w188_84_2e (by omega) (by omega) ?_
        refine ir_k (pc' := 204) (v := (0, 10)) rfl rfl rfl (fun _ => rfl) ?_
        refine ir_mul (pc' := 205) rfl rfl (by omega) (by omega) ?_
        refine ir_l (pc' := 206) rfl rfl rfl rfl rfl rfl ?_
        refine ir_add (pc' := 207) rfl rfl (by omega) (by omega) ?_
        refine ir_l (pc' := 208) rfl rfl rfl rfl rfl rfl ?_
        refine ir_l (pc' := 209) rfl rfl rfl rfl rfl rfl ?_
        refine ir_c_ne (pt := 216) (pc' := 212) rfl rfl rfl (fun c11 => ?_) (fun c11 => ?_)
        · refine ir_k (pc' := 217) (v := (0, 0)) rfl rfl rfl (fun _ => rfl) ?_
          refine ir_w [(0, (2, ((84 : Nat) : Int))), (1, (0, x1)), (3, (0, q188_l3))] ⟨rfl, rfl, rfl, trivial⟩ ?_
          exact J217 (((w188_84_2 * 10) + q188_l3)) (by omega) (by omega) (0) (by omega) (by omega) (by omega) s_188 hT_188 hF_188 w188_84_0e b10e (w188_84_2) (by omega) (by omega) w188_84_2e w188_84_7 w188_84_7k w188_84_7e
        · refine ir_k (pc' := 213) (v := (0, 1)) rfl rfl rfl (fun _ => rfl) ?_
          refine ir_goto (pc' := 217) rfl rfl ?_
          refine ir_w [(0, (2, ((84 : Nat) : Int))), (1, (0, x1)), (3, (0, q188_l3))] ⟨rfl, rfl, rfl, trivial⟩ ?_
          exact J217 (((w188_84_2 * 10) + q188_l3)) (by omega) (by omega) (1) (by omega) (by omega) (by omega) s_188 hT_188 hF_188 w188_84_0e b10e (w188_84_2) (by omega) (by omega) w188_84_2e w188_84_7 w188_84_7k w188_84_7e
  have J151 : ∀ (s_151 : im_S) (hT_151 : tI s_151) (hF_151 : fr [(4, 0), (11, 2), (14, 3), (14, 4)] s0 s_151), ir gG rm_P L ys (d + 5) rm_p_X0_foldRest (151, [(0, (2, ((84 : Nat) : Int))), (1, (0, x1))], [], s_151) (fun r : im_Re => r.1 = none ∧ (tI r.2 ∧ fr [(4, 0), (11, 2), (14, 3), (14, 4)] s0 r.2)) := by
    intro s_151 hT_151 hF_151
    refine ir_l (pc' := 152) rfl rfl rfl rfl rfl rfl ?_
    refine ir_tgr (pc' := 155) rfl rfl rfl tf_11_7 tsk_11 hT_151 (fun b12 b12e b12k => ?_)
    refine ir_tgi (pc' := 158) rfl rfl rfl tf_4_0 b12k hT_151 (fun z13 z13e z13l z13h => ?_)
    refine ir_z_le (pt := 234) (pc' := 161) rfl rfl rfl (fun c14 => ?_) (fun c14 => ?_)
    · refine ir_w [] trivial ?_
      exact J234 s_151 hT_151 hF_151 b12 b12k b12e
    · refine ir_l (pc' := 162) rfl rfl rfl rfl rfl rfl ?_
      refine ir_tgi (pc' := 165) rfl rfl rfl tf_11_2 tsk_11 hT_151 (fun z15 z15e z15l z15h => ?_)
      refine ir_k (pc' := 167) (v := (0, 80)) rfl rfl rfl (fun _ => rfl) ?_
      refine ir_c_ge (pt := 234) (pc' := 170) rfl rfl rfl (fun c16 => ?_) (fun c16 => ?_)
      · refine ir_w [] trivial ?_
        exact J234 s_151 hT_151 hF_151 b12 b12k b12e
      · refine ir_l (pc' := 171) rfl rfl rfl rfl rfl rfl ?_
        refine ir_tgr (pc' := 174) rfl rfl rfl tf_11_0 tsk_11 hT_151 (fun b17 b17e b17k => ?_)
        obtain rfl := tsg_12 b17k
        refine ir_l (pc' := 175) rfl rfl rfl rfl rfl rfl ?_
        refine ir_getI (pc' := 178) rfl rfl rfl (gG_at tsk_11) rfl (by decide) (by decide) z15e (by omega) (by omega) ?_
        refine ir_taa (pc' := 179) (k2 := 4) rfl rfl te_12 (by decide) tsk_12 hT_151 (by omega) (by omega) (fun b18 b18k => ?_)
        refine ir_l (pc' := 180) rfl rfl rfl rfl rfl rfl ?_
        refine ir_getR (pc' := 183) rfl rfl rfl (gG_at tsk_11) rfl b12e ?_
        refine ir_cVV (pc' := 186) rfl rfl rfl rfl rfl (Nat.le_of_ble_eq_true rfl) oo_X6_copy (gG_at b18k) (sf_copy6 L ys (d + 4) s_151 hT_151 b18 b18k b12 b12k ) (fun s20 hr => ?_)
        obtain ⟨hT20, hG20⟩ := hr
        have hF20 := fr_trans hF_151 hG20 (by decide)
        have e21 : s20.1 84 7 = ((b12 : Nat) : Int) := (hG20.1 _ _ tsk_11 7 (by decide)).trans b12e
        have e22 : s20.1 84 2 = z15 := (hG20.1 _ _ tsk_11 2 (by decide)).trans z15e
        have e23 : s20.1 84 0 = ((85 : Nat) : Int) := (hG20.1 _ _ tsk_11 0 (by decide)).trans b17e
        refine ir_k (pc' := 187) (v := (0, 0)) rfl rfl rfl (fun _ => rfl) ?_
        refine ir_s (pc' := 188) rfl rfl rfl rfl rfl rfl ?_
        refine ir_w [(0, (2, ((84 : Nat) : Int))), (1, (0, x1)), (3, (0, 0))] ⟨rfl, rfl, rfl, trivial⟩ ?_
        exact J188 _ (0) (by omega) (by omega) s20 hT20 hF20 e23 (z15) (by omega) (by omega) e22 b12 b12k e21 (Int.self_le_toNat _)
  have J7 : ∀ n : Nat, ∀ (q7_l2 : Int) (q7_l2l : 0 ≤ q7_l2) (q7_l2h : q7_l2 ≤ 80) (q7_l3 : Int) (q7_l3l : 0 ≤ q7_l3) (q7_l3h : q7_l3 ≤ 80) (s_7 : im_S) (hT_7 : tI s_7) (hF_7 : fr [(4, 0), (11, 2), (14, 3), (14, 4)] s0 s_7), (80 + 1 - q7_l3) ≤ (n : Int) → ir gG rm_P L ys (d + 5) rm_p_X0_foldRest (7, [(0, (2, ((84 : Nat) : Int))), (1, (0, x1)), (2, (0, q7_l2)), (3, (0, q7_l3))], [], s_7) (fun r : im_Re => r.1 = none ∧ (tI r.2 ∧ fr [(4, 0), (11, 2), (14, 3), (14, 4)] s0 r.2)) := by
    intro n
    induction n with
    | zero => intro q7_l2 q7_l2l q7_l2h q7_l3 q7_l3l q7_l3h s_7 hT_7 hF_7 hr; exfalso; omega
    | succ n ih7 =>
      intro q7_l2 q7_l2l q7_l2h q7_l3 q7_l3l q7_l3h s_7 hT_7 hF_7 hr
      have J145 : ∀ (f145_2l : 1 ≤ q7_l2) (f145_3h : q7_l3 ≤ 79) (s_145 : im_S) (hT_145 : tI s_145) (hF_145 : fr [(4, 0), (11, 2), (14, 3), (14, 4)] s0 s_145) (w145_247_6 : Nat) (w145_247_6k : gK[w145_247_6]? = some 4) (w145_247_6e : s_145.1 247 6 = ((w145_247_6 : Nat) : Int)) (w145_84_0e : s_145.1 84 0 = ((85 : Nat) : Int)) (w145_84_3e : s_145.1 84 3 = ((247 : Nat) : Int)) (w145_84_7 : Nat) (w145_84_7k : gK[w145_84_7]? = some 4) (w145_84_7e : s_145.1 84 7 = ((w145_84_7 : Nat) : Int)), ir gG rm_P L ys (d + 5) rm_p_X0_foldRest (145, [(0, (2, ((84 : Nat) : Int))), (1, (0, x1)), (2, (0, q7_l2)), (3, (0, q7_l3))], [], s_145) (fun r : im_Re => r.1 = none ∧ (tI r.2 ∧ fr [(4, 0), (11, 2), (14, 3), (14, 4)] s0 r.2)) := by
        intro f145_2l f145_3h s_145 hT_145 hF_145 w145_247_6 w145_247_6k w145_247_6e w145_84_0e w145_84_3e w145_84_7 w145_84_7k w145_84_7e
        refine ir_inc (pc' := 148) rfl rfl rfl rfl rfl (by omega) (by omega) ?_
        refine ir_goto (pc' := 7) rfl rfl ?_
        refine ir_w [(0, (2, ((84 : Nat) : Int))), (1, (0, x1)), (2, (0, q7_l2)), (3, (0, (q7_l3 + 1)))] ⟨rfl, rfl, rfl, rfl, trivial⟩ ?_
        exact ih7 (q7_l2) (by omega) (by omega) ((q7_l3 + 1)) (by omega) (by omega) s_145 hT_145 hF_145 (by omega)
      have J99 : ∀ (q99_l4 : Int) (q99_l4l : 0 ≤ q99_l4) (q99_l4h : q99_l4 ≤ 79) (f99_2l : 1 ≤ q7_l2) (f99_3h : q7_l3 ≤ 79) (s_99 : im_S) (hT_99 : tI s_99) (hF_99 : fr [(4, 0), (11, 2), (14, 3), (14, 4)] s0 s_99) (w99_247_6 : Nat) (w99_247_6k : gK[w99_247_6]? = some 4) (w99_247_6e : s_99.1 247 6 = ((w99_247_6 : Nat) : Int)) (w99_84_0e : s_99.1 84 0 = ((85 : Nat) : Int)) (w99_84_3e : s_99.1 84 3 = ((247 : Nat) : Int)) (w99_84_6 : Nat) (w99_84_6k : gK[w99_84_6]? = some 4) (w99_84_6e : s_99.1 84 6 = ((w99_84_6 : Nat) : Int)) (w99_84_7 : Nat) (w99_84_7k : gK[w99_84_7]? = some 4) (w99_84_7e : s_99.1 84 7 = ((w99_84_7 : Nat) : Int)), ir gG rm_P L ys (d + 5) rm_p_X0_foldRest (99, [(0, (2, ((84 : Nat) : Int))), (1, (0, x1)), (2, (0, q7_l2)), (3, (0, q7_l3)), (4, (0, q99_l4))], [], s_99) (fun r : im_Re => r.1 = none ∧ (tI r.2 ∧ fr [(4, 0), (11, 2), (14, 3), (14, 4)] s0 r.2)) := by
        intro q99_l4 q99_l4l q99_l4h f99_2l f99_3h s_99 hT_99 hF_99 w99_247_6 w99_247_6k w99_247_6e w99_84_0e w99_84_3e w99_84_6 w99_84_6k w99_84_6e w99_84_7 w99_84_7k w99_84_7e
        refine ir_l (pc' := 100) rfl rfl rfl rfl rfl rfl ?_
        refine ir_tgr (pc' := 103) rfl rfl rfl tf_11_1 tsk_11 hT_99 (fun b24 b24e b24k => ?_)
        obtain rfl := tsg_13 b24k
        refine ir_l (pc' := 105) rfl rfl rfl rfl rfl rfl ?_
        refine ir_k (pc' := 107) (v := (0, 10)) rfl rfl rfl (fun _ => rfl) ?_
        refine ir_mul (pc' := 108) rfl rfl (by omega) (by omega) ?_
        refine ir_l (pc' := 109) rfl rfl rfl rfl rfl rfl ?_
        refine ir_add (pc' := 110) rfl rfl (by omega) (by omega) ?_
        refine ir_x (pc' := 111) rfl rfl rfl (fun _ => rfl) ?_
        refine ir_tia (pc' := 112) rfl rfl te_13 (by decide) tsk_13 hT_99 (by omega) (by omega) (fun z25 z25e z25l z25h => ?_)
        clear z25e
        refine ir_k (pc' := 113) (v := (0, 1)) rfl rfl rfl (fun _ => rfl) ?_
        refine ir_iiA (pc' := 114) rfl rfl rfl rfl (fun z26 z26l z26h => ?_)
        refine ir_tis (pc' := 115) rfl rfl rfl rfl te_13 tsk_13 hT_99 (by omega) (by omega) (rfl) (by omega) (by omega) (fun s27 hT27 r27 o27 => ?_)
        have hF27 := fr_row hF_99 r27 o27
        have e28 : s27.1 84 7 = ((w99_84_7 : Nat) : Int) := by rw [r27]; exact w99_84_7e
        have e29 : s27.1 84 3 = ((247 : Nat) : Int) := by rw [r27]; exact w99_84_3e
        have e30 : s27.1 84 0 = ((85 : Nat) : Int) := by rw [r27]; exact w99_84_0e
        have e31 : s27.1 247 6 = ((w99_247_6 : Nat) : Int) := by rw [r27]; exact w99_247_6e
        have e32 : s27.1 84 6 = ((w99_84_6 : Nat) : Int) := by rw [r27]; exact w99_84_6e
        have e33 : s27.1 84 1 = ((246 : Nat) : Int) := by rw [r27]; exact b24e
        refine ir_l (pc' := 116) rfl rfl rfl rfl rfl rfl ?_
        refine ir_getR (pc' := 119) rfl rfl rfl (gG_at tsk_11) rfl e29 ?_
        refine ir_l (pc' := 120) rfl rfl rfl rfl rfl rfl ?_
        refine ir_getR (pc' := 123) rfl rfl rfl (gG_at tsk_11) rfl e28 ?_
        refine ir_l (pc' := 124) rfl rfl rfl rfl rfl rfl ?_
        refine ir_getR (pc' := 127) rfl rfl rfl (gG_at tsk_11) rfl e32 ?_
        refine ir_cVI (pc' := 130) rfl rfl rfl rfl rfl (Nat.le_of_ble_eq_true rfl) oo_X2_divide (gG_at tsk_14) (sf_divide2 L ys (d + 3) s27 hT27 w99_84_7 w99_84_7k w99_84_6 w99_84_6k ) (fun z34 s35 hr => ?_)
        obtain ⟨hT35, hG35, z34l, z34h⟩ := hr
        have hF35 := fr_trans hF27 hG35 (by decide)
        have e36 : s35.1 84 7 = ((w99_84_7 : Nat) : Int) := (hG35.1 _ _ tsk_11 7 (by decide)).trans e28
        have e37 : s35.1 84 3 = ((247 : Nat) : Int) := (hG35.1 _ _ tsk_11 3 (by decide)).trans e29
        have e38 : s35.1 84 0 = ((85 : Nat) : Int) := (hG35.1 _ _ tsk_11 0 (by decide)).trans e30
        have e39 : s35.1 247 6 = ((w99_247_6 : Nat) : Int) := (hG35.1 _ _ tsk_14 6 (by decide)).trans e31
        have e40 : s35.1 84 6 = ((w99_84_6 : Nat) : Int) := (hG35.1 _ _ tsk_11 6 (by decide)).trans e32
        have e41 : s35.1 84 1 = ((246 : Nat) : Int) := (hG35.1 _ _ tsk_11 1 (by decide)).trans e33
        refine ir_x (pc' := 131) rfl rfl rfl (fun _ => rfl) ?_
        refine ir_l (pc' := 132) rfl rfl rfl rfl rfl rfl ?_
        refine ir_getR (pc' := 135) rfl rfl rfl (gG_at tsk_11) rfl e36 ?_
        refine ir_l (pc' := 136) rfl rfl rfl rfl rfl rfl ?_
        refine ir_getR (pc' := 139) rfl rfl rfl (gG_at tsk_11) rfl e37 ?_
        refine ir_tgr (pc' := 142) rfl rfl rfl tf_14_7 tsk_14 hT35 (fun b42 b42e b42k => ?_)
        refine ir_cVV (pc' := 145) rfl rfl rfl rfl rfl (Nat.le_of_ble_eq_true rfl) oo_X6_copy (gG_at w99_84_7k) (sf_copy6 L ys (d + 4) s35 hT35 w99_84_7 w99_84_7k b42 b42k ) (fun s44 hr => ?_)
        obtain ⟨hT44, hG44⟩ := hr
        have hF44 := fr_trans hF35 hG44 (by decide)
        have e45 : s44.1 84 7 = ((w99_84_7 : Nat) : Int) := (hG44.1 _ _ tsk_11 7 (by decide)).trans e36
        have e46 : s44.1 84 3 = ((247 : Nat) : Int) := (hG44.1 _ _ tsk_11 3 (by decide)).trans e37
        have e47 : s44.1 84 0 = ((85 : Nat) : Int) := (hG44.1 _ _ tsk_11 0 (by decide)).trans e38
        have e48 : s44.1 247 6 = ((w99_247_6 : Nat) : Int) := (hG44.1 _ _ tsk_14 6 (by decide)).trans e39
        have e49 : s44.1 84 6 = ((w99_84_6 : Nat) : Int) := (hG44.1 _ _ tsk_11 6 (by decide)).trans e40
        have e50 : s44.1 84 1 = ((246 : Nat) : Int) := (hG44.1 _ _ tsk_11 1 (by decide)).trans e41
        have e51 : s44.1 247 7 = ((b42 : Nat) : Int) := (hG44.1 _ _ tsk_14 7 (by decide)).trans b42e
        refine ir_w [(0, (2, ((84 : Nat) : Int))), (1, (0, x1)), (2, (0, q7_l2)), (3, (0, q7_l3))] ⟨rfl, rfl, rfl, rfl, trivial⟩ ?_
        exact J145 (by omega) (by omega) s44 hT44 hF44 w99_247_6 w99_247_6k e48 e47 e46 w99_84_7 w99_84_7k e45
      refine ir_l (pc' := 8) rfl rfl rfl rfl rfl rfl ?_
      refine ir_l (pc' := 9) rfl rfl rfl rfl rfl rfl ?_
      refine ir_c_ge (pt := 151) (pc' := 12) rfl rfl rfl (fun c52 => ?_) (fun c52 => ?_)
      · refine ir_w [(0, (2, ((84 : Nat) : Int))), (1, (0, x1))] ⟨rfl, rfl, trivial⟩ ?_
        exact J151 s_7 hT_7 hF_7
      · refine ir_l (pc' := 13) rfl rfl rfl rfl rfl rfl ?_
        refine ir_tgr (pc' := 16) rfl rfl rfl tf_11_7 tsk_11 hT_7 (fun b53 b53e b53k => ?_)
        refine ir_tgi (pc' := 19) rfl rfl rfl tf_4_0 b53k hT_7 (fun z54 z54e z54l z54h => ?_)
        refine ir_z_le (pt := 151) (pc' := 22) rfl rfl rfl (fun c55 => ?_) (fun c55 => ?_)
        · refine ir_w [(0, (2, ((84 : Nat) : Int))), (1, (0, x1))] ⟨rfl, rfl, trivial⟩ ?_
          exact J151 s_7 hT_7 hF_7
        · refine ir_l (pc' := 23) rfl rfl rfl rfl rfl rfl ?_
          refine ir_tgr (pc' := 26) rfl rfl rfl tf_11_3 tsk_11 hT_7 (fun b56 b56e b56k => ?_)
          obtain rfl := tsg_14 b56k
          refine ir_l (pc' := 27) rfl rfl rfl rfl rfl rfl ?_
          refine ir_tgr (pc' := 30) rfl rfl rfl tf_11_0 tsk_11 hT_7 (fun b57 b57e b57k => ?_)
          obtain rfl := tsg_12 b57k
          refine ir_l (pc' := 31) rfl rfl rfl rfl rfl rfl ?_
          refine ir_taa (pc' := 32) (k2 := 4) rfl rfl te_12 (by decide) tsk_12 hT_7 (by omega) (by omega) (fun b58 b58k => ?_)
          refine ir_l (pc' := 33) rfl rfl rfl rfl rfl rfl ?_
          refine ir_getR (pc' := 36) rfl rfl rfl (gG_at tsk_11) rfl b53e ?_
          refine ir_cVV (pc' := 39) rfl rfl rfl rfl rfl (Nat.le_of_ble_eq_true rfl) oo_X2_find (gG_at tsk_14) (sf_find2 L ys d s_7 hT_7 b58 b58k b53 b53k ) (fun s60 hr => ?_)
          obtain ⟨hT60, hG60⟩ := hr
          have hF60 := fr_trans hF_7 hG60 (by decide)
          have e61 : s60.1 84 7 = ((b53 : Nat) : Int) := (hG60.1 _ _ tsk_11 7 (by decide)).trans b53e
          have e62 : s60.1 84 3 = ((247 : Nat) : Int) := (hG60.1 _ _ tsk_11 3 (by decide)).trans b56e
          have e63 : s60.1 84 0 = ((85 : Nat) : Int) := (hG60.1 _ _ tsk_11 0 (by decide)).trans b57e
          refine ir_l (pc' := 40) rfl rfl rfl rfl rfl rfl ?_
          refine ir_getR (pc' := 43) rfl rfl rfl (gG_at tsk_11) rfl e62 ?_
          refine ir_tgr (pc' := 46) rfl rfl rfl tf_14_6 tsk_14 hT60 (fun b64 b64e b64k => ?_)
          refine ir_tgi (pc' := 49) rfl rfl rfl tf_4_0 b64k hT60 (fun z65 z65e z65l z65h => ?_)
          refine ir_z_le (pt := 145) (pc' := 52) rfl rfl rfl (fun c66 => ?_) (fun c66 => ?_)
          · refine ir_w [(0, (2, ((84 : Nat) : Int))), (1, (0, x1)), (2, (0, q7_l2)), (3, (0, q7_l3))] ⟨rfl, rfl, rfl, rfl, trivial⟩ ?_
            exact J145 (by omega) (by omega) s60 hT60 hF60 b64 b64k b64e e63 e62 b53 b53k e61
          · refine ir_l (pc' := 53) rfl rfl rfl rfl rfl rfl ?_
            refine ir_tgr (pc' := 56) rfl rfl rfl tf_11_6 tsk_11 hT60 (fun b67 b67e b67k => ?_)
            refine ir_l (pc' := 57) rfl rfl rfl rfl rfl rfl ?_
            refine ir_getR (pc' := 60) rfl rfl rfl (gG_at tsk_11) rfl e62 ?_
            refine ir_getR (pc' := 63) rfl rfl rfl (gG_at tsk_14) rfl b64e ?_
            refine ir_cVV (pc' := 66) rfl rfl rfl rfl rfl (Nat.le_of_ble_eq_true rfl) oo_X6_copy (gG_at b67k) (sf_copy6 L ys (d + 4) s60 hT60 b67 b67k b64 b64k ) (fun s69 hr => ?_)
            obtain ⟨hT69, hG69⟩ := hr
            have hF69 := fr_trans hF60 hG69 (by decide)
            have e70 : s69.1 84 7 = ((b53 : Nat) : Int) := (hG69.1 _ _ tsk_11 7 (by decide)).trans e61
            have e71 : s69.1 84 3 = ((247 : Nat) : Int) := (hG69.1 _ _ tsk_11 3 (by decide)).trans e62
            have e72 : s69.1 84 0 = ((85 : Nat) : Int) := (hG69.1 _ _ tsk_11 0 (by decide)).trans e63
            have e73 : s69.1 247 6 = ((b64 : Nat) : Int) := (hG69.1 _ _ tsk_14 6 (by decide)).trans b64e
            have e74 : s69.1 84 6 = ((b67 : Nat) : Int) := (hG69.1 _ _ tsk_11 6 (by decide)).trans b67e
            refine ir_l (pc' := 67) rfl rfl rfl rfl rfl rfl ?_
            refine ir_s (pc' := 69) rfl rfl rfl rfl rfl rfl ?_
            refine ir_l (pc' := 70) rfl rfl rfl rfl rfl rfl ?_
            refine ir_getR (pc' := 73) rfl rfl rfl (gG_at tsk_11) rfl e74 ?_
            refine ir_tgi (pc' := 76) rfl rfl rfl tf_4_0 b67k hT69 (fun z75 z75e z75l z75h => ?_)
            refine ir_l (pc' := 77) rfl rfl rfl rfl rfl rfl ?_
            refine ir_getR (pc' := 80) rfl rfl rfl (gG_at tsk_11) rfl e72 ?_
            refine ir_l (pc' := 81) rfl rfl rfl rfl rfl rfl ?_
            refine ir_taa (pc' := 82) (k2 := 4) rfl rfl te_12 (by decide) tsk_12 hT69 (by omega) (by omega) (fun b76 b76k => ?_)
            refine ir_tgi (pc' := 85) rfl rfl rfl tf_4_0 b76k hT69 (fun z77 z77e z77l z77h => ?_)
            refine ir_c_ge (pt := 99) (pc' := 88) rfl rfl rfl (fun c78 => ?_) (fun c78 => ?_)
            · refine ir_w [(0, (2, ((84 : Nat) : Int))), (1, (0, x1)), (2, (0, q7_l2)), (3, (0, q7_l3)), (4, (0, q7_l3))] ⟨rfl, rfl, rfl, rfl, rfl, trivial⟩ ?_
              exact J99 (q7_l3) (by omega) (by omega) (by omega) (by omega) s69 hT69 hF69 b64 b64k e73 e72 e71 b67 b67k e74 b53 b53k e70
            · refine ir_l (pc' := 89) rfl rfl rfl rfl rfl rfl ?_
              refine ir_l (pc' := 90) rfl rfl rfl rfl rfl rfl ?_
              refine ir_l (pc' := 91) rfl rfl rfl rfl rfl rfl ?_
              refine ir_getR (pc' := 94) rfl rfl rfl (gG_at tsk_11) rfl e74 ?_
              refine ir_cVI (pc' := 97) rfl rfl rfl rfl rfl (Nat.le_of_ble_eq_true rfl) oo_X0_splitOff (gG_at tsk_11) (sf_splitOff0 L ys (d + 2) s69 hT69 (q7_l3) (by omega) (by omega) b67 b67k ) (fun z79 s80 hr => ?_)
              obtain ⟨hT80, hG80, z79l, z79h⟩ := hr
              have hF80 := fr_trans hF69 hG80 (by decide)
              have e81 : s80.1 84 7 = ((b53 : Nat) : Int) := (hG80.1 _ _ tsk_11 7 (by decide)).trans e70
              have e82 : s80.1 84 3 = ((247 : Nat) : Int) := (hG80.1 _ _ tsk_11 3 (by decide)).trans e71
              have e83 : s80.1 84 0 = ((85 : Nat) : Int) := (hG80.1 _ _ tsk_11 0 (by decide)).trans e72
              have e84 : s80.1 247 6 = ((b64 : Nat) : Int) := (hG80.1 _ _ tsk_14 6 (by decide)).trans e73
              have e85 : s80.1 84 6 = ((b67 : Nat) : Int) := (hG80.1 _ _ tsk_11 6 (by decide)).trans e74
              refine ir_s (pc' := 99) rfl rfl rfl rfl rfl rfl ?_
              refine ir_w [(0, (2, ((84 : Nat) : Int))), (1, (0, x1)), (2, (0, q7_l2)), (3, (0, q7_l3)), (4, (0, z79))] ⟨rfl, rfl, rfl, rfl, rfl, trivial⟩ ?_
              exact J99 (z79) (by omega) (by omega) (by omega) (by omega) s80 hT80 hF80 b64 b64k e84 e83 e82 b67 b67k e85 b53 b53k e81
  refine ir_l (pc' := 1) rfl rfl rfl rfl rfl rfl ?_
  refine ir_tgi (pc' := 4) rfl rfl rfl tf_11_2 tsk_11 hT0 (fun z86 z86e z86l z86h => ?_)
  refine ir_s (pc' := 5) rfl rfl rfl rfl rfl rfl ?_
  refine ir_k (pc' := 6) (v := (0, 0)) rfl rfl rfl (fun _ => rfl) ?_
  refine ir_s (pc' := 7) rfl rfl rfl rfl rfl rfl ?_
  refine ir_w [(0, (2, ((84 : Nat) : Int))), (1, (0, x1)), (2, (0, z86)), (3, (0, 0))] ⟨rfl, rfl, rfl, rfl, trivial⟩ ?_
  exact J7 _ (z86) (by omega) (by omega) (0) (by omega) (by omega) s0 hT0 hF0 (Int.self_le_toNat _)
theorem sf_addAtom0 (L : Nat) (ys : Nat → Int32) (d : Nat) (s0 : im_S) (hT0 : tI s0) (a1 : Nat) (a1k : gK[a1]? = some 4) (x2 : Int) (x2l : 0 ≤ x2) (x2h : x2 ≤ 9) : icV gG rm_P L ys (d + 7) 0 [(2, ((84 : Nat) : Int)), (2, (a1 : Int)), (0, x2)] s0 (fun s => tI s ∧ fr [(4, 0), (11, 2), (14, 3), (14, 4)] s0 s) := by
  refine ic_startM (M := rm_p_X0_addAtom) om_X0_addAtom (Nat.le_of_ble_eq_true rfl) ?_
  refine ir_w [(0, (2, ((84 : Nat) : Int))), (1, (2, ((a1 : Nat) : Int))), (2, (0, x2))] ⟨rfl, rfl, rfl, trivial⟩ ?_
  have hF0 := fr_refl [(4, 0), (11, 2), (14, 3), (14, 4)] s0
  have J125 : ∀ (s_125 : im_S) (hT_125 : tI s_125) (hF_125 : fr [(4, 0), (11, 2), (14, 3), (14, 4)] s0 s_125) (w125_84_4 : Nat) (w125_84_4k : gK[w125_84_4]? = some 4) (w125_84_4e : s_125.1 84 4 = ((w125_84_4 : Nat) : Int)), ir gG rm_P L ys (d + 6) rm_p_X0_addAtom (125, [], [], s_125) (fun r : im_Re => r.1 = none ∧ (tI r.2 ∧ fr [(4, 0), (11, 2), (14, 3), (14, 4)] s0 r.2)) := by
    intro s_125 hT_125 hF_125 w125_84_4 w125_84_4k w125_84_4e
    exact ir_vret rfl rfl ⟨rfl, hT_125, hF_125⟩
  have J17 : ∀ n : Nat, ∀ (q17_l3 : Int) (q17_l3l : 0 ≤ q17_l3) (q17_l3h : q17_l3 ≤ 8) (s_17 : im_S) (hT_17 : tI s_17) (hF_17 : fr [(4, 0), (11, 2), (14, 3), (14, 4)] s0 s_17) (w17_84_4 : Nat) (w17_84_4k : gK[w17_84_4]? = some 4) (w17_84_4e : s_17.1 84 4 = ((w17_84_4 : Nat) : Int)), (8 + 1 - q17_l3) ≤ (n : Int) → ir gG rm_P L ys (d + 6) rm_p_X0_addAtom (17, [(0, (2, ((84 : Nat) : Int))), (2, (0, x2)), (3, (0, q17_l3))], [], s_17) (fun r : im_Re => r.1 = none ∧ (tI r.2 ∧ fr [(4, 0), (11, 2), (14, 3), (14, 4)] s0 r.2)) := by
    intro n
    induction n with
    | zero => intro q17_l3 q17_l3l q17_l3h s_17 hT_17 hF_17 w17_84_4 w17_84_4k w17_84_4e hr; exfalso; omega
    | succ n ih17 =>
      intro q17_l3 q17_l3l q17_l3h s_17 hT_17 hF_17 w17_84_4 w17_84_4k w17_84_4e hr
      refine ir_l (pc' := 18) rfl rfl rfl rfl rfl rfl ?_
      refine ir_k (pc' := 20) (v := (0, 8)) rfl rfl rfl (fun _ => rfl) ?_
      refine ir_c_ge (pt := 125) (pc' := 23) rfl rfl rfl (fun c1 => ?_) (fun c1 => ?_)
      · refine ir_w [] trivial ?_
        exact J125 s_17 hT_17 hF_17 w17_84_4 w17_84_4k w17_84_4e
      · refine ir_l (pc' := 24) rfl rfl rfl rfl rfl rfl ?_
        refine ir_getR (pc' := 27) rfl rfl rfl (gG_at tsk_11) rfl w17_84_4e ?_
        refine ir_tgi (pc' := 30) rfl rfl rfl tf_4_0 w17_84_4k hT_17 (fun z2 z2e z2l z2h => ?_)
        refine ir_z_le (pt := 125) (pc' := 33) rfl rfl rfl (fun c3 => ?_) (fun c3 => ?_)
        · refine ir_w [] trivial ?_
          exact J125 s_17 hT_17 hF_17 w17_84_4 w17_84_4k w17_84_4e
        · refine ir_l (pc' := 34) rfl rfl rfl rfl rfl rfl ?_
          refine ir_tgr (pc' := 37) rfl rfl rfl tf_11_5 tsk_11 hT_17 (fun b4 b4e b4k => ?_)
          refine ir_l (pc' := 38) rfl rfl rfl rfl rfl rfl ?_
          refine ir_getR (pc' := 41) rfl rfl rfl (gG_at tsk_11) rfl w17_84_4e ?_
          refine ir_cVV (pc' := 44) rfl rfl rfl rfl rfl (Nat.le_of_ble_eq_true rfl) oo_X6_setSlopeOf (gG_at b4k) (sf_setSlopeOf6 L ys (d + 4) s_17 hT_17 b4 b4k w17_84_4 w17_84_4k ) (fun s6 hr => ?_)
          obtain ⟨hT6, hG6⟩ := hr
          have hF6 := fr_trans hF_17 hG6 (by decide)
          have e7 : s6.1 84 4 = ((w17_84_4 : Nat) : Int) := (hG6.1 _ _ tsk_11 4 (by decide)).trans w17_84_4e
          have e8 : s6.1 84 5 = ((b4 : Nat) : Int) := (hG6.1 _ _ tsk_11 5 (by decide)).trans b4e
          refine ir_l (pc' := 45) rfl rfl rfl rfl rfl rfl ?_
          refine ir_tgr (pc' := 48) rfl rfl rfl tf_11_3 tsk_11 hT6 (fun b9 b9e b9k => ?_)
          obtain rfl := tsg_14 b9k
          refine ir_l (pc' := 49) rfl rfl rfl rfl rfl rfl ?_
          refine ir_getR (pc' := 52) rfl rfl rfl (gG_at tsk_11) rfl e7 ?_
          refine ir_l (pc' := 53) rfl rfl rfl rfl rfl rfl ?_
          refine ir_getR (pc' := 56) rfl rfl rfl (gG_at tsk_11) rfl e8 ?_
          refine ir_cVV (pc' := 59) rfl rfl rfl rfl rfl (Nat.le_of_ble_eq_true rfl) oo_X2_find (gG_at tsk_14) (sf_find2 L ys (d + 1) s6 hT6 w17_84_4 w17_84_4k b4 b4k ) (fun s11 hr => ?_)
          obtain ⟨hT11, hG11⟩ := hr
          have hF11 := fr_trans hF6 hG11 (by decide)
          have e12 : s11.1 84 4 = ((w17_84_4 : Nat) : Int) := (hG11.1 _ _ tsk_11 4 (by decide)).trans e7
          have e13 : s11.1 84 5 = ((b4 : Nat) : Int) := (hG11.1 _ _ tsk_11 5 (by decide)).trans e8
          have e14 : s11.1 84 3 = ((247 : Nat) : Int) := (hG11.1 _ _ tsk_11 3 (by decide)).trans b9e
          refine ir_l (pc' := 60) rfl rfl rfl rfl rfl rfl ?_
          refine ir_getR (pc' := 63) rfl rfl rfl (gG_at tsk_11) rfl e13 ?_
          refine ir_l (pc' := 64) rfl rfl rfl rfl rfl rfl ?_
          refine ir_getR (pc' := 67) rfl rfl rfl (gG_at tsk_11) rfl e14 ?_
          refine ir_tgr (pc' := 70) rfl rfl rfl tf_14_6 tsk_14 hT11 (fun b15 b15e b15k => ?_)
          refine ir_cVV (pc' := 73) rfl rfl rfl rfl rfl (Nat.le_of_ble_eq_true rfl) oo_X6_copy (gG_at b4k) (sf_copy6 L ys (d + 5) s11 hT11 b4 b4k b15 b15k ) (fun s17 hr => ?_)
          obtain ⟨hT17, hG17⟩ := hr
          have hF17 := fr_trans hF11 hG17 (by decide)
          have e18 : s17.1 84 4 = ((w17_84_4 : Nat) : Int) := (hG17.1 _ _ tsk_11 4 (by decide)).trans e12
          have e19 : s17.1 84 5 = ((b4 : Nat) : Int) := (hG17.1 _ _ tsk_11 5 (by decide)).trans e13
          have e20 : s17.1 84 3 = ((247 : Nat) : Int) := (hG17.1 _ _ tsk_11 3 (by decide)).trans e14
          have e21 : s17.1 247 6 = ((b15 : Nat) : Int) := (hG17.1 _ _ tsk_14 6 (by decide)).trans b15e
          refine ir_l (pc' := 74) rfl rfl rfl rfl rfl rfl ?_
          refine ir_getR (pc' := 77) rfl rfl rfl (gG_at tsk_11) rfl e20 ?_
          refine ir_l (pc' := 78) rfl rfl rfl rfl rfl rfl ?_
          refine ir_getR (pc' := 81) rfl rfl rfl (gG_at tsk_11) rfl e18 ?_
          refine ir_l (pc' := 82) rfl rfl rfl rfl rfl rfl ?_
          refine ir_getR (pc' := 85) rfl rfl rfl (gG_at tsk_11) rfl e19 ?_
          refine ir_cVI (pc' := 88) rfl rfl rfl rfl rfl (Nat.le_of_ble_eq_true rfl) oo_X2_divide (gG_at tsk_14) (sf_divide2 L ys (d + 4) s17 hT17 w17_84_4 w17_84_4k b4 b4k ) (fun z22 s23 hr => ?_)
          obtain ⟨hT23, hG23, z22l, z22h⟩ := hr
          have hF23 := fr_trans hF17 hG23 (by decide)
          have e24 : s23.1 84 4 = ((w17_84_4 : Nat) : Int) := (hG23.1 _ _ tsk_11 4 (by decide)).trans e18
          have e25 : s23.1 84 5 = ((b4 : Nat) : Int) := (hG23.1 _ _ tsk_11 5 (by decide)).trans e19
          have e26 : s23.1 84 3 = ((247 : Nat) : Int) := (hG23.1 _ _ tsk_11 3 (by decide)).trans e20
          have e27 : s23.1 247 6 = ((b15 : Nat) : Int) := (hG23.1 _ _ tsk_14 6 (by decide)).trans e21
          refine ir_x (pc' := 89) rfl rfl rfl (fun _ => rfl) ?_
          refine ir_l (pc' := 90) rfl rfl rfl rfl rfl rfl ?_
          refine ir_tgr (pc' := 93) rfl rfl rfl tf_11_7 tsk_11 hT23 (fun b28 b28e b28k => ?_)
          refine ir_l (pc' := 94) rfl rfl rfl rfl rfl rfl ?_
          refine ir_getR (pc' := 97) rfl rfl rfl (gG_at tsk_11) rfl e26 ?_
          refine ir_tgr (pc' := 100) rfl rfl rfl tf_14_7 tsk_14 hT23 (fun b29 b29e b29k => ?_)
          refine ir_cVV (pc' := 103) rfl rfl rfl rfl rfl (Nat.le_of_ble_eq_true rfl) oo_X6_copy (gG_at b28k) (sf_copy6 L ys (d + 5) s23 hT23 b28 b28k b29 b29k ) (fun s31 hr => ?_)
          obtain ⟨hT31, hG31⟩ := hr
          have hF31 := fr_trans hF23 hG31 (by decide)
          have e32 : s31.1 84 4 = ((w17_84_4 : Nat) : Int) := (hG31.1 _ _ tsk_11 4 (by decide)).trans e24
          have e33 : s31.1 84 5 = ((b4 : Nat) : Int) := (hG31.1 _ _ tsk_11 5 (by decide)).trans e25
          have e34 : s31.1 84 3 = ((247 : Nat) : Int) := (hG31.1 _ _ tsk_11 3 (by decide)).trans e26
          have e35 : s31.1 247 6 = ((b15 : Nat) : Int) := (hG31.1 _ _ tsk_14 6 (by decide)).trans e27
          have e36 : s31.1 84 7 = ((b28 : Nat) : Int) := (hG31.1 _ _ tsk_11 7 (by decide)).trans b28e
          have e37 : s31.1 247 7 = ((b29 : Nat) : Int) := (hG31.1 _ _ tsk_14 7 (by decide)).trans b29e
          refine ir_l (pc' := 104) rfl rfl rfl rfl rfl rfl ?_
          refine ir_getR (pc' := 107) rfl rfl rfl (gG_at tsk_11) rfl e32 ?_
          refine ir_l (pc' := 108) rfl rfl rfl rfl rfl rfl ?_
          refine ir_getR (pc' := 111) rfl rfl rfl (gG_at tsk_11) rfl e33 ?_
          refine ir_cVV (pc' := 114) rfl rfl rfl rfl rfl (Nat.le_of_ble_eq_true rfl) oo_X6_copy (gG_at w17_84_4k) (sf_copy6 L ys (d + 5) s31 hT31 w17_84_4 w17_84_4k b4 b4k ) (fun s39 hr => ?_)
          obtain ⟨hT39, hG39⟩ := hr
          have hF39 := fr_trans hF31 hG39 (by decide)
          have e40 : s39.1 84 4 = ((w17_84_4 : Nat) : Int) := (hG39.1 _ _ tsk_11 4 (by decide)).trans e32
          have e41 : s39.1 84 5 = ((b4 : Nat) : Int) := (hG39.1 _ _ tsk_11 5 (by decide)).trans e33
          have e42 : s39.1 84 3 = ((247 : Nat) : Int) := (hG39.1 _ _ tsk_11 3 (by decide)).trans e34
          have e43 : s39.1 247 6 = ((b15 : Nat) : Int) := (hG39.1 _ _ tsk_14 6 (by decide)).trans e35
          have e44 : s39.1 84 7 = ((b28 : Nat) : Int) := (hG39.1 _ _ tsk_11 7 (by decide)).trans e36
          have e45 : s39.1 247 7 = ((b29 : Nat) : Int) := (hG39.1 _ _ tsk_14 7 (by decide)).trans e37
          refine ir_l (pc' := 115) rfl rfl rfl rfl rfl rfl ?_
          refine ir_l (pc' := 116) rfl rfl rfl rfl rfl rfl ?_
          refine ir_cVV (pc' := 119) rfl rfl rfl rfl rfl (Nat.le_of_ble_eq_true rfl) oo_X0_foldRest (gG_at tsk_11) (sf_foldRest0 L ys d s39 hT39 (x2) (by omega) (by omega) ) (fun s47 hr => ?_)
          obtain ⟨hT47, hG47⟩ := hr
          have hF47 := fr_trans hF39 hG47 (by decide)
          have e48 : s47.1 84 4 = ((w17_84_4 : Nat) : Int) := (hG47.1 _ _ tsk_11 4 (by decide)).trans e40
          have e49 : s47.1 84 5 = ((b4 : Nat) : Int) := (hG47.1 _ _ tsk_11 5 (by decide)).trans e41
          have e50 : s47.1 84 3 = ((247 : Nat) : Int) := (hG47.1 _ _ tsk_11 3 (by decide)).trans e42
          have e51 : s47.1 247 6 = ((b15 : Nat) : Int) := (hG47.1 _ _ tsk_14 6 (by decide)).trans e43
          have e52 : s47.1 84 7 = ((b28 : Nat) : Int) := (hG47.1 _ _ tsk_11 7 (by decide)).trans e44
          have e53 : s47.1 247 7 = ((b29 : Nat) : Int) := (hG47.1 _ _ tsk_14 7 (by decide)).trans e45
          refine ir_inc (pc' := 122) rfl rfl rfl rfl rfl (by omega) (by omega) ?_
          refine ir_goto (pc' := 17) rfl rfl ?_
          refine ir_w [(0, (2, ((84 : Nat) : Int))), (2, (0, x2)), (3, (0, (q17_l3 + 1)))] ⟨rfl, rfl, rfl, trivial⟩ ?_
          exact ih17 ((q17_l3 + 1)) (by omega) (by omega) s47 hT47 hF47 w17_84_4 w17_84_4k e48 (by omega)
  refine ir_l (pc' := 1) rfl rfl rfl rfl rfl rfl ?_
  refine ir_tgr (pc' := 4) rfl rfl rfl tf_11_4 tsk_11 hT0 (fun b54 b54e b54k => ?_)
  refine ir_l (pc' := 5) rfl rfl rfl rfl rfl rfl ?_
  refine ir_cVV (pc' := 8) rfl rfl rfl rfl rfl (Nat.le_of_ble_eq_true rfl) oo_X6_copy (gG_at b54k) (sf_copy6 L ys (d + 5) s0 hT0 b54 b54k a1 a1k ) (fun s56 hr => ?_)
  obtain ⟨hT56, hG56⟩ := hr
  have hF56 := fr_trans hF0 hG56 (by decide)
  have e57 : s56.1 84 4 = ((b54 : Nat) : Int) := (hG56.1 _ _ tsk_11 4 (by decide)).trans b54e
  refine ir_l (pc' := 9) rfl rfl rfl rfl rfl rfl ?_
  refine ir_getR (pc' := 12) rfl rfl rfl (gG_at tsk_11) rfl e57 ?_
  refine ir_cVV (pc' := 15) rfl rfl rfl rfl rfl (Nat.le_of_ble_eq_true rfl) oo_X6_makePrimitive (gG_at b54k) (sf_makePrimitive6 L ys (d + 3) s56 hT56 b54 b54k ) (fun s59 hr => ?_)
  obtain ⟨hT59, hG59⟩ := hr
  have hF59 := fr_trans hF56 hG59 (by decide)
  have e60 : s59.1 84 4 = ((b54 : Nat) : Int) := (hG59.1 _ _ tsk_11 4 (by decide)).trans e57
  refine ir_k (pc' := 16) (v := (0, 0)) rfl rfl rfl (fun _ => rfl) ?_
  refine ir_s (pc' := 17) rfl rfl rfl rfl rfl rfl ?_
  refine ir_w [(0, (2, ((84 : Nat) : Int))), (2, (0, x2)), (3, (0, 0))] ⟨rfl, rfl, rfl, trivial⟩ ?_
  exact J17 _ (0) (by omega) (by omega) s59 hT59 hF59 b54 b54k e60 (Int.self_le_toNat _)
theorem sf_multiplicity0 (L : Nat) (ys : Nat → Int32) (d : Nat) (s0 : im_S) (hT0 : tI s0) (x1 : Int) (x1l : 0 ≤ x1) (x1h : x1 ≤ 79) (x2 : Int) (x2l : 0 ≤ x2) (x2h : x2 ≤ 9) : icI gG rm_P L ys 0 (d + 1) 4 [(2, ((84 : Nat) : Int)), (0, x1), (0, x2)] s0 (fun z s => tI s ∧ fr [] s0 s ∧ -2147483648 ≤ z ∧ z ≤ 2147483647) := by
  refine ic_startM (M := rm_p_X0_multiplicity) om_X0_multiplicity (Nat.le_of_ble_eq_true rfl) ?_
  refine ir_w [(0, (2, ((84 : Nat) : Int))), (1, (0, x1)), (2, (0, x2))] ⟨rfl, rfl, rfl, trivial⟩ ?_
  have hF0 := fr_refl [] s0
  refine ir_l (pc' := 1) rfl rfl rfl rfl rfl rfl ?_
  refine ir_tgr (pc' := 4) rfl rfl rfl tf_11_1 tsk_11 hT0 (fun b1 b1e b1k => ?_)
  obtain rfl := tsg_13 b1k
  refine ir_l (pc' := 5) rfl rfl rfl rfl rfl rfl ?_
  refine ir_k (pc' := 7) (v := (0, 10)) rfl rfl rfl (fun _ => rfl) ?_
  refine ir_mul (pc' := 8) rfl rfl (by omega) (by omega) ?_
  refine ir_l (pc' := 9) rfl rfl rfl rfl rfl rfl ?_
  refine ir_add (pc' := 10) rfl rfl (by omega) (by omega) ?_
  refine ir_tia (pc' := 11) rfl rfl te_13 (by decide) tsk_13 hT0 (by omega) (by omega) (fun z2 z2e z2l z2h => ?_)
  clear z2e
  exact ir_iret rfl rfl ⟨_, rfl, hT0, hF0, by omega, by omega⟩
theorem sf_distinctRoots0 (L : Nat) (ys : Nat → Int32) (d : Nat) (s0 : im_S) (hT0 : tI s0) (x1 : Int) (x1l : 0 ≤ x1) (x1h : x1 ≤ 9) : icI gG rm_P L ys 0 (d + 2) 1 [(2, ((84 : Nat) : Int)), (0, x1)] s0 (fun z s => tI s ∧ fr [] s0 s ∧ -2147483648 ≤ z ∧ z ≤ 2147483647) := by
  refine ic_startM (M := rm_p_X0_distinctRoots) om_X0_distinctRoots (Nat.le_of_ble_eq_true rfl) ?_
  refine ir_w [(0, (2, ((84 : Nat) : Int))), (1, (0, x1))] ⟨rfl, rfl, trivial⟩ ?_
  have hF0 := fr_refl [] s0
  have J4 : ∀ n : Nat, ∀ (q4_l2 : Int) (q4_l2l : -2147483648 ≤ q4_l2) (q4_l2h : q4_l2 ≤ 2147483647) (q4_l3 : Int) (q4_l3l : 0 ≤ q4_l3) (q4_l3h : q4_l3 ≤ 80) (s_4 : im_S) (hT_4 : tI s_4) (hF_4 : fr [] s0 s_4), (80 + 1 - q4_l3) ≤ (n : Int) → ir gG rm_P L ys (d + 1) rm_p_X0_distinctRoots (4, [(0, (2, ((84 : Nat) : Int))), (1, (0, x1)), (2, (0, q4_l2)), (3, (0, q4_l3))], [], s_4) (fun r : im_Re => ∃ z, r.1 = some (0, z) ∧ (tI r.2 ∧ fr [] s0 r.2 ∧ -2147483648 ≤ z ∧ z ≤ 2147483647)) := by
    intro n
    induction n with
    | zero => intro q4_l2 q4_l2l q4_l2h q4_l3 q4_l3l q4_l3h s_4 hT_4 hF_4 hr; exfalso; omega
    | succ n ih4 =>
      intro q4_l2 q4_l2l q4_l2h q4_l3 q4_l3l q4_l3h s_4 hT_4 hF_4 hr
      have J35 : ∀ (q35_s0 : Int) (q35_s0l : -2147483648 ≤ q35_s0) (q35_s0h : q35_s0 ≤ 2147483647) (q35_s1 : Int) (q35_s1l : -1 ≤ q35_s1) (q35_s1h : q35_s1 ≤ 8) (f35_3h : q4_l3 ≤ 79) (s_35 : im_S) (hT_35 : tI s_35) (hF_35 : fr [] s0 s_35) (w35_84_2 : Int) (w35_84_2l : 1 ≤ w35_84_2) (w35_84_2h : w35_84_2 ≤ 80) (w35_84_2e : s_35.1 84 2 = w35_84_2), ir gG rm_P L ys (d + 1) rm_p_X0_distinctRoots (35, [(0, (2, ((84 : Nat) : Int))), (1, (0, x1)), (3, (0, q4_l3))], [(0, q35_s1), (0, q35_s0)], s_35) (fun r : im_Re => ∃ z, r.1 = some (0, z) ∧ (tI r.2 ∧ fr [] s0 r.2 ∧ -2147483648 ≤ z ∧ z ≤ 2147483647)) := by
        intro q35_s0 q35_s0l q35_s0h q35_s1 q35_s1l q35_s1h f35_3h s_35 hT_35 hF_35 w35_84_2 w35_84_2l w35_84_2h w35_84_2e
        refine ir_iiA (pc' := 36) rfl rfl rfl rfl (fun z1 z1l z1h => ?_)
        refine ir_s (pc' := 37) rfl rfl rfl rfl rfl rfl ?_
        refine ir_inc (pc' := 40) rfl rfl rfl rfl rfl (by omega) (by omega) ?_
        refine ir_goto (pc' := 4) rfl rfl ?_
        refine ir_w [(0, (2, ((84 : Nat) : Int))), (1, (0, x1)), (2, (0, z1)), (3, (0, (q4_l3 + 1)))] ⟨rfl, rfl, rfl, rfl, trivial⟩ ?_
        exact ih4 (z1) (by omega) (by omega) ((q4_l3 + 1)) (by omega) (by omega) s_35 hT_35 hF_35 (by omega)
      refine ir_l (pc' := 5) rfl rfl rfl rfl rfl rfl ?_
      refine ir_l (pc' := 6) rfl rfl rfl rfl rfl rfl ?_
      refine ir_tgi (pc' := 9) rfl rfl rfl tf_11_2 tsk_11 hT_4 (fun z2 z2e z2l z2h => ?_)
      refine ir_c_ge (pt := 43) (pc' := 12) rfl rfl rfl (fun c3 => ?_) (fun c3 => ?_)
      · refine ir_l (pc' := 44) rfl rfl rfl rfl rfl rfl ?_
        exact ir_iret rfl rfl ⟨_, rfl, hT_4, hF_4, by omega, by omega⟩
      · refine ir_l (pc' := 13) rfl rfl rfl rfl rfl rfl ?_
        refine ir_l (pc' := 14) rfl rfl rfl rfl rfl rfl ?_
        refine ir_l (pc' := 15) rfl rfl rfl rfl rfl rfl ?_
        refine ir_l (pc' := 16) rfl rfl rfl rfl rfl rfl ?_
        refine ir_cVI (pc' := 19) rfl rfl rfl rfl rfl (Nat.le_of_ble_eq_true rfl) oo_X0_multiplicity (gG_at tsk_11) (sf_multiplicity0 L ys d s_4 hT_4 (q4_l3) (by omega) (by omega) (x1) (by omega) (by omega) ) (fun z4 s5 hr => ?_)
        obtain ⟨hT5, hG5, z4l, z4h⟩ := hr
        have hF5 := fr_trans hF_4 hG5 (by decide)
        have e6 : s5.1 84 2 = z2 := (hG5.1 _ _ tsk_11 2 (by decide)).trans z2e
        refine ir_z_le (pt := 34) (pc' := 22) rfl rfl rfl (fun c7 => ?_) (fun c7 => ?_)
        · refine ir_k (pc' := 35) (v := (0, 0)) rfl rfl rfl (fun _ => rfl) ?_
          refine ir_w [(0, (2, ((84 : Nat) : Int))), (1, (0, x1)), (3, (0, q4_l3))] ⟨rfl, rfl, rfl, trivial⟩ ?_
          exact J35 (q4_l2) (by omega) (by omega) (0) (by omega) (by omega) (by omega) s5 hT5 hF5 (z2) (by omega) (by omega) e6
        · refine ir_l (pc' := 23) rfl rfl rfl rfl rfl rfl ?_
          refine ir_tgr (pc' := 26) rfl rfl rfl tf_11_0 tsk_11 hT5 (fun b8 b8e b8k => ?_)
          obtain rfl := tsg_12 b8k
          refine ir_l (pc' := 27) rfl rfl rfl rfl rfl rfl ?_
          refine ir_taa (pc' := 28) (k2 := 4) rfl rfl te_12 (by decide) tsk_12 hT5 (by omega) (by omega) (fun b9 b9k => ?_)
          refine ir_tgi (pc' := 31) rfl rfl rfl tf_4_0 b9k hT5 (fun z10 z10e z10l z10h => ?_)
          refine ir_goto (pc' := 35) rfl rfl ?_
          refine ir_w [(0, (2, ((84 : Nat) : Int))), (1, (0, x1)), (3, (0, q4_l3))] ⟨rfl, rfl, rfl, trivial⟩ ?_
          exact J35 (q4_l2) (by omega) (by omega) (z10) (by omega) (by omega) (by omega) s5 hT5 hF5 (z2) (by omega) (by omega) e6
  refine ir_k (pc' := 1) (v := (0, 0)) rfl rfl rfl (fun _ => rfl) ?_
  refine ir_s (pc' := 2) rfl rfl rfl rfl rfl rfl ?_
  refine ir_k (pc' := 3) (v := (0, 0)) rfl rfl rfl (fun _ => rfl) ?_
  refine ir_s (pc' := 4) rfl rfl rfl rfl rfl rfl ?_
  refine ir_w [(0, (2, ((84 : Nat) : Int))), (1, (0, x1)), (2, (0, 0)), (3, (0, 0))] ⟨rfl, rfl, rfl, rfl, trivial⟩ ?_
  exact J4 _ (0) (by omega) (by omega) (0) (by omega) (by omega) s0 hT0 hF0 (Int.self_le_toNat _)
theorem sf_sharedDegree0 (L : Nat) (ys : Nat → Int32) (d : Nat) (s0 : im_S) (hT0 : tI s0) (x1 : Int) (x1l : 0 ≤ x1) (x1h : x1 ≤ 79) : icI gG rm_P L ys 0 (d + 2) 5 [(2, ((84 : Nat) : Int)), (0, x1)] s0 (fun z s => tI s ∧ fr [] s0 s ∧ -2147483648 ≤ z ∧ z ≤ 2147483647) := by
  refine ic_startM (M := rm_p_X0_sharedDegree) om_X0_sharedDegree (Nat.le_of_ble_eq_true rfl) ?_
  refine ir_w [(0, (2, ((84 : Nat) : Int))), (1, (0, x1))] ⟨rfl, rfl, trivial⟩ ?_
  have hF0 := fr_refl [] s0
  have J4 : ∀ n : Nat, ∀ (q4_l2 : Int) (q4_l2l : -2147483648 ≤ q4_l2) (q4_l2h : q4_l2 ≤ 2147483647) (q4_l3 : Int) (q4_l3l : 0 ≤ q4_l3) (q4_l3h : q4_l3 ≤ 80) (s_4 : im_S) (hT_4 : tI s_4) (hF_4 : fr [] s0 s_4), (80 + 1 - q4_l3) ≤ (n : Int) → ir gG rm_P L ys (d + 1) rm_p_X0_sharedDegree (4, [(0, (2, ((84 : Nat) : Int))), (1, (0, x1)), (2, (0, q4_l2)), (3, (0, q4_l3))], [], s_4) (fun r : im_Re => ∃ z, r.1 = some (0, z) ∧ (tI r.2 ∧ fr [] s0 r.2 ∧ -2147483648 ≤ z ∧ z ≤ 2147483647)) := by
    intro n
    induction n with
    | zero => intro q4_l2 q4_l2l q4_l2h q4_l3 q4_l3l q4_l3h s_4 hT_4 hF_4 hr; exfalso; omega
    | succ n ih4 =>
      intro q4_l2 q4_l2l q4_l2h q4_l3 q4_l3l q4_l3h s_4 hT_4 hF_4 hr
      have J82 : ∀ (q82_s0 : Int) (q82_s0l : -2147483648 ≤ q82_s0) (q82_s0h : q82_s0 ≤ 2147483647) (q82_s1 : Int) (q82_s1l : -1 ≤ q82_s1) (q82_s1h : q82_s1 ≤ 8) (f82_3h : q4_l3 ≤ 79) (s_82 : im_S) (hT_82 : tI s_82) (hF_82 : fr [] s0 s_82) (w82_84_2 : Int) (w82_84_2l : 1 ≤ w82_84_2) (w82_84_2h : w82_84_2 ≤ 80) (w82_84_2e : s_82.1 84 2 = w82_84_2), ir gG rm_P L ys (d + 1) rm_p_X0_sharedDegree (82, [(0, (2, ((84 : Nat) : Int))), (1, (0, x1)), (3, (0, q4_l3))], [(0, q82_s1), (0, q82_s0)], s_82) (fun r : im_Re => ∃ z, r.1 = some (0, z) ∧ (tI r.2 ∧ fr [] s0 r.2 ∧ -2147483648 ≤ z ∧ z ≤ 2147483647)) := by
        intro q82_s0 q82_s0l q82_s0h q82_s1 q82_s1l q82_s1h f82_3h s_82 hT_82 hF_82 w82_84_2 w82_84_2l w82_84_2h w82_84_2e
        refine ir_iiA (pc' := 83) rfl rfl rfl rfl (fun z1 z1l z1h => ?_)
        refine ir_s (pc' := 84) rfl rfl rfl rfl rfl rfl ?_
        refine ir_inc (pc' := 87) rfl rfl rfl rfl rfl (by omega) (by omega) ?_
        refine ir_goto (pc' := 4) rfl rfl ?_
        refine ir_w [(0, (2, ((84 : Nat) : Int))), (1, (0, x1)), (2, (0, z1)), (3, (0, (q4_l3 + 1)))] ⟨rfl, rfl, rfl, rfl, trivial⟩ ?_
        exact ih4 (z1) (by omega) (by omega) ((q4_l3 + 1)) (by omega) (by omega) s_82 hT_82 hF_82 (by omega)
      have J18 : ∀ n : Nat, ∀ (q18_l4 : Int) (q18_l4l : 0 ≤ q18_l4) (q18_l4h : q18_l4 ≤ 1) (q18_l5 : Int) (q18_l5l : 0 ≤ q18_l5) (q18_l5h : q18_l5 ≤ 10) (f18_3h : q4_l3 ≤ 79) (s_18 : im_S) (hT_18 : tI s_18) (hF_18 : fr [] s0 s_18) (w18_84_2 : Int) (w18_84_2l : 1 ≤ w18_84_2) (w18_84_2h : w18_84_2 ≤ 80) (w18_84_2e : s_18.1 84 2 = w18_84_2), (10 + 1 - q18_l5) ≤ (n : Int) → ir gG rm_P L ys (d + 1) rm_p_X0_sharedDegree (18, [(0, (2, ((84 : Nat) : Int))), (1, (0, x1)), (2, (0, q4_l2)), (3, (0, q4_l3)), (4, (0, q18_l4)), (5, (0, q18_l5))], [], s_18) (fun r : im_Re => ∃ z, r.1 = some (0, z) ∧ (tI r.2 ∧ fr [] s0 r.2 ∧ -2147483648 ≤ z ∧ z ≤ 2147483647)) := by
        intro n
        induction n with
        | zero => intro q18_l4 q18_l4l q18_l4h q18_l5 q18_l5l q18_l5h f18_3h s_18 hT_18 hF_18 w18_84_2 w18_84_2l w18_84_2h w18_84_2e hr; exfalso; omega
        | succ n ih18 =>
          intro q18_l4 q18_l4l q18_l4h q18_l5 q18_l5l q18_l5h f18_3h s_18 hT_18 hF_18 w18_84_2 w18_84_2l w18_84_2h w18_84_2e hr
          have J55 : ∀ (q55_s0 : Int) (q55_s0l : 0 ≤ q55_s0) (q55_s0h : q55_s0 ≤ 1) (f55_5h : q18_l5 ≤ 9) (s_55 : im_S) (hT_55 : tI s_55) (hF_55 : fr [] s0 s_55) (w55_84_2 : Int) (w55_84_2l : 1 ≤ w55_84_2) (w55_84_2h : w55_84_2 ≤ 80) (w55_84_2e : s_55.1 84 2 = w55_84_2), ir gG rm_P L ys (d + 1) rm_p_X0_sharedDegree (55, [(0, (2, ((84 : Nat) : Int))), (1, (0, x1)), (2, (0, q4_l2)), (3, (0, q4_l3)), (5, (0, q18_l5))], [(0, q55_s0)], s_55) (fun r : im_Re => ∃ z, r.1 = some (0, z) ∧ (tI r.2 ∧ fr [] s0 r.2 ∧ -2147483648 ≤ z ∧ z ≤ 2147483647)) := by
            intro q55_s0 q55_s0l q55_s0h f55_5h s_55 hT_55 hF_55 w55_84_2 w55_84_2l w55_84_2h w55_84_2e
            refine ir_s (pc' := 57) rfl rfl rfl rfl rfl rfl ?_
            refine ir_inc (pc' := 60) rfl rfl rfl rfl rfl (by omega) (by omega) ?_
            refine ir_goto (pc' := 18) rfl rfl ?_
            refine ir_w [(0, (2, ((84 : Nat) : Int))), (1, (0, x1)), (2, (0, q4_l2)), (3, (0, q4_l3)), (4, (0, q55_s0)), (5, (0, (q18_l5 + 1)))] ⟨rfl, rfl, rfl, rfl, rfl, rfl, trivial⟩ ?_
            exact ih18 (q55_s0) (by omega) (by omega) ((q18_l5 + 1)) (by omega) (by omega) (by omega) s_55 hT_55 hF_55 (w55_84_2) (by omega) (by omega) w55_84_2e (by omega)
          have J54 : ∀ (f54_5h : q18_l5 ≤ 9) (s_54 : im_S) (hT_54 : tI s_54) (hF_54 : fr [] s0 s_54) (w54_84_2 : Int) (w54_84_2l : 1 ≤ w54_84_2) (w54_84_2h : w54_84_2 ≤ 80) (w54_84_2e : s_54.1 84 2 = w54_84_2), ir gG rm_P L ys (d + 1) rm_p_X0_sharedDegree (54, [(0, (2, ((84 : Nat) : Int))), (1, (0, x1)), (2, (0, q4_l2)), (3, (0, q4_l3)), (5, (0, q18_l5))], [], s_54) (fun r : im_Re => ∃ z, r.1 = some (0, z) ∧ (tI r.2 ∧ fr [] s0 r.2 ∧ -2147483648 ≤ z ∧ z ≤ 2147483647)) := by
            intro f54_5h s_54 hT_54 hF_54 w54_84_2 w54_84_2l w54_84_2h w54_84_2e
            refine ir_k (pc' := 55) (v := (0, 0)) rfl rfl rfl (fun _ => rfl) ?_
            refine ir_w [(0, (2, ((84 : Nat) : Int))), (1, (0, x1)), (2, (0, q4_l2)), (3, (0, q4_l3)), (5, (0, q18_l5))] ⟨rfl, rfl, rfl, rfl, rfl, trivial⟩ ?_
            exact J55 (0) (by omega) (by omega) (by omega) s_54 hT_54 hF_54 (w54_84_2) (by omega) (by omega) w54_84_2e
          have J50 : ∀ (f50_5h : q18_l5 ≤ 9) (s_50 : im_S) (hT_50 : tI s_50) (hF_50 : fr [] s0 s_50) (w50_84_2 : Int) (w50_84_2l : 1 ≤ w50_84_2) (w50_84_2h : w50_84_2 ≤ 80) (w50_84_2e : s_50.1 84 2 = w50_84_2), ir gG rm_P L ys (d + 1) rm_p_X0_sharedDegree (50, [(0, (2, ((84 : Nat) : Int))), (1, (0, x1)), (2, (0, q4_l2)), (3, (0, q4_l3)), (5, (0, q18_l5))], [], s_50) (fun r : im_Re => ∃ z, r.1 = some (0, z) ∧ (tI r.2 ∧ fr [] s0 r.2 ∧ -2147483648 ≤ z ∧ z ≤ 2147483647)) := by
            intro f50_5h s_50 hT_50 hF_50 w50_84_2 w50_84_2l w50_84_2h w50_84_2e
            refine ir_k (pc' := 51) (v := (0, 1)) rfl rfl rfl (fun _ => rfl) ?_
            refine ir_goto (pc' := 55) rfl rfl ?_
            refine ir_w [(0, (2, ((84 : Nat) : Int))), (1, (0, x1)), (2, (0, q4_l2)), (3, (0, q4_l3)), (5, (0, q18_l5))] ⟨rfl, rfl, rfl, rfl, rfl, trivial⟩ ?_
            exact J55 (1) (by omega) (by omega) (by omega) s_50 hT_50 hF_50 (w50_84_2) (by omega) (by omega) w50_84_2e
          refine ir_l (pc' := 20) rfl rfl rfl rfl rfl rfl ?_
          refine ir_k (pc' := 22) (v := (0, 10)) rfl rfl rfl (fun _ => rfl) ?_
          refine ir_c_ge (pt := 63) (pc' := 25) rfl rfl rfl (fun c2 => ?_) (fun c2 => ?_)
          · refine ir_l (pc' := 64) rfl rfl rfl rfl rfl rfl ?_
            refine ir_l (pc' := 66) rfl rfl rfl rfl rfl rfl ?_
            refine ir_z_eq (pt := 81) (pc' := 69) rfl rfl rfl (fun c3 => ?_) (fun c3 => ?_)
            · refine ir_k (pc' := 82) (v := (0, 0)) rfl rfl rfl (fun _ => rfl) ?_
              refine ir_w [(0, (2, ((84 : Nat) : Int))), (1, (0, x1)), (3, (0, q4_l3))] ⟨rfl, rfl, rfl, trivial⟩ ?_
              exact J82 (q4_l2) (by omega) (by omega) (0) (by omega) (by omega) (by omega) s_18 hT_18 hF_18 (w18_84_2) (by omega) (by omega) w18_84_2e
            · refine ir_l (pc' := 70) rfl rfl rfl rfl rfl rfl ?_
              refine ir_tgr (pc' := 73) rfl rfl rfl tf_11_0 tsk_11 hT_18 (fun b4 b4e b4k => ?_)
              obtain rfl := tsg_12 b4k
              refine ir_l (pc' := 74) rfl rfl rfl rfl rfl rfl ?_
              refine ir_taa (pc' := 75) (k2 := 4) rfl rfl te_12 (by decide) tsk_12 hT_18 (by omega) (by omega) (fun b5 b5k => ?_)
              refine ir_tgi (pc' := 78) rfl rfl rfl tf_4_0 b5k hT_18 (fun z6 z6e z6l z6h => ?_)
              refine ir_goto (pc' := 82) rfl rfl ?_
              refine ir_w [(0, (2, ((84 : Nat) : Int))), (1, (0, x1)), (3, (0, q4_l3))] ⟨rfl, rfl, rfl, trivial⟩ ?_
              exact J82 (q4_l2) (by omega) (by omega) (z6) (by omega) (by omega) (by omega) s_18 hT_18 hF_18 (w18_84_2) (by omega) (by omega) w18_84_2e
          · refine ir_l (pc' := 27) rfl rfl rfl rfl rfl rfl ?_
            refine ir_z_eq (pt := 54) (pc' := 30) rfl rfl rfl (fun c7 => ?_) (fun c7 => ?_)
            · refine ir_w [(0, (2, ((84 : Nat) : Int))), (1, (0, x1)), (2, (0, q4_l2)), (3, (0, q4_l3)), (5, (0, q18_l5))] ⟨rfl, rfl, rfl, rfl, rfl, trivial⟩ ?_
              exact J54 (by omega) s_18 hT_18 hF_18 (w18_84_2) (by omega) (by omega) w18_84_2e
            · refine ir_l (pc' := 31) rfl rfl rfl rfl rfl rfl ?_
              refine ir_l (pc' := 32) rfl rfl rfl rfl rfl rfl ?_
              refine ir_l (pc' := 34) rfl rfl rfl rfl rfl rfl ?_
              refine ir_cVI (pc' := 37) rfl rfl rfl rfl rfl (Nat.le_of_ble_eq_true rfl) oo_X0_multiplicity (gG_at tsk_11) (sf_multiplicity0 L ys d s_18 hT_18 (x1) (by omega) (by omega) (q18_l5) (by omega) (by omega) ) (fun z8 s9 hr => ?_)
              obtain ⟨hT9, hG9, z8l, z8h⟩ := hr
              have hF9 := fr_trans hF_18 hG9 (by decide)
              have e10 : s9.1 84 2 = w18_84_2 := (hG9.1 _ _ tsk_11 2 (by decide)).trans w18_84_2e
              refine ir_z_eq (pt := 50) (pc' := 40) rfl rfl rfl (fun c11 => ?_) (fun c11 => ?_)
              · refine ir_w [(0, (2, ((84 : Nat) : Int))), (1, (0, x1)), (2, (0, q4_l2)), (3, (0, q4_l3)), (5, (0, q18_l5))] ⟨rfl, rfl, rfl, rfl, rfl, trivial⟩ ?_
                exact J50 (by omega) s9 hT9 hF9 (w18_84_2) (by omega) (by omega) e10
              · refine ir_l (pc' := 41) rfl rfl rfl rfl rfl rfl ?_
                refine ir_l (pc' := 42) rfl rfl rfl rfl rfl rfl ?_
                refine ir_l (pc' := 44) rfl rfl rfl rfl rfl rfl ?_
                refine ir_cVI (pc' := 47) rfl rfl rfl rfl rfl (Nat.le_of_ble_eq_true rfl) oo_X0_multiplicity (gG_at tsk_11) (sf_multiplicity0 L ys d s9 hT9 (q4_l3) (by omega) (by omega) (q18_l5) (by omega) (by omega) ) (fun z12 s13 hr => ?_)
                obtain ⟨hT13, hG13, z12l, z12h⟩ := hr
                have hF13 := fr_trans hF9 hG13 (by decide)
                have e14 : s13.1 84 2 = w18_84_2 := (hG13.1 _ _ tsk_11 2 (by decide)).trans e10
                refine ir_z_le (pt := 54) (pc' := 50) rfl rfl rfl (fun c15 => ?_) (fun c15 => ?_)
                · refine ir_w [(0, (2, ((84 : Nat) : Int))), (1, (0, x1)), (2, (0, q4_l2)), (3, (0, q4_l3)), (5, (0, q18_l5))] ⟨rfl, rfl, rfl, rfl, rfl, trivial⟩ ?_
                  exact J54 (by omega) s13 hT13 hF13 (w18_84_2) (by omega) (by omega) e14
                · refine ir_w [(0, (2, ((84 : Nat) : Int))), (1, (0, x1)), (2, (0, q4_l2)), (3, (0, q4_l3)), (5, (0, q18_l5))] ⟨rfl, rfl, rfl, rfl, rfl, trivial⟩ ?_
                  exact J50 (by omega) s13 hT13 hF13 (w18_84_2) (by omega) (by omega) e14
      refine ir_l (pc' := 5) rfl rfl rfl rfl rfl rfl ?_
      refine ir_l (pc' := 6) rfl rfl rfl rfl rfl rfl ?_
      refine ir_tgi (pc' := 9) rfl rfl rfl tf_11_2 tsk_11 hT_4 (fun z16 z16e z16l z16h => ?_)
      refine ir_c_ge (pt := 90) (pc' := 12) rfl rfl rfl (fun c17 => ?_) (fun c17 => ?_)
      · refine ir_l (pc' := 91) rfl rfl rfl rfl rfl rfl ?_
        exact ir_iret rfl rfl ⟨_, rfl, hT_4, hF_4, by omega, by omega⟩
      · refine ir_k (pc' := 13) (v := (0, 1)) rfl rfl rfl (fun _ => rfl) ?_
        refine ir_s (pc' := 15) rfl rfl rfl rfl rfl rfl ?_
        refine ir_k (pc' := 16) (v := (0, 0)) rfl rfl rfl (fun _ => rfl) ?_
        refine ir_s (pc' := 18) rfl rfl rfl rfl rfl rfl ?_
        refine ir_w [(0, (2, ((84 : Nat) : Int))), (1, (0, x1)), (2, (0, q4_l2)), (3, (0, q4_l3)), (4, (0, 1)), (5, (0, 0))] ⟨rfl, rfl, rfl, rfl, rfl, rfl, trivial⟩ ?_
        exact J18 _ (1) (by omega) (by omega) (0) (by omega) (by omega) (by omega) s_4 hT_4 hF_4 (z16) (by omega) (by omega) z16e (Int.self_le_toNat _)
  refine ir_k (pc' := 1) (v := (0, 0)) rfl rfl rfl (fun _ => rfl) ?_
  refine ir_s (pc' := 2) rfl rfl rfl rfl rfl rfl ?_
  refine ir_k (pc' := 3) (v := (0, 0)) rfl rfl rfl (fun _ => rfl) ?_
  refine ir_s (pc' := 4) rfl rfl rfl rfl rfl rfl ?_
  refine ir_w [(0, (2, ((84 : Nat) : Int))), (1, (0, x1)), (2, (0, 0)), (3, (0, 0))] ⟨rfl, rfl, rfl, rfl, trivial⟩ ?_
  exact J4 _ (0) (by omega) (by omega) (0) (by omega) (by omega) s0 hT0 hF0 (Int.self_le_toNat _)
theorem sf_copy1_19_19 (L : Nat) (ys : Nat → Int32) (d : Nat) (s0 : im_S) (hT0 : tI s0) (a0 : Nat) (a0k : gK[a0]? = some 19) (a1 : Nat) (a1k : gK[a1]? = some 19) : icV gG rm_P L ys (d + 2) 111 [(2, (a0 : Int)), (2, (a1 : Int))] s0 (fun s => tI s ∧ fr [(19, 1), (19, 2)] s0 s) := by
  refine ic_startM (M := rm_p_X1_copy) om_X1_copy (Nat.le_of_ble_eq_true rfl) ?_
  refine ir_w [(0, (2, ((a0 : Nat) : Int))), (1, (2, ((a1 : Nat) : Int)))] ⟨rfl, rfl, trivial⟩ ?_
  have hF0 := fr_refl [(19, 1), (19, 2)] s0
  refine ir_l (pc' := 1) rfl rfl rfl rfl rfl rfl ?_
  refine ir_l (pc' := 2) rfl rfl rfl rfl rfl rfl ?_
  refine ir_tgi (pc' := 5) rfl rfl rfl tf_19_1 a1k hT0 (fun z1 z1e z1l z1h => ?_)
  refine ir_l (pc' := 6) rfl rfl rfl rfl rfl rfl ?_
  refine ir_tgr (pc' := 9) rfl rfl rfl tf_19_0 a0k hT0 (fun b2 b2e b2k => ?_)
  refine ir_tlen (pc' := 10) rfl rfl te_20 (by decide) b2k ?_
  refine ir_cSI (pc' := 13) rfl rfl rfl rfl rfl rfl (Nat.le_of_ble_eq_true rfl) (sf_min L ys d s0 (z1) (by omega) (by omega) (((24 : Nat) : Int)) (by omega) (by omega)) (fun z3 s4 hr => ?_)
  obtain ⟨rfl, z3p0, z3p1, z3p2⟩ := hr
  refine ir_tpi (pc' := 16) rfl rfl rfl tf_19_1 rfl a0k hT0 rfl (by omega) (by omega) (fun s5 hT5 e5 g5 r5 => ?_)
  have hF5 := fr_put (k := 19) hF0 (by decide) a0k g5 r5
  have e6 : s5.1 a0 0 = ((b2 : Nat) : Int) := (g5 a0 0 (fun z => absurd z.2 (by decide))).trans b2e
  refine ir_l (pc' := 17) rfl rfl rfl rfl rfl rfl ?_
  refine ir_tgr (pc' := 20) rfl rfl rfl tf_19_0 a1k hT5 (fun b7 b7e b7k => ?_)
  refine ir_k (pc' := 21) (v := (0, 0)) rfl rfl rfl (fun _ => rfl) ?_
  refine ir_l (pc' := 22) rfl rfl rfl rfl rfl rfl ?_
  refine ir_getR (pc' := 25) rfl rfl rfl (gG_at a0k) rfl e6 ?_
  refine ir_k (pc' := 26) (v := (0, 0)) rfl rfl rfl (fun _ => rfl) ?_
  refine ir_l (pc' := 27) rfl rfl rfl rfl rfl rfl ?_
  refine ir_getI (pc' := 30) rfl rfl rfl (gG_at a0k) rfl (by decide) (by decide) e5 (by omega) (by omega) ?_
  refine ir_tcp (pc' := 33) rfl rfl rfl te_20 te_20 b7k b2k hT5 (by omega) (by omega) (by omega) (by omega) (by omega) (Nat.le_of_ble_eq_true rfl) (fun s8 hT8 r8 o8 => ?_)
  have hF8 := fr_row hF5 r8 o8
  have e9 : s8.1 a0 0 = ((b2 : Nat) : Int) := by rw [r8]; exact e6
  have e10 : s8.1 a0 1 = z3 := by rw [r8]; exact e5
  have e11 : s8.1 a1 0 = ((b7 : Nat) : Int) := by rw [r8]; exact b7e
  refine ir_l (pc' := 34) rfl rfl rfl rfl rfl rfl ?_
  refine ir_l (pc' := 35) rfl rfl rfl rfl rfl rfl ?_
  refine ir_tgi (pc' := 38) rfl rfl rfl tf_19_2 a1k hT8 (fun z12 z12e z12l z12h => ?_)
  refine ir_tpi (pc' := 41) rfl rfl rfl tf_19_2 rfl a0k hT8 rfl (by omega) (by omega) (fun s13 hT13 e13 g13 r13 => ?_)
  have hF13 := fr_put (k := 19) hF8 (by decide) a0k g13 r13
  have e14 : s13.1 a0 0 = ((b2 : Nat) : Int) := (g13 a0 0 (fun z => absurd z.2 (by decide))).trans e9
  have e15 : s13.1 a0 1 = z3 := (g13 a0 1 (fun z => absurd z.2 (by decide))).trans e10
  have e16 : s13.1 a1 0 = ((b7 : Nat) : Int) := (g13 a1 0 (fun z => absurd z.2 (by decide))).trans e11
  exact ir_vret rfl rfl ⟨rfl, hT13, hF13⟩
theorem sf_trim1_19 (L : Nat) (ys : Nat → Int32) (d : Nat) (s0 : im_S) (hT0 : tI s0) (a0 : Nat) (a0k : gK[a0]? = some 19) : icV gG rm_P L ys (d + 1) 121 [(2, (a0 : Int))] s0 (fun s => tI s ∧ fr [(19, 1), (19, 2)] s0 s) := by
  refine ic_startM (M := rm_p_X1_trim) om_X1_trim (Nat.le_of_ble_eq_true rfl) ?_
  refine ir_w [(0, (2, ((a0 : Nat) : Int)))] ⟨rfl, trivial⟩ ?_
  have hF0 := fr_refl [(19, 1), (19, 2)] s0
  have J46 : ∀ (s_46 : im_S) (hT_46 : tI s_46) (hF_46 : fr [(19, 1), (19, 2)] s0 s_46) (w46_a0_1 : Int) (w46_a0_1l : 0 ≤ w46_a0_1) (w46_a0_1h : w46_a0_1 ≤ 24) (w46_a0_1e : s_46.1 a0 1 = w46_a0_1), ir gG rm_P L ys d rm_p_X1_trim (46, [], [], s_46) (fun r : im_Re => r.1 = none ∧ (tI r.2 ∧ fr [(19, 1), (19, 2)] s0 r.2)) := by
    intro s_46 hT_46 hF_46 w46_a0_1 w46_a0_1l w46_a0_1h w46_a0_1e
    exact ir_vret rfl rfl ⟨rfl, hT_46, hF_46⟩
  have J34 : ∀ (s_34 : im_S) (hT_34 : tI s_34) (hF_34 : fr [(19, 1), (19, 2)] s0 s_34) (w34_a0_1 : Int) (w34_a0_1l : 0 ≤ w34_a0_1) (w34_a0_1h : w34_a0_1 ≤ 24) (w34_a0_1e : s_34.1 a0 1 = w34_a0_1), ir gG rm_P L ys d rm_p_X1_trim (34, [(0, (2, ((a0 : Nat) : Int)))], [], s_34) (fun r : im_Re => r.1 = none ∧ (tI r.2 ∧ fr [(19, 1), (19, 2)] s0 r.2)) := by
    intro s_34 hT_34 hF_34 w34_a0_1 w34_a0_1l w34_a0_1h w34_a0_1e
    refine ir_l (pc' := 35) rfl rfl rfl rfl rfl rfl ?_
    refine ir_getI (pc' := 38) rfl rfl rfl (gG_at a0k) rfl (by decide) (by decide) w34_a0_1e (by omega) (by omega) ?_
    refine ir_z_ne (pt := 46) (pc' := 41) rfl rfl rfl (fun c1 => ?_) (fun c1 => ?_)
    · refine ir_w [] trivial ?_
      exact J46 s_34 hT_34 hF_34 (w34_a0_1) (by omega) (by omega) w34_a0_1e
    · refine ir_l (pc' := 42) rfl rfl rfl rfl rfl rfl ?_
      refine ir_k (pc' := 43) (v := (0, 0)) rfl rfl rfl (fun _ => rfl) ?_
      refine ir_tpi (pc' := 46) rfl rfl rfl tf_19_2 rfl a0k hT_34 rfl (by omega) (by omega) (fun s2 hT2 e2 g2 r2 => ?_)
      have hF2 := fr_put (k := 19) hF_34 (by decide) a0k g2 r2
      have e3 : s2.1 a0 1 = w34_a0_1 := (g2 a0 1 (fun z => absurd z.2 (by decide))).trans w34_a0_1e
      refine ir_w [] trivial ?_
      exact J46 s2 hT2 hF2 (w34_a0_1) (by omega) (by omega) e3
  have J0 : ∀ n : Nat, ∀ (s_0 : im_S) (hT_0 : tI s_0) (hF_0 : fr [(19, 1), (19, 2)] s0 s_0) (w0_a0_1 : Int) (w0_a0_1l : 0 ≤ w0_a0_1) (w0_a0_1h : w0_a0_1 ≤ 24) (w0_a0_1e : s_0.1 a0 1 = w0_a0_1), (w0_a0_1 + 1) ≤ (n : Int) → ir gG rm_P L ys d rm_p_X1_trim (0, [(0, (2, ((a0 : Nat) : Int)))], [], s_0) (fun r : im_Re => r.1 = none ∧ (tI r.2 ∧ fr [(19, 1), (19, 2)] s0 r.2)) := by
    intro n
    induction n with
    | zero => intro s_0 hT_0 hF_0 w0_a0_1 w0_a0_1l w0_a0_1h w0_a0_1e hr; exfalso; omega
    | succ n ih0 =>
      intro s_0 hT_0 hF_0 w0_a0_1 w0_a0_1l w0_a0_1h w0_a0_1e hr
      refine ir_l (pc' := 1) rfl rfl rfl rfl rfl rfl ?_
      refine ir_getI (pc' := 4) rfl rfl rfl (gG_at a0k) rfl (by decide) (by decide) w0_a0_1e (by omega) (by omega) ?_
      refine ir_z_le (pt := 34) (pc' := 7) rfl rfl rfl (fun c4 => ?_) (fun c4 => ?_)
      · refine ir_w [(0, (2, ((a0 : Nat) : Int)))] ⟨rfl, trivial⟩ ?_
        exact J34 s_0 hT_0 hF_0 (w0_a0_1) (by omega) (by omega) w0_a0_1e
      · refine ir_l (pc' := 8) rfl rfl rfl rfl rfl rfl ?_
        refine ir_tgr (pc' := 11) rfl rfl rfl tf_19_0 a0k hT_0 (fun b5 b5e b5k => ?_)
        refine ir_l (pc' := 12) rfl rfl rfl rfl rfl rfl ?_
        refine ir_getI (pc' := 15) rfl rfl rfl (gG_at a0k) rfl (by decide) (by decide) w0_a0_1e (by omega) (by omega) ?_
        refine ir_k (pc' := 16) (v := (0, 1)) rfl rfl rfl (fun _ => rfl) ?_
        refine ir_sub (pc' := 17) rfl rfl (by omega) (by omega) ?_
        refine ir_tia (pc' := 18) rfl rfl te_20 (by decide) b5k hT_0 (by omega) (by omega) (fun z6 z6e z6l z6h => ?_)
        clear z6e
        refine ir_z_ne (pt := 34) (pc' := 21) rfl rfl rfl (fun c7 => ?_) (fun c7 => ?_)
        · refine ir_w [(0, (2, ((a0 : Nat) : Int)))] ⟨rfl, trivial⟩ ?_
          exact J34 s_0 hT_0 hF_0 (w0_a0_1) (by omega) (by omega) w0_a0_1e
        · refine ir_l (pc' := 22) rfl rfl rfl rfl rfl rfl ?_
          refine ir_x (pc' := 23) rfl rfl rfl (fun _ => rfl) ?_
          refine ir_getI (pc' := 26) rfl rfl rfl (gG_at a0k) rfl (by decide) (by decide) w0_a0_1e (by omega) (by omega) ?_
          refine ir_k (pc' := 27) (v := (0, 1)) rfl rfl rfl (fun _ => rfl) ?_
          refine ir_sub (pc' := 28) rfl rfl (by omega) (by omega) ?_
          refine ir_tpi (pc' := 31) rfl rfl rfl tf_19_1 rfl a0k hT_0 rfl (by omega) (by omega) (fun s8 hT8 e8 g8 r8 => ?_)
          have hF8 := fr_put (k := 19) hF_0 (by decide) a0k g8 r8
          have e9 : s8.1 a0 0 = ((b5 : Nat) : Int) := (g8 a0 0 (fun z => absurd z.2 (by decide))).trans b5e
          refine ir_goto (pc' := 0) rfl rfl ?_
          refine ir_w [(0, (2, ((a0 : Nat) : Int)))] ⟨rfl, trivial⟩ ?_
          exact ih0 s8 hT8 hF8 ((w0_a0_1 - 1)) (by omega) (by omega) e8 (by omega)
  obtain ⟨z10, z10e, z10l, z10h⟩ := tI_i tf_19_1 a0k hT0
  refine ir_w [(0, (2, ((a0 : Nat) : Int)))] ⟨rfl, trivial⟩ ?_
  exact J0 _ s0 hT0 hF0 (z10) (by omega) (by omega) z10e (Int.self_le_toNat _)
