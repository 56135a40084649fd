/-! WALKS OF THE CLASS'S METHODS, by program -/
theorem sf_shrink1_25_19 (L : Nat) (ys : Nat → Int32) (d : Nat) (s0 : im_S) (hT0 : tI s0) (a0 : Nat) (a0k : gK[a0]? = some 25) (a1 : Nat) (a1k : gK[a1]? = some 19) : icV gG rm_P L ys (d + 2) 119 [(2, (a0 : Int)), (2, (a1 : Int))] s0 (fun s => tI s ∧ fr [(25, 1), (25, 2)] s0 s) := by
  refine ic_startM (M := rm_p_X1_shrink) om_X1_shrink (Nat.le_of_ble_eq_true rfl) ?_
  refine ir_w [(0, (2, ((a0 : Nat) : Int))), (1, (2, ((a1 : Nat) : Int)))] ⟨rfl, rfl, trivial⟩ ?_
  have hF0 := fr_refl [(25, 1), (25, 2)] s0
  have J183 : ∀ (s_183 : im_S) (hT_183 : tI s_183) (hF_183 : fr [(25, 1), (25, 2)] s0 s_183) (w183_a0_0 : Nat) (w183_a0_0k : gK[w183_a0_0]? = some 26) (w183_a0_0e : s_183.1 a0 0 = ((w183_a0_0 : Nat) : Int)) (w183_a0_1 : Int) (w183_a0_1l : 0 ≤ w183_a0_1) (w183_a0_1h : w183_a0_1 ≤ 196) (w183_a0_1e : s_183.1 a0 1 = w183_a0_1), ir gG rm_P L ys (d + 1) rm_p_X1_shrink (183, [], [], s_183) (fun r : im_Re => r.1 = none ∧ (tI r.2 ∧ fr [(25, 1), (25, 2)] s0 r.2)) := by
    intro s_183 hT_183 hF_183 w183_a0_0 w183_a0_0k w183_a0_0e w183_a0_1 w183_a0_1l w183_a0_1h w183_a0_1e
    exact ir_vret rfl rfl ⟨rfl, hT_183, hF_183⟩
  have J134 : ∀ n : Nat, ∀ (q134_l4 : Int) (q134_l4l : 0 ≤ q134_l4) (q134_l4h : q134_l4 ≤ 196) (q134_l5 : Int) (q134_l5l : -9223372036854775808 ≤ q134_l5) (q134_l5h : q134_l5 ≤ 9223372036854775807) (q134_l7 : Int) (q134_l7l : 0 ≤ q134_l7) (q134_l7h : q134_l7 ≤ 196) (s_134 : im_S) (hT_134 : tI s_134) (hF_134 : fr [(25, 1), (25, 2)] s0 s_134) (w134_a0_0 : Nat) (w134_a0_0k : gK[w134_a0_0]? = some 26) (w134_a0_0e : s_134.1 a0 0 = ((w134_a0_0 : Nat) : Int)) (w134_a0_1 : Int) (w134_a0_1l : 0 ≤ w134_a0_1) (w134_a0_1h : w134_a0_1 ≤ 196) (w134_a0_1e : s_134.1 a0 1 = w134_a0_1) (w134_a0_2 : Int) (w134_a0_2l : -2147483648 ≤ w134_a0_2) (w134_a0_2h : w134_a0_2 ≤ 2147483647) (w134_a0_2e : s_134.1 a0 2 = w134_a0_2), (196 + 1 - q134_l7) ≤ (n : Int) → ir gG rm_P L ys (d + 1) rm_p_X1_shrink (134, [(0, (2, ((a0 : Nat) : Int))), (4, (0, q134_l4)), (5, (1, q134_l5)), (7, (0, q134_l7))], [], s_134) (fun r : im_Re => r.1 = none ∧ (tI r.2 ∧ fr [(25, 1), (25, 2)] s0 r.2)) := by
    intro n
    induction n with
    | zero => intro q134_l4 q134_l4l q134_l4h q134_l5 q134_l5l q134_l5h q134_l7 q134_l7l q134_l7h s_134 hT_134 hF_134 w134_a0_0 w134_a0_0k w134_a0_0e w134_a0_1 w134_a0_1l w134_a0_1h w134_a0_1e w134_a0_2 w134_a0_2l w134_a0_2h w134_a0_2e hr; exfalso; omega
    | succ n ih134 =>
      intro q134_l4 q134_l4l q134_l4h q134_l5 q134_l5l q134_l5h q134_l7 q134_l7l q134_l7h s_134 hT_134 hF_134 w134_a0_0 w134_a0_0k w134_a0_0e w134_a0_1 w134_a0_1l w134_a0_1h w134_a0_1e w134_a0_2 w134_a0_2l w134_a0_2h w134_a0_2e hr
      refine ir_l (pc' := 136) rfl rfl rfl rfl rfl rfl ?_
      refine ir_l (pc' := 138) rfl rfl rfl rfl rfl rfl ?_
      refine ir_c_ge (pt := 183) (pc' := 141) rfl rfl rfl (fun c1 => ?_) (fun c1 => ?_)
      · refine ir_w [] trivial ?_
        exact J183 s_134 hT_134 hF_134 w134_a0_0 w134_a0_0k w134_a0_0e (w134_a0_1) (by omega) (by omega) w134_a0_1e
      · refine ir_l (pc' := 143) rfl rfl rfl rfl rfl rfl ?_
        refine ir_l (pc' := 144) rfl rfl rfl rfl rfl rfl ?_
        refine ir_getR (pc' := 147) rfl rfl rfl (gG_at a0k) rfl w134_a0_0e ?_
        refine ir_l (pc' := 149) rfl rfl rfl rfl rfl rfl ?_
        refine ir_tia (pc' := 150) rfl rfl te_26 (by decide) w134_a0_0k hT_134 (by omega) (by omega) (fun z2 z2e z2l z2h => ?_)
        clear z2e
        refine ir_k (pc' := 151) (v := (0, (-1))) rfl rfl rfl (fun _ => rfl) ?_
        refine ir_iiA (pc' := 152) rfl rfl rfl rfl (fun z3 z3l z3h => ?_)
        refine ir_i2l (pc' := 153) rfl rfl (by omega) (by omega) ?_
        refine ir_k (pc' := 156) (v := (1, 4294967295)) rfl rfl rfl (fun _ => rfl) ?_
        refine ir_landm (pc' := 157) rfl rfl (by decide) (by decide) (fun z4 z4l z4h => ?_)
        refine ir_jjA (pc' := 158) rfl rfl rfl rfl (fun z5 z5l z5h => ?_)
        refine ir_s2 (pc' := 160) rfl rfl rfl rfl rfl rfl ?_
        refine ir_l (pc' := 161) rfl rfl rfl rfl rfl rfl ?_
        refine ir_getR (pc' := 164) rfl rfl rfl (gG_at a0k) rfl w134_a0_0e ?_
        refine ir_l (pc' := 166) rfl rfl rfl rfl rfl rfl ?_
        refine ir_l (pc' := 168) rfl rfl rfl rfl rfl rfl ?_
        refine ir_j1A (pc' := 169) rfl rfl rfl rfl (fun z6 z6e z6l z6h => ?_)
        clear z6e
        refine ir_tis (pc' := 170) rfl rfl rfl rfl te_26 w134_a0_0k hT_134 (by omega) (by omega) (rfl) (by omega) (by omega) (fun s7 hT7 r7 o7 => ?_)
        have hF7 := fr_row hF_134 r7 o7
        have e8 : s7.1 a0 0 = ((w134_a0_0 : Nat) : Int) := by rw [r7]; exact w134_a0_0e
        have e9 : s7.1 a0 1 = w134_a0_1 := by rw [r7]; exact w134_a0_1e
        have e10 : s7.1 a0 2 = w134_a0_2 := by rw [r7]; exact w134_a0_2e
        refine ir_l (pc' := 172) rfl rfl rfl rfl rfl rfl ?_
        refine ir_k (pc' := 174) (v := (0, 32)) rfl rfl rfl (fun _ => rfl) ?_
        refine ir_jijA (pc' := 175) rfl rfl rfl rfl (fun z11 z11l z11h => ?_)
        refine ir_s2 (pc' := 177) rfl rfl rfl rfl rfl rfl ?_
        refine ir_inc (pc' := 180) rfl rfl rfl rfl rfl (by omega) (by omega) ?_
        refine ir_goto (pc' := 134) rfl rfl ?_
        refine ir_w [(0, (2, ((a0 : Nat) : Int))), (4, (0, q134_l4)), (5, (1, z11)), (7, (0, (q134_l7 + 1)))] ⟨rfl, rfl, rfl, rfl, trivial⟩ ?_
        exact ih134 (q134_l4) (by omega) (by omega) (z11) (by omega) (by omega) ((q134_l7 + 1)) (by omega) (by omega) s7 hT7 hF7 w134_a0_0 w134_a0_0k e8 (w134_a0_1) (by omega) (by omega) e9 (w134_a0_2) (by omega) (by omega) e10 (by omega)
  have J26 : ∀ n : Nat, ∀ (q26_l2 : Int) (q26_l2l : -1 ≤ q26_l2) (q26_l2h : q26_l2 ≤ 0) (q26_l4 : Int) (q26_l4l : 0 ≤ q26_l4) (q26_l4h : q26_l4 ≤ 196) (q26_l5 : Int) (q26_l5l : 0 ≤ q26_l5) (q26_l5h : q26_l5 ≤ 196) (s_26 : im_S) (hT_26 : tI s_26) (hF_26 : fr [(25, 1), (25, 2)] s0 s_26) (w26_a0_0 : Nat) (w26_a0_0k : gK[w26_a0_0]? = some 26) (w26_a0_0e : s_26.1 a0 0 = ((w26_a0_0 : Nat) : Int)) (w26_a0_1 : Int) (w26_a0_1l : 0 ≤ w26_a0_1) (w26_a0_1h : w26_a0_1 ≤ 196) (w26_a0_1e : s_26.1 a0 1 = w26_a0_1) (w26_a1_1 : Int) (w26_a1_1l : 0 ≤ w26_a1_1) (w26_a1_1h : w26_a1_1 ≤ 24) (w26_a1_1e : s_26.1 a1 1 = w26_a1_1), (196 + 1 - q26_l5) ≤ (n : Int) → ir gG rm_P L ys (d + 1) rm_p_X1_shrink (26, [(0, (2, ((a0 : Nat) : Int))), (1, (2, ((a1 : Nat) : Int))), (2, (1, q26_l2)), (4, (0, q26_l4)), (5, (0, q26_l5))], [], s_26) (fun r : im_Re => r.1 = none ∧ (tI r.2 ∧ fr [(25, 1), (25, 2)] s0 r.2)) := by
    intro n
    induction n with
    | zero => intro q26_l2 q26_l2l q26_l2h q26_l4 q26_l4l q26_l4h q26_l5 q26_l5l q26_l5h s_26 hT_26 hF_26 w26_a0_0 w26_a0_0k w26_a0_0e w26_a0_1 w26_a0_1l w26_a0_1h w26_a0_1e w26_a1_1 w26_a1_1l w26_a1_1h w26_a1_1e hr; exfalso; omega
    | succ n ih26 =>
      intro q26_l2 q26_l2l q26_l2h q26_l4 q26_l4l q26_l4h q26_l5 q26_l5l q26_l5h s_26 hT_26 hF_26 w26_a0_0 w26_a0_0k w26_a0_0e w26_a0_1 w26_a0_1l w26_a0_1h w26_a0_1e w26_a1_1 w26_a1_1l w26_a1_1h w26_a1_1e hr
      have J84 : ∀ (q84_s0 : Int) (q84_s0l : -1 ≤ q84_s0) (q84_s0h : q84_s0 ≤ 0) (q84_s1 : Int) (q84_s1l : 0 ≤ q84_s1) (q84_s1h : q84_s1 ≤ 4294967295) (q84_s2 : Int) (q84_s2l : 0 ≤ q84_s2) (q84_s2h : q84_s2 ≤ 4294967295) (f84_4l : 1 ≤ q26_l4) (f84_5h : q26_l5 ≤ 195) (s_84 : im_S) (hT_84 : tI s_84) (hF_84 : fr [(25, 1), (25, 2)] s0 s_84) (w84_a0_0 : Nat) (w84_a0_0k : gK[w84_a0_0]? = some 26) (w84_a0_0e : s_84.1 a0 0 = ((w84_a0_0 : Nat) : Int)) (w84_a0_1 : Int) (w84_a0_1l : 0 ≤ w84_a0_1) (w84_a0_1h : w84_a0_1 ≤ 196) (w84_a0_1e : s_84.1 a0 1 = w84_a0_1) (w84_a1_1 : Int) (w84_a1_1l : 0 ≤ w84_a1_1) (w84_a1_1h : w84_a1_1 ≤ 24) (w84_a1_1e : s_84.1 a1 1 = w84_a1_1), ir gG rm_P L ys (d + 1) rm_p_X1_shrink (84, [(0, (2, ((a0 : Nat) : Int))), (1, (2, ((a1 : Nat) : Int))), (4, (0, q26_l4)), (5, (0, q26_l5))], [(1, q84_s2), (1, q84_s1), (1, q84_s0)], s_84) (fun r : im_Re => r.1 = none ∧ (tI r.2 ∧ fr [(25, 1), (25, 2)] s0 r.2)) := by
        intro q84_s0 q84_s0l q84_s0h q84_s1 q84_s1l q84_s1h q84_s2 q84_s2l q84_s2h f84_4l f84_5h s_84 hT_84 hF_84 w84_a0_0 w84_a0_0k w84_a0_0e w84_a0_1 w84_a0_1l w84_a0_1h w84_a0_1e w84_a1_1 w84_a1_1l w84_a1_1h w84_a1_1e
        refine ir_lsub (pc' := 85) rfl rfl (by omega) (by omega) ?_
        refine ir_ladd (pc' := 86) rfl rfl (by omega) (by omega) ?_
        refine ir_s2 (pc' := 87) rfl rfl rfl rfl rfl rfl ?_
        refine ir_l (pc' := 88) rfl rfl rfl rfl rfl rfl ?_
        refine ir_getR (pc' := 91) rfl rfl rfl (gG_at a0k) rfl w84_a0_0e ?_
        refine ir_l (pc' := 93) rfl rfl rfl rfl rfl rfl ?_
        refine ir_l (pc' := 94) rfl rfl rfl rfl rfl rfl ?_
        refine ir_j1A (pc' := 95) rfl rfl rfl rfl (fun z12 z12e z12l z12h => ?_)
        clear z12e
        refine ir_tis (pc' := 96) rfl rfl rfl rfl te_26 w84_a0_0k hT_84 (by omega) (by omega) (rfl) (by omega) (by omega) (fun s13 hT13 r13 o13 => ?_)
        have hF13 := fr_row hF_84 r13 o13
        have e14 : s13.1 a0 1 = w84_a0_1 := by rw [r13]; exact w84_a0_1e
        have e15 : s13.1 a1 1 = w84_a1_1 := by rw [r13]; exact w84_a1_1e
        have e16 : s13.1 a0 0 = ((w84_a0_0 : Nat) : Int) := by rw [r13]; exact w84_a0_0e
        refine ir_l (pc' := 97) rfl rfl rfl rfl rfl rfl ?_
        refine ir_k (pc' := 99) (v := (0, 32)) rfl rfl rfl (fun _ => rfl) ?_
        refine ir_lshr (pc' := 100) (y := 32) (k := 32) (m := 4294967296) rfl rfl (by decide) rfl (by decide) (by omega) (by omega) ?_
        refine ir_s2 (pc' := 101) rfl rfl rfl rfl rfl rfl ?_
        refine ir_inc (pc' := 104) rfl rfl rfl rfl rfl (by omega) (by omega) ?_
        refine ir_goto (pc' := 26) rfl rfl ?_
        refine ir_w [(0, (2, ((a0 : Nat) : Int))), (1, (2, ((a1 : Nat) : Int))), (2, (1, ((q84_s0 + (q84_s1 - q84_s2)) / 4294967296))), (4, (0, q26_l4)), (5, (0, (q26_l5 + 1)))] ⟨rfl, rfl, rfl, rfl, rfl, trivial⟩ ?_
        exact ih26 (((q84_s0 + (q84_s1 - q84_s2)) / 4294967296)) (by omega) (by omega) (q26_l4) (by omega) (by omega) ((q26_l5 + 1)) (by omega) (by omega) s13 hT13 hF13 w84_a0_0 w84_a0_0k e16 (w84_a0_1) (by omega) (by omega) e14 (w84_a1_1) (by omega) (by omega) e15 (by omega)
      have J59 : ∀ (q59_s0 : Int) (q59_s0l : -1 ≤ q59_s0) (q59_s0h : q59_s0 ≤ 0) (q59_s1 : Int) (q59_s1l : 0 ≤ q59_s1) (q59_s1h : q59_s1 ≤ 4294967295) (f59_4l : 1 ≤ q26_l4) (f59_5h : q26_l5 ≤ 195) (s_59 : im_S) (hT_59 : tI s_59) (hF_59 : fr [(25, 1), (25, 2)] s0 s_59) (w59_a0_0 : Nat) (w59_a0_0k : gK[w59_a0_0]? = some 26) (w59_a0_0e : s_59.1 a0 0 = ((w59_a0_0 : Nat) : Int)) (w59_a0_1 : Int) (w59_a0_1l : 0 ≤ w59_a0_1) (w59_a0_1h : w59_a0_1 ≤ 196) (w59_a0_1e : s_59.1 a0 1 = w59_a0_1) (w59_a1_1 : Int) (w59_a1_1l : 0 ≤ w59_a1_1) (w59_a1_1h : w59_a1_1 ≤ 24) (w59_a1_1e : s_59.1 a1 1 = w59_a1_1), ir gG rm_P L ys (d + 1) rm_p_X1_shrink (59, [(0, (2, ((a0 : Nat) : Int))), (1, (2, ((a1 : Nat) : Int))), (4, (0, q26_l4)), (5, (0, q26_l5))], [(1, q59_s1), (1, q59_s0)], s_59) (fun r : im_Re => r.1 = none ∧ (tI r.2 ∧ fr [(25, 1), (25, 2)] s0 r.2)) := by
        intro q59_s0 q59_s0l q59_s0h q59_s1 q59_s1l q59_s1h f59_4l f59_5h s_59 hT_59 hF_59 w59_a0_0 w59_a0_0k w59_a0_0e w59_a0_1 w59_a0_1l w59_a0_1h w59_a0_1e w59_a1_1 w59_a1_1l w59_a1_1h w59_a1_1e
        refine ir_l (pc' := 61) rfl rfl rfl rfl rfl rfl ?_
        refine ir_l (pc' := 62) rfl rfl rfl rfl rfl rfl ?_
        refine ir_getI (pc' := 65) rfl rfl rfl (gG_at a1k) rfl (by decide) (by decide) w59_a1_1e (by omega) (by omega) ?_
        refine ir_c_ge (pt := 83) (pc' := 68) rfl rfl rfl (fun c17 => ?_) (fun c17 => ?_)
        · refine ir_k (pc' := 84) (v := (1, 0)) rfl rfl rfl (fun _ => rfl) ?_
          refine ir_w [(0, (2, ((a0 : Nat) : Int))), (1, (2, ((a1 : Nat) : Int))), (4, (0, q26_l4)), (5, (0, q26_l5))] ⟨rfl, rfl, rfl, rfl, trivial⟩ ?_
          exact J84 (q59_s0) (by omega) (by omega) (q59_s1) (by omega) (by omega) (0) (by omega) (by omega) (by omega) (by omega) s_59 hT_59 hF_59 w59_a0_0 w59_a0_0k w59_a0_0e (w59_a0_1) (by omega) (by omega) w59_a0_1e (w59_a1_1) (by omega) (by omega) w59_a1_1e
        · refine ir_l (pc' := 69) rfl rfl rfl rfl rfl rfl ?_
          refine ir_tgr (pc' := 72) rfl rfl rfl tf_19_0 a1k hT_59 (fun b18 b18e b18k => ?_)
          refine ir_l (pc' := 74) rfl rfl rfl rfl rfl rfl ?_
          refine ir_tia (pc' := 75) rfl rfl te_20 (by decide) b18k hT_59 (by omega) (by omega) (fun z19 z19e z19l z19h => ?_)
          clear z19e
          refine ir_i2l (pc' := 76) rfl rfl (by omega) (by omega) ?_
          refine ir_k (pc' := 79) (v := (1, 4294967295)) rfl rfl rfl (fun _ => rfl) ?_
          refine ir_landm (pc' := 80) rfl rfl (by decide) (by decide) (fun z20 z20l z20h => ?_)
          refine ir_goto (pc' := 84) rfl rfl ?_
          refine ir_w [(0, (2, ((a0 : Nat) : Int))), (1, (2, ((a1 : Nat) : Int))), (4, (0, q26_l4)), (5, (0, q26_l5))] ⟨rfl, rfl, rfl, rfl, trivial⟩ ?_
          exact J84 (q59_s0) (by omega) (by omega) (q59_s1) (by omega) (by omega) (z20) (by omega) (by omega) (by omega) (by omega) s_59 hT_59 hF_59 w59_a0_0 w59_a0_0k w59_a0_0e (w59_a0_1) (by omega) (by omega) w59_a0_1e (w59_a1_1) (by omega) (by omega) w59_a1_1e
      refine ir_l (pc' := 28) rfl rfl rfl rfl rfl rfl ?_
      refine ir_l (pc' := 30) rfl rfl rfl rfl rfl rfl ?_
      refine ir_c_ge (pt := 107) (pc' := 33) rfl rfl rfl (fun c21 => ?_) (fun c21 => ?_)
      · refine ir_l (pc' := 108) rfl rfl rfl rfl rfl rfl ?_
        refine ir_l (pc' := 110) rfl rfl rfl rfl rfl rfl ?_
        refine ir_tpi (pc' := 113) rfl rfl rfl tf_25_1 rfl a0k hT_26 rfl (by omega) (by omega) (fun s22 hT22 e22 g22 r22 => ?_)
        have hF22 := fr_put (k := 25) hF_26 (by decide) a0k g22 r22
        have e23 : s22.1 a0 0 = ((w26_a0_0 : Nat) : Int) := (g22 a0 0 (fun z => absurd z.2 (by decide))).trans w26_a0_0e
        refine ir_l (pc' := 114) rfl rfl rfl rfl rfl rfl ?_
        refine ir_k (pc' := 115) (v := (1, 0)) rfl rfl rfl (fun _ => rfl) ?_
        refine ir_lcmp (pc' := 116) rfl rfl (by omega) (by omega) (by omega) (by omega) (fun z24 z24c => ?_)
        refine ir_z_eq (pt := 183) (pc' := 119) rfl rfl rfl (fun c25 => ?_) (fun c25 => ?_)
        · refine ir_w [] trivial ?_
          exact J183 s22 hT22 hF22 w26_a0_0 w26_a0_0k e23 (q26_l4) (by omega) (by omega) e22
        · refine ir_l (pc' := 120) rfl rfl rfl rfl rfl rfl ?_
          refine ir_l (pc' := 121) rfl rfl rfl rfl rfl rfl ?_
          refine ir_tgi (pc' := 124) rfl rfl rfl tf_25_2 a0k hT22 (fun z26 z26e z26l z26h => ?_)
          refine ir_i1A (pc' := 125) rfl rfl rfl rfl (fun z27 z27e z27l z27h => ?_)
          clear z27e
          refine ir_tpi (pc' := 128) rfl rfl rfl tf_25_2 rfl a0k hT22 rfl (by omega) (by omega) (fun s28 hT28 e28 g28 r28 => ?_)
          have hF28 := fr_put (k := 25) hF22 (by decide) a0k g28 r28
          have e29 : s28.1 a0 0 = ((w26_a0_0 : Nat) : Int) := (g28 a0 0 (fun z => absurd z.2 (by decide))).trans e23
          have e30 : s28.1 a0 1 = q26_l4 := (g28 a0 1 (fun z => absurd z.2 (by decide))).trans e22
          refine ir_k (pc' := 129) (v := (1, 1)) rfl rfl rfl (fun _ => rfl) ?_
          refine ir_s2 (pc' := 131) rfl rfl rfl rfl rfl rfl ?_
          refine ir_k (pc' := 132) (v := (0, 0)) rfl rfl rfl (fun _ => rfl) ?_
          refine ir_s (pc' := 134) rfl rfl rfl rfl rfl rfl ?_
          refine ir_w [(0, (2, ((a0 : Nat) : Int))), (4, (0, q26_l4)), (5, (1, 1)), (7, (0, 0))] ⟨rfl, rfl, rfl, rfl, trivial⟩ ?_
          exact J134 _ (q26_l4) (by omega) (by omega) (1) (by omega) (by omega) (0) (by omega) (by omega) s28 hT28 hF28 w26_a0_0 w26_a0_0k e29 (q26_l4) (by omega) (by omega) e30 (z27) (by omega) (by omega) e28 (Int.self_le_toNat _)
      · refine ir_l (pc' := 34) rfl rfl rfl rfl rfl rfl ?_
        refine ir_l (pc' := 36) rfl rfl rfl rfl rfl rfl ?_
        refine ir_l (pc' := 37) rfl rfl rfl rfl rfl rfl ?_
        refine ir_getI (pc' := 40) rfl rfl rfl (gG_at a0k) rfl (by decide) (by decide) w26_a0_1e (by omega) (by omega) ?_
        refine ir_c_ge (pt := 58) (pc' := 43) rfl rfl rfl (fun c31 => ?_) (fun c31 => ?_)
        · refine ir_k (pc' := 59) (v := (1, 0)) rfl rfl rfl (fun _ => rfl) ?_
          refine ir_w [(0, (2, ((a0 : Nat) : Int))), (1, (2, ((a1 : Nat) : Int))), (4, (0, q26_l4)), (5, (0, q26_l5))] ⟨rfl, rfl, rfl, rfl, trivial⟩ ?_
          exact J59 (q26_l2) (by omega) (by omega) (0) (by omega) (by omega) (by omega) (by omega) s_26 hT_26 hF_26 w26_a0_0 w26_a0_0k w26_a0_0e (w26_a0_1) (by omega) (by omega) w26_a0_1e (w26_a1_1) (by omega) (by omega) w26_a1_1e
        · refine ir_l (pc' := 44) rfl rfl rfl rfl rfl rfl ?_
          refine ir_getR (pc' := 47) rfl rfl rfl (gG_at a0k) rfl w26_a0_0e ?_
          refine ir_l (pc' := 49) rfl rfl rfl rfl rfl rfl ?_
          refine ir_tia (pc' := 50) rfl rfl te_26 (by decide) w26_a0_0k hT_26 (by omega) (by omega) (fun z32 z32e z32l z32h => ?_)
          clear z32e
          refine ir_i2l (pc' := 51) rfl rfl (by omega) (by omega) ?_
          refine ir_k (pc' := 54) (v := (1, 4294967295)) rfl rfl rfl (fun _ => rfl) ?_
          refine ir_landm (pc' := 55) rfl rfl (by decide) (by decide) (fun z33 z33l z33h => ?_)
          refine ir_goto (pc' := 59) rfl rfl ?_
          refine ir_w [(0, (2, ((a0 : Nat) : Int))), (1, (2, ((a1 : Nat) : Int))), (4, (0, q26_l4)), (5, (0, q26_l5))] ⟨rfl, rfl, rfl, rfl, trivial⟩ ?_
          exact J59 (q26_l2) (by omega) (by omega) (z33) (by omega) (by omega) (by omega) (by omega) s_26 hT_26 hF_26 w26_a0_0 w26_a0_0k w26_a0_0e (w26_a0_1) (by omega) (by omega) w26_a0_1e (w26_a1_1) (by omega) (by omega) w26_a1_1e
  refine ir_k (pc' := 1) (v := (1, 0)) rfl rfl rfl (fun _ => rfl) ?_
  refine ir_s2 (pc' := 2) rfl rfl rfl rfl rfl rfl ?_
  refine ir_l (pc' := 3) rfl rfl rfl rfl rfl rfl ?_
  refine ir_tgi (pc' := 6) rfl rfl rfl tf_25_1 a0k hT0 (fun z34 z34e z34l z34h => ?_)
  refine ir_l (pc' := 7) rfl rfl rfl rfl rfl rfl ?_
  refine ir_tgi (pc' := 10) rfl rfl rfl tf_19_1 a1k hT0 (fun z35 z35e z35l z35h => ?_)
  refine ir_cSI (pc' := 13) rfl rfl rfl rfl rfl rfl (Nat.le_of_ble_eq_true rfl) (sf_max L ys d s0 (z34) (by omega) (by omega) (z35) (by omega) (by omega)) (fun z36 s37 hr => ?_)
  obtain ⟨rfl, z36p0, z36p1, z36p2⟩ := hr
  refine ir_l (pc' := 14) rfl rfl rfl rfl rfl rfl ?_
  refine ir_tgr (pc' := 17) rfl rfl rfl tf_25_0 a0k hT0 (fun b38 b38e b38k => ?_)
  refine ir_tlen (pc' := 18) rfl rfl te_26 (by decide) b38k ?_
  refine ir_cSI (pc' := 21) rfl rfl rfl rfl rfl rfl (Nat.le_of_ble_eq_true rfl) (sf_min L ys d s0 (z36) (by omega) (by omega) (((196 : Nat) : Int)) (by omega) (by omega)) (fun z39 s40 hr => ?_)
  obtain ⟨rfl, z39p0, z39p1, z39p2⟩ := hr
  refine ir_s (pc' := 23) rfl rfl rfl rfl rfl rfl ?_
  refine ir_k (pc' := 24) (v := (0, 0)) rfl rfl rfl (fun _ => rfl) ?_
  refine ir_s (pc' := 26) rfl rfl rfl rfl rfl rfl ?_
  refine ir_w [(0, (2, ((a0 : Nat) : Int))), (1, (2, ((a1 : Nat) : Int))), (2, (1, 0)), (4, (0, z39)), (5, (0, 0))] ⟨rfl, rfl, rfl, rfl, rfl, trivial⟩ ?_
  exact J26 _ (0) (by omega) (by omega) (z39) (by omega) (by omega) (0) (by omega) (by omega) s0 hT0 hF0 b38 b38k b38e (z34) (by omega) (by omega) z34e (z35) (by omega) (by omega) z35e (Int.self_le_toNat _)
theorem sf_add1_25_19 (L : Nat) (ys : Nat → Int32) (d : Nat) (s0 : im_S) (hT0 : tI s0) (a0 : Nat) (a0k : gK[a0]? = some 25) (a1 : Nat) (a1k : gK[a1]? = some 19) (x2 : Int) (x2l : -2147483648 ≤ x2) (x2h : x2 ≤ 2147483647) : icV gG rm_P L ys (d + 3) 108 [(2, (a0 : Int)), (2, (a1 : Int)), (0, x2)] s0 (fun s => tI s ∧ fr [(25, 1), (25, 2)] s0 s) := by
  refine ic_startM (M := rm_p_X1_add) om_X1_add (Nat.le_of_ble_eq_true rfl) ?_
  refine ir_w [(0, (2, ((a0 : Nat) : Int))), (1, (2, ((a1 : Nat) : Int))), (2, (0, x2))] ⟨rfl, rfl, rfl, trivial⟩ ?_
  have hF0 := fr_refl [(25, 1), (25, 2)] s0
  have J57 : ∀ (s_57 : im_S) (hT_57 : tI s_57) (hF_57 : fr [(25, 1), (25, 2)] s0 s_57), ir gG rm_P L ys (d + 2) rm_p_X1_add (57, [], [], s_57) (fun r : im_Re => r.1 = none ∧ (tI r.2 ∧ fr [(25, 1), (25, 2)] s0 r.2)) := by
    intro s_57 hT_57 hF_57
    exact ir_vret rfl rfl ⟨rfl, hT_57, hF_57⟩
  refine ir_l (pc' := 1) rfl rfl rfl rfl rfl rfl ?_
  refine ir_tgi (pc' := 4) rfl rfl rfl tf_19_2 a1k hT0 (fun z1 z1e z1l z1h => ?_)
  refine ir_l (pc' := 5) rfl rfl rfl rfl rfl rfl ?_
  refine ir_iiA (pc' := 6) rfl rfl rfl rfl (fun z2 z2l z2h => ?_)
  refine ir_s (pc' := 7) rfl rfl rfl rfl rfl rfl ?_
  refine ir_l (pc' := 8) rfl rfl rfl rfl rfl rfl ?_
  refine ir_z_ne (pt := 12) (pc' := 11) rfl rfl rfl (fun c3 => ?_) (fun c3 => ?_)
  · refine ir_l (pc' := 13) rfl rfl rfl rfl rfl rfl ?_
    refine ir_tgi (pc' := 16) rfl rfl rfl tf_25_2 a0k hT0 (fun z4 z4e z4l z4h => ?_)
    refine ir_z_ne (pt := 32) (pc' := 19) rfl rfl rfl (fun c5 => ?_) (fun c5 => ?_)
    · refine ir_l (pc' := 33) rfl rfl rfl rfl rfl rfl ?_
      refine ir_getI (pc' := 36) rfl rfl rfl (gG_at a0k) rfl (by decide) (by decide) z4e (by omega) (by omega) ?_
      refine ir_l (pc' := 37) rfl rfl rfl rfl rfl rfl ?_
      refine ir_c_ne (pt := 48) (pc' := 40) rfl rfl rfl (fun c6 => ?_) (fun c6 => ?_)
      · refine ir_l (pc' := 49) rfl rfl rfl rfl rfl rfl ?_
        refine ir_l (pc' := 50) rfl rfl rfl rfl rfl rfl ?_
        refine ir_cVV (pc' := 53) rfl rfl rfl rfl rfl (Nat.le_of_ble_eq_true rfl) oo_X1_shrink (gG_at a0k) (sf_shrink1_25_19 L ys d s0 hT0 a0 a0k a1 a1k ) (fun s8 hr => ?_)
        obtain ⟨hT8, hG8⟩ := hr
        have hF8 := fr_trans hF0 hG8 (by decide)
        have e9 : s8.1 a1 2 = z1 := (hG8.1 _ _ a1k 2 (by decide)).trans z1e
        refine ir_l (pc' := 54) rfl rfl rfl rfl rfl rfl ?_
        refine ir_cVV (pc' := 57) rfl rfl rfl rfl rfl (Nat.le_of_ble_eq_true rfl) oo_X1_trim (gG_at a0k) (sf_trim1_25 L ys (d + 1) s8 hT8 a0 a0k ) (fun s11 hr => ?_)
        obtain ⟨hT11, hG11⟩ := hr
        have hF11 := fr_trans hF8 hG11 (by decide)
        have e12 : s11.1 a1 2 = z1 := (hG11.1 _ _ a1k 2 (by decide)).trans e9
        refine ir_w [] trivial ?_
        exact J57 s11 hT11 hF11
      · refine ir_l (pc' := 41) rfl rfl rfl rfl rfl rfl ?_
        refine ir_l (pc' := 42) rfl rfl rfl rfl rfl rfl ?_
        refine ir_cVV (pc' := 45) rfl rfl rfl rfl rfl (Nat.le_of_ble_eq_true rfl) oo_X1_grow (gG_at a0k) (sf_grow1_25_19 L ys d s0 hT0 a0 a0k a1 a1k ) (fun s14 hr => ?_)
        obtain ⟨hT14, hG14⟩ := hr
        have hF14 := fr_trans hF0 hG14 (by decide)
        have e15 : s14.1 a1 2 = z1 := (hG14.1 _ _ a1k 2 (by decide)).trans z1e
        have e16 : s14.1 a0 2 = z4 := (hG14.1 _ _ a0k 2 (by decide)).trans z4e
        refine ir_goto (pc' := 57) rfl rfl ?_
        refine ir_w [] trivial ?_
        exact J57 s14 hT14 hF14
    · refine ir_l (pc' := 20) rfl rfl rfl rfl rfl rfl ?_
      refine ir_l (pc' := 21) rfl rfl rfl rfl rfl rfl ?_
      refine ir_cVV (pc' := 24) rfl rfl rfl rfl rfl (Nat.le_of_ble_eq_true rfl) oo_X1_copy (gG_at a0k) (sf_copy1_25_19 L ys d s0 hT0 a0 a0k a1 a1k ) (fun s18 hr => ?_)
      obtain ⟨hT18, hG18⟩ := hr
      have hF18 := fr_trans hF0 hG18 (by decide)
      have e19 : s18.1 a1 2 = z1 := (hG18.1 _ _ a1k 2 (by decide)).trans z1e
      refine ir_l (pc' := 25) rfl rfl rfl rfl rfl rfl ?_
      refine ir_l (pc' := 26) rfl rfl rfl rfl rfl rfl ?_
      refine ir_tpi (pc' := 29) rfl rfl rfl tf_25_2 rfl a0k hT18 rfl (by omega) (by omega) (fun s20 hT20 e20 g20 r20 => ?_)
      have hF20 := fr_put (k := 25) hF18 (by decide) a0k g20 r20
      refine ir_goto (pc' := 57) rfl rfl ?_
      refine ir_w [] trivial ?_
      exact J57 s20 hT20 hF20
  · exact ir_vret rfl rfl ⟨rfl, hT0, hF0⟩
theorem sf_sideOf3 (L : Nat) (ys : Nat → Int32) (d : Nat) (s0 : im_S) (hT0 : tI s0) (a1 : Nat) (a1k : gK[a1]? = some 23) (x2 : Int) (x2l : -9223372036854775808 ≤ x2) (x2h : x2 ≤ 9223372036854775807) (x3 : Int) (x3l : -9223372036854775808 ≤ x3) (x3h : x3 ≤ 9223372036854775807) : icI gG rm_P L ys 0 (d + 4) 143 [(2, ((83 : Nat) : Int)), (2, (a1 : Int)), (1, x2), (1, x3)] s0 (fun z s => tI s ∧ fr [(19, 1), (19, 2), (25, 1), (25, 2)] s0 s ∧ -1 ≤ z ∧ z ≤ 1) := by
  refine ic_startM (M := rm_p_X3_sideOf) om_X3_sideOf (Nat.le_of_ble_eq_true rfl) ?_
  refine ir_w [(0, (2, ((83 : Nat) : Int))), (1, (2, ((a1 : Nat) : Int))), (2, (1, x2)), (4, (1, x3))] ⟨rfl, rfl, rfl, rfl, trivial⟩ ?_
  have hF0 := fr_refl [(19, 1), (19, 2), (25, 1), (25, 2)] s0
  have J94 : ∀ (q94_s0 : Int) (q94_s0l : 0 ≤ q94_s0) (q94_s0h : q94_s0 ≤ 1) (s_94 : im_S) (hT_94 : tI s_94) (hF_94 : fr [(19, 1), (19, 2), (25, 1), (25, 2)] s0 s_94) (w94_83_10 : Nat) (w94_83_10k : gK[w94_83_10]? = some 25) (w94_83_10e : s_94.1 83 10 = ((w94_83_10 : Nat) : Int)) (w94_83_11 : Nat) (w94_83_11k : gK[w94_83_11]? = some 25) (w94_83_11e : s_94.1 83 11 = ((w94_83_11 : Nat) : Int)) (w94_83_12 : Nat) (w94_83_12k : gK[w94_83_12]? = some 19) (w94_83_12e : s_94.1 83 12 = ((w94_83_12 : Nat) : Int)) (w94_a1_6 : Nat) (w94_a1_6k : gK[w94_a1_6]? = some 19) (w94_a1_6e : s_94.1 a1 6 = ((w94_a1_6 : Nat) : Int)) (w94_a1_7 : Int) (w94_a1_7l : -2147483648 ≤ w94_a1_7) (w94_a1_7h : w94_a1_7 ≤ 2147483647) (w94_a1_7e : s_94.1 a1 7 = w94_a1_7), ir gG rm_P L ys (d + 3) rm_p_X3_sideOf (94, [], [(0, q94_s0)], s_94) (fun r : im_Re => ∃ z, r.1 = some (0, z) ∧ (tI r.2 ∧ fr [(19, 1), (19, 2), (25, 1), (25, 2)] s0 r.2 ∧ -1 ≤ z ∧ z ≤ 1)) := by
    intro q94_s0 q94_s0l q94_s0h s_94 hT_94 hF_94 w94_83_10 w94_83_10k w94_83_10e w94_83_11 w94_83_11k w94_83_11e w94_83_12 w94_83_12k w94_83_12e w94_a1_6 w94_a1_6k w94_a1_6e w94_a1_7 w94_a1_7l w94_a1_7h w94_a1_7e
    exact ir_iret rfl rfl ⟨_, rfl, hT_94, hF_94, by omega, by omega⟩
  refine ir_l (pc' := 1) rfl rfl rfl rfl rfl rfl ?_
  refine ir_tgr (pc' := 4) rfl rfl rfl tf_10_10 tsk_10 hT0 (fun b1 b1e b1k => ?_)
  refine ir_l (pc' := 5) rfl rfl rfl rfl rfl rfl ?_
  refine ir_cVV (pc' := 8) rfl rfl rfl rfl rfl (Nat.le_of_ble_eq_true rfl) oo_X1_set (gG_at b1k) (sf_set1_25 L ys (d + 1) s0 hT0 b1 b1k (x2) (by omega) (by omega) ) (fun s3 hr => ?_)
  obtain ⟨hT3, hG3⟩ := hr
  have hF3 := fr_trans hF0 hG3 (by decide)
  have e4 : s3.1 83 10 = ((b1 : Nat) : Int) := (hG3.1 _ _ tsk_10 10 (by decide)).trans b1e
  refine ir_l (pc' := 9) rfl rfl rfl rfl rfl rfl ?_
  refine ir_getR (pc' := 12) rfl rfl rfl (gG_at tsk_10) rfl e4 ?_
  refine ir_l (pc' := 13) rfl rfl rfl rfl rfl rfl ?_
  refine ir_tgi (pc' := 16) rfl rfl rfl tf_23_7 a1k hT3 (fun z5 z5e z5l z5h => ?_)
  refine ir_cVV (pc' := 19) rfl rfl rfl rfl rfl (Nat.le_of_ble_eq_true rfl) oo_X1_shiftUp (gG_at b1k) (sf_shiftUp1_25 L ys (d + 1) s3 hT3 b1 b1k (z5) (by omega) (by omega) ) (fun s7 hr => ?_)
  obtain ⟨hT7, hG7⟩ := hr
  have hF7 := fr_trans hF3 hG7 (by decide)
  have e8 : s7.1 83 10 = ((b1 : Nat) : Int) := (hG7.1 _ _ tsk_10 10 (by decide)).trans e4
  have e9 : s7.1 a1 7 = z5 := (hG7.1 _ _ a1k 7 (by decide)).trans z5e
  refine ir_l (pc' := 20) rfl rfl rfl rfl rfl rfl ?_
  refine ir_tgr (pc' := 23) rfl rfl rfl tf_10_12 tsk_10 hT7 (fun b10 b10e b10k => ?_)
  refine ir_l (pc' := 25) rfl rfl rfl rfl rfl rfl ?_
  refine ir_cVV (pc' := 28) rfl rfl rfl rfl rfl (Nat.le_of_ble_eq_true rfl) oo_X1_set (gG_at b10k) (sf_set1_19 L ys (d + 1) s7 hT7 b10 b10k (x3) (by omega) (by omega) ) (fun s12 hr => ?_)
  obtain ⟨hT12, hG12⟩ := hr
  have hF12 := fr_trans hF7 hG12 (by decide)
  have e13 : s12.1 83 10 = ((b1 : Nat) : Int) := (hG12.1 _ _ tsk_10 10 (by decide)).trans e8
  have e14 : s12.1 a1 7 = z5 := (hG12.1 _ _ a1k 7 (by decide)).trans e9
  have e15 : s12.1 83 12 = ((b10 : Nat) : Int) := (hG12.1 _ _ tsk_10 12 (by decide)).trans b10e
  refine ir_l (pc' := 29) rfl rfl rfl rfl rfl rfl ?_
  refine ir_tgr (pc' := 32) rfl rfl rfl tf_10_11 tsk_10 hT12 (fun b16 b16e b16k => ?_)
  refine ir_l (pc' := 33) rfl rfl rfl rfl rfl rfl ?_
  refine ir_tgr (pc' := 36) rfl rfl rfl tf_23_6 a1k hT12 (fun b17 b17e b17k => ?_)
  refine ir_l (pc' := 37) rfl rfl rfl rfl rfl rfl ?_
  refine ir_getR (pc' := 40) rfl rfl rfl (gG_at tsk_10) rfl e15 ?_
  refine ir_cVV (pc' := 43) rfl rfl rfl rfl rfl (Nat.le_of_ble_eq_true rfl) oo_X1_setProduct (gG_at b16k) (sf_setProduct1_25_19_19 L ys (d + 1) s12 hT12 b16 b16k b17 b17k b10 b10k ) (fun s19 hr => ?_)
  obtain ⟨hT19, hG19⟩ := hr
  have hF19 := fr_trans hF12 hG19 (by decide)
  have e20 : s19.1 83 10 = ((b1 : Nat) : Int) := (hG19.1 _ _ tsk_10 10 (by decide)).trans e13
  have e21 : s19.1 a1 7 = z5 := (hG19.1 _ _ a1k 7 (by decide)).trans e14
  have e22 : s19.1 83 12 = ((b10 : Nat) : Int) := (hG19.1 _ _ tsk_10 12 (by decide)).trans e15
  have e23 : s19.1 83 11 = ((b16 : Nat) : Int) := (hG19.1 _ _ tsk_10 11 (by decide)).trans b16e
  have e24 : s19.1 a1 6 = ((b17 : Nat) : Int) := (hG19.1 _ _ a1k 6 (by decide)).trans b17e
  refine ir_l (pc' := 44) rfl rfl rfl rfl rfl rfl ?_
  refine ir_getR (pc' := 47) rfl rfl rfl (gG_at tsk_10) rfl e20 ?_
  refine ir_l (pc' := 48) rfl rfl rfl rfl rfl rfl ?_
  refine ir_getR (pc' := 51) rfl rfl rfl (gG_at tsk_10) rfl e23 ?_
  refine ir_k (pc' := 52) (v := (0, (-1))) rfl rfl rfl (fun _ => rfl) ?_
  refine ir_cVV (pc' := 55) rfl rfl rfl rfl rfl (Nat.le_of_ble_eq_true rfl) oo_X1_add (gG_at b1k) (sf_add1_25_25 L ys d s19 hT19 b1 b1k b16 b16k ((-1)) (by omega) (by omega) ) (fun s26 hr => ?_)
  obtain ⟨hT26, hG26⟩ := hr
  have hF26 := fr_trans hF19 hG26 (by decide)
  have e27 : s26.1 83 10 = ((b1 : Nat) : Int) := (hG26.1 _ _ tsk_10 10 (by decide)).trans e20
  have e28 : s26.1 a1 7 = z5 := (hG26.1 _ _ a1k 7 (by decide)).trans e21
  have e29 : s26.1 83 12 = ((b10 : Nat) : Int) := (hG26.1 _ _ tsk_10 12 (by decide)).trans e22
  have e30 : s26.1 83 11 = ((b16 : Nat) : Int) := (hG26.1 _ _ tsk_10 11 (by decide)).trans e23
  have e31 : s26.1 a1 6 = ((b17 : Nat) : Int) := (hG26.1 _ _ a1k 6 (by decide)).trans e24
  refine ir_l (pc' := 56) rfl rfl rfl rfl rfl rfl ?_
  refine ir_getR (pc' := 59) rfl rfl rfl (gG_at tsk_10) rfl e27 ?_
  refine ir_tgi (pc' := 62) rfl rfl rfl tf_25_2 b1k hT26 (fun z32 z32e z32l z32h => ?_)
  refine ir_z_gt (pt := 67) (pc' := 65) rfl rfl rfl (fun c33 => ?_) (fun c33 => ?_)
  · refine ir_l (pc' := 68) rfl rfl rfl rfl rfl rfl ?_
    refine ir_getR (pc' := 71) rfl rfl rfl (gG_at tsk_10) rfl e27 ?_
    refine ir_l (pc' := 72) rfl rfl rfl rfl rfl rfl ?_
    refine ir_getR (pc' := 75) rfl rfl rfl (gG_at tsk_10) rfl e29 ?_
    refine ir_k (pc' := 76) (v := (0, (-1))) rfl rfl rfl (fun _ => rfl) ?_
    refine ir_cVV (pc' := 79) rfl rfl rfl rfl rfl (Nat.le_of_ble_eq_true rfl) oo_X1_add (gG_at b1k) (sf_add1_25_19 L ys d s26 hT26 b1 b1k b10 b10k ((-1)) (by omega) (by omega) ) (fun s35 hr => ?_)
    obtain ⟨hT35, hG35⟩ := hr
    have hF35 := fr_trans hF26 hG35 (by decide)
    have e36 : s35.1 83 10 = ((b1 : Nat) : Int) := (hG35.1 _ _ tsk_10 10 (by decide)).trans e27
    have e37 : s35.1 a1 7 = z5 := (hG35.1 _ _ a1k 7 (by decide)).trans e28
    have e38 : s35.1 83 12 = ((b10 : Nat) : Int) := (hG35.1 _ _ tsk_10 12 (by decide)).trans e29
    have e39 : s35.1 83 11 = ((b16 : Nat) : Int) := (hG35.1 _ _ tsk_10 11 (by decide)).trans e30
    have e40 : s35.1 a1 6 = ((b17 : Nat) : Int) := (hG35.1 _ _ a1k 6 (by decide)).trans e31
    refine ir_l (pc' := 80) rfl rfl rfl rfl rfl rfl ?_
    refine ir_getR (pc' := 83) rfl rfl rfl (gG_at tsk_10) rfl e36 ?_
    refine ir_tgi (pc' := 86) rfl rfl rfl tf_25_2 b1k hT35 (fun z41 z41e z41l z41h => ?_)
    refine ir_z_lt (pt := 93) (pc' := 89) rfl rfl rfl (fun c42 => ?_) (fun c42 => ?_)
    · refine ir_k (pc' := 94) (v := (0, 0)) rfl rfl rfl (fun _ => rfl) ?_
      refine ir_w [] trivial ?_
      exact J94 (0) (by omega) (by omega) s35 hT35 hF35 b1 b1k e36 b16 b16k e39 b10 b10k e38 b17 b17k e40 (z5) (by omega) (by omega) e37
    · refine ir_k (pc' := 90) (v := (0, 1)) rfl rfl rfl (fun _ => rfl) ?_
      refine ir_goto (pc' := 94) rfl rfl ?_
      refine ir_w [] trivial ?_
      exact J94 (1) (by omega) (by omega) s35 hT35 hF35 b1 b1k e36 b16 b16k e39 b10 b10k e38 b17 b17k e40 (z5) (by omega) (by omega) e37
  · refine ir_k (pc' := 66) (v := (0, (-1))) rfl rfl rfl (fun _ => rfl) ?_
    exact ir_iret rfl rfl ⟨_, rfl, hT26, hF26, by omega, by omega⟩
theorem sf_copy1_19_25 (L : Nat) (ys : Nat → Int32) (d : Nat) (s0 : im_S) (hT0 : tI s0) (a0 : Nat) (a0k : gK[a0]? = some 19) (a1 : Nat) (a1k : gK[a1]? = some 25) : icV gG rm_P L ys (d + 2) 111 [(2, (a0 : Int)), (2, (a1 : Int))] s0 (fun s => tI s ∧ fr [(19, 1), (19, 2)] s0 s) := by
  refine ic_startM (M := rm_p_X1_copy) om_X1_copy (Nat.le_of_ble_eq_true rfl) ?_
  refine ir_w [(0, (2, ((a0 : Nat) : Int))), (1, (2, ((a1 : Nat) : Int)))] ⟨rfl, rfl, trivial⟩ ?_
  have hF0 := fr_refl [(19, 1), (19, 2)] s0
  refine ir_l (pc' := 1) rfl rfl rfl rfl rfl rfl ?_
  refine ir_l (pc' := 2) rfl rfl rfl rfl rfl rfl ?_
  refine ir_tgi (pc' := 5) rfl rfl rfl tf_25_1 a1k hT0 (fun z1 z1e z1l z1h => ?_)
  refine ir_l (pc' := 6) rfl rfl rfl rfl rfl rfl ?_
  refine ir_tgr (pc' := 9) rfl rfl rfl tf_19_0 a0k hT0 (fun b2 b2e b2k => ?_)
  refine ir_tlen (pc' := 10) rfl rfl te_20 (by decide) b2k ?_
  refine ir_cSI (pc' := 13) rfl rfl rfl rfl rfl rfl (Nat.le_of_ble_eq_true rfl) (sf_min L ys d s0 (z1) (by omega) (by omega) (((24 : Nat) : Int)) (by omega) (by omega)) (fun z3 s4 hr => ?_)
  obtain ⟨rfl, z3p0, z3p1, z3p2⟩ := hr
  refine ir_tpi (pc' := 16) rfl rfl rfl tf_19_1 rfl a0k hT0 rfl (by omega) (by omega) (fun s5 hT5 e5 g5 r5 => ?_)
  have hF5 := fr_put (k := 19) hF0 (by decide) a0k g5 r5
  have e6 : s5.1 a0 0 = ((b2 : Nat) : Int) := (g5 a0 0 (fun z => absurd z.2 (by decide))).trans b2e
  refine ir_l (pc' := 17) rfl rfl rfl rfl rfl rfl ?_
  refine ir_tgr (pc' := 20) rfl rfl rfl tf_25_0 a1k hT5 (fun b7 b7e b7k => ?_)
  refine ir_k (pc' := 21) (v := (0, 0)) rfl rfl rfl (fun _ => rfl) ?_
  refine ir_l (pc' := 22) rfl rfl rfl rfl rfl rfl ?_
  refine ir_getR (pc' := 25) rfl rfl rfl (gG_at a0k) rfl e6 ?_
  refine ir_k (pc' := 26) (v := (0, 0)) rfl rfl rfl (fun _ => rfl) ?_
  refine ir_l (pc' := 27) rfl rfl rfl rfl rfl rfl ?_
  refine ir_getI (pc' := 30) rfl rfl rfl (gG_at a0k) rfl (by decide) (by decide) e5 (by omega) (by omega) ?_
  refine ir_tcp (pc' := 33) rfl rfl rfl te_26 te_20 b7k b2k hT5 (by omega) (by omega) (by omega) (by omega) (by omega) (Nat.le_of_ble_eq_true rfl) (fun s8 hT8 r8 o8 => ?_)
  have hF8 := fr_row hF5 r8 o8
  have e9 : s8.1 a0 0 = ((b2 : Nat) : Int) := by rw [r8]; exact e6
  have e10 : s8.1 a0 1 = z3 := by rw [r8]; exact e5
  have e11 : s8.1 a1 0 = ((b7 : Nat) : Int) := by rw [r8]; exact b7e
  refine ir_l (pc' := 34) rfl rfl rfl rfl rfl rfl ?_
  refine ir_l (pc' := 35) rfl rfl rfl rfl rfl rfl ?_
  refine ir_tgi (pc' := 38) rfl rfl rfl tf_25_2 a1k hT8 (fun z12 z12e z12l z12h => ?_)
  refine ir_tpi (pc' := 41) rfl rfl rfl tf_19_2 rfl a0k hT8 rfl (by omega) (by omega) (fun s13 hT13 e13 g13 r13 => ?_)
  have hF13 := fr_put (k := 19) hF8 (by decide) a0k g13 r13
  have e14 : s13.1 a0 0 = ((b2 : Nat) : Int) := (g13 a0 0 (fun z => absurd z.2 (by decide))).trans e9
  have e15 : s13.1 a0 1 = z3 := (g13 a0 1 (fun z => absurd z.2 (by decide))).trans e10
  have e16 : s13.1 a1 0 = ((b7 : Nat) : Int) := (g13 a1 0 (fun z => absurd z.2 (by decide))).trans e11
  exact ir_vret rfl rfl ⟨rfl, hT13, hF13⟩
theorem sf_setProduct1_25_19_25 (L : Nat) (ys : Nat → Int32) (d : Nat) (s0 : im_S) (hT0 : tI s0) (a0 : Nat) (a0k : gK[a0]? = some 25) (a1 : Nat) (a1k : gK[a1]? = some 19) (a2 : Nat) (a2k : gK[a2]? = some 25) : icV gG rm_P L ys (d + 2) 116 [(2, (a0 : Int)), (2, (a1 : Int)), (2, (a2 : Int))] s0 (fun s => tI s ∧ fr [(25, 1), (25, 2)] s0 s) := by
  refine ic_startM (M := rm_p_X1_setProduct) om_X1_setProduct (Nat.le_of_ble_eq_true rfl) ?_
  refine ir_w [(0, (2, ((a0 : Nat) : Int))), (1, (2, ((a1 : Nat) : Int))), (2, (2, ((a2 : Nat) : Int)))] ⟨rfl, rfl, rfl, trivial⟩ ?_
  have hF0 := fr_refl [(25, 1), (25, 2)] s0
  have J216 : ∀ (s_216 : im_S) (hT_216 : tI s_216) (hF_216 : fr [(25, 1), (25, 2)] s0 s_216) (w216_a0_1 : Int) (w216_a0_1l : 0 ≤ w216_a0_1) (w216_a0_1h : w216_a0_1 ≤ 196) (w216_a0_1e : s_216.1 a0 1 = w216_a0_1) (w216_a0_2 : Int) (w216_a0_2l : -2147483648 ≤ w216_a0_2) (w216_a0_2h : w216_a0_2 ≤ 2147483647) (w216_a0_2e : s_216.1 a0 2 = w216_a0_2) (w216_a1_1 : Int) (w216_a1_1l : 0 ≤ w216_a1_1) (w216_a1_1h : w216_a1_1 ≤ 24) (w216_a1_1e : s_216.1 a1 1 = w216_a1_1), ir gG rm_P L ys (d + 1) rm_p_X1_setProduct (216, [(0, (2, ((a0 : Nat) : Int)))], [], s_216) (fun r : im_Re => r.1 = none ∧ (tI r.2 ∧ fr [(25, 1), (25, 2)] s0 r.2)) := by
    intro s_216 hT_216 hF_216 w216_a0_1 w216_a0_1l w216_a0_1h w216_a0_1e w216_a0_2 w216_a0_2l w216_a0_2h w216_a0_2e w216_a1_1 w216_a1_1l w216_a1_1h w216_a1_1e
    refine ir_l (pc' := 217) rfl rfl rfl rfl rfl rfl ?_
    refine ir_cVV (pc' := 220) rfl rfl rfl rfl rfl (Nat.le_of_ble_eq_true rfl) oo_X1_trim (gG_at a0k) (sf_trim1_25 L ys d s_216 hT_216 a0 a0k ) (fun s2 hr => ?_)
    obtain ⟨hT2, hG2⟩ := hr
    have hF2 := fr_trans hF_216 hG2 (by decide)
    have e3 : s2.1 a1 1 = w216_a1_1 := (hG2.1 _ _ a1k 1 (by decide)).trans w216_a1_1e
    exact ir_vret rfl rfl ⟨rfl, hT2, hF2⟩
  have J70 : ∀ n : Nat, ∀ (q70_l3 : Int) (q70_l3l : 0 ≤ q70_l3) (q70_l3h : q70_l3 ≤ 30) (s_70 : im_S) (hT_70 : tI s_70) (hF_70 : fr [(25, 1), (25, 2)] s0 s_70) (w70_a0_1 : Int) (w70_a0_1l : 0 ≤ w70_a0_1) (w70_a0_1h : w70_a0_1 ≤ 196) (w70_a0_1e : s_70.1 a0 1 = w70_a0_1) (w70_a0_2 : Int) (w70_a0_2l : -2147483648 ≤ w70_a0_2) (w70_a0_2h : w70_a0_2 ≤ 2147483647) (w70_a0_2e : s_70.1 a0 2 = w70_a0_2), (30 + 1 - q70_l3) ≤ (n : Int) → ir gG rm_P L ys (d + 1) rm_p_X1_setProduct (70, [(0, (2, ((a0 : Nat) : Int))), (1, (2, ((a1 : Nat) : Int))), (2, (2, ((a2 : Nat) : Int))), (3, (0, q70_l3))], [], s_70) (fun r : im_Re => r.1 = none ∧ (tI r.2 ∧ fr [(25, 1), (25, 2)] s0 r.2)) := by
    intro n
    induction n with
    | zero => intro q70_l3 q70_l3l q70_l3h s_70 hT_70 hF_70 w70_a0_1 w70_a0_1l w70_a0_1h w70_a0_1e w70_a0_2 w70_a0_2l w70_a0_2h w70_a0_2e hr; exfalso; omega
    | succ n ih70 =>
      intro q70_l3 q70_l3l q70_l3h s_70 hT_70 hF_70 w70_a0_1 w70_a0_1l w70_a0_1h w70_a0_1e w70_a0_2 w70_a0_2l w70_a0_2h w70_a0_2e hr
      have J210 : ∀ (f210_3h : q70_l3 ≤ 24) (s_210 : im_S) (hT_210 : tI s_210) (hF_210 : fr [(25, 1), (25, 2)] s0 s_210) (w210_a0_1 : Int) (w210_a0_1l : 1 ≤ w210_a0_1) (w210_a0_1h : w210_a0_1 ≤ 196) (w210_a0_1e : s_210.1 a0 1 = w210_a0_1) (w210_a0_2 : Int) (w210_a0_2l : -2147483648 ≤ w210_a0_2) (w210_a0_2h : w210_a0_2 ≤ 2147483647) (w210_a0_2e : s_210.1 a0 2 = w210_a0_2) (w210_a1_0 : Nat) (w210_a1_0k : gK[w210_a1_0]? = some 20) (w210_a1_0e : s_210.1 a1 0 = ((w210_a1_0 : Nat) : Int)) (w210_a1_1 : Int) (w210_a1_1l : 1 ≤ w210_a1_1) (w210_a1_1h : w210_a1_1 ≤ 24) (w210_a1_1e : s_210.1 a1 1 = w210_a1_1) (w210_a2_1 : Int) (w210_a2_1l : 0 ≤ w210_a2_1) (w210_a2_1h : w210_a2_1 ≤ 196) (w210_a2_1e : s_210.1 a2 1 = w210_a2_1), ir gG rm_P L ys (d + 1) rm_p_X1_setProduct (210, [(0, (2, ((a0 : Nat) : Int))), (1, (2, ((a1 : Nat) : Int))), (2, (2, ((a2 : Nat) : Int))), (3, (0, q70_l3))], [], s_210) (fun r : im_Re => r.1 = none ∧ (tI r.2 ∧ fr [(25, 1), (25, 2)] s0 r.2)) := by
        intro f210_3h s_210 hT_210 hF_210 w210_a0_1 w210_a0_1l w210_a0_1h w210_a0_1e w210_a0_2 w210_a0_2l w210_a0_2h w210_a0_2e w210_a1_0 w210_a1_0k w210_a1_0e w210_a1_1 w210_a1_1l w210_a1_1h w210_a1_1e w210_a2_1 w210_a2_1l w210_a2_1h w210_a2_1e
        refine ir_inc (pc' := 213) rfl rfl rfl rfl rfl (by omega) (by omega) ?_
        refine ir_goto (pc' := 70) rfl rfl ?_
        refine ir_w [(0, (2, ((a0 : Nat) : Int))), (1, (2, ((a1 : Nat) : Int))), (2, (2, ((a2 : Nat) : Int))), (3, (0, (q70_l3 + 1)))] ⟨rfl, rfl, rfl, rfl, trivial⟩ ?_
        exact ih70 ((q70_l3 + 1)) (by omega) (by omega) s_210 hT_210 hF_210 (w210_a0_1) (by omega) (by omega) w210_a0_1e (w210_a0_2) (by omega) (by omega) w210_a0_2e (by omega)
      have J120 : ∀ n : Nat, ∀ (q120_l4 : Int) (q120_l4l : 0 ≤ q120_l4) (q120_l4h : q120_l4 ≤ 4294967295) (q120_l6 : Int) (q120_l6l : -9223372036854775808 ≤ q120_l6) (q120_l6h : q120_l6 ≤ 9223372036854775807) (q120_l8 : Int) (q120_l8l : 0 ≤ q120_l8) (q120_l8h : q120_l8 ≤ 196) (q120_l9 : Int) (q120_l9l : 0 ≤ q120_l9) (q120_l9h : q120_l9 ≤ 196) (f120_3h : q70_l3 ≤ 24) (s_120 : im_S) (hT_120 : tI s_120) (hF_120 : fr [(25, 1), (25, 2)] s0 s_120) (w120_a0_1 : Int) (w120_a0_1l : 1 ≤ w120_a0_1) (w120_a0_1h : w120_a0_1 ≤ 196) (w120_a0_1e : s_120.1 a0 1 = w120_a0_1) (w120_a0_2 : Int) (w120_a0_2l : -2147483648 ≤ w120_a0_2) (w120_a0_2h : w120_a0_2 ≤ 2147483647) (w120_a0_2e : s_120.1 a0 2 = w120_a0_2) (w120_a1_0 : Nat) (w120_a1_0k : gK[w120_a1_0]? = some 20) (w120_a1_0e : s_120.1 a1 0 = ((w120_a1_0 : Nat) : Int)) (w120_a1_1 : Int) (w120_a1_1l : 1 ≤ w120_a1_1) (w120_a1_1h : w120_a1_1 ≤ 24) (w120_a1_1e : s_120.1 a1 1 = w120_a1_1) (w120_a2_1 : Int) (w120_a2_1l : 0 ≤ w120_a2_1) (w120_a2_1h : w120_a2_1 ≤ 196) (w120_a2_1e : s_120.1 a2 1 = w120_a2_1) (i120_0 : q70_l3 + q120_l8 ≤ w120_a0_1), (196 + 1 - q120_l9) ≤ (n : Int) → ir gG rm_P L ys (d + 1) rm_p_X1_setProduct (120, [(0, (2, ((a0 : Nat) : Int))), (1, (2, ((a1 : Nat) : Int))), (2, (2, ((a2 : Nat) : Int))), (3, (0, q70_l3)), (4, (1, q120_l4)), (6, (1, q120_l6)), (8, (0, q120_l8)), (9, (0, q120_l9))], [], s_120) (fun r : im_Re => r.1 = none ∧ (tI r.2 ∧ fr [(25, 1), (25, 2)] s0 r.2)) := by
        intro n
        induction n with
        | zero => intro q120_l4 q120_l4l q120_l4h q120_l6 q120_l6l q120_l6h q120_l8 q120_l8l q120_l8h q120_l9 q120_l9l q120_l9h f120_3h s_120 hT_120 hF_120 w120_a0_1 w120_a0_1l w120_a0_1h w120_a0_1e w120_a0_2 w120_a0_2l w120_a0_2h w120_a0_2e w120_a1_0 w120_a1_0k w120_a1_0e w120_a1_1 w120_a1_1l w120_a1_1h w120_a1_1e w120_a2_1 w120_a2_1l w120_a2_1h w120_a2_1e i120_0 hr; exfalso; omega
        | succ n ih120 =>
          intro q120_l4 q120_l4l q120_l4h q120_l6 q120_l6l q120_l6h q120_l8 q120_l8l q120_l8h q120_l9 q120_l9l q120_l9h f120_3h s_120 hT_120 hF_120 w120_a0_1 w120_a0_1l w120_a0_1h w120_a0_1e w120_a0_2 w120_a0_2l w120_a0_2h w120_a0_2e w120_a1_0 w120_a1_0k w120_a1_0e w120_a1_1 w120_a1_1l w120_a1_1h w120_a1_1e w120_a2_1 w120_a2_1l w120_a2_1h w120_a2_1e i120_0 hr
          refine ir_l (pc' := 122) rfl rfl rfl rfl rfl rfl ?_
          refine ir_l (pc' := 124) rfl rfl rfl rfl rfl rfl ?_
          refine ir_c_ge (pt := 187) (pc' := 127) rfl rfl rfl (fun c4 => ?_) (fun c4 => ?_)
          · refine ir_l (pc' := 188) rfl rfl rfl rfl rfl rfl ?_
            refine ir_l (pc' := 190) rfl rfl rfl rfl rfl rfl ?_
            refine ir_add (pc' := 191) rfl rfl (by omega) (by omega) ?_
            refine ir_l (pc' := 192) rfl rfl rfl rfl rfl rfl ?_
            refine ir_getI (pc' := 195) rfl rfl rfl (gG_at a0k) rfl (by decide) (by decide) w120_a0_1e (by omega) (by omega) ?_
            refine ir_c_ge (pt := 210) (pc' := 198) rfl rfl rfl (fun c5 => ?_) (fun c5 => ?_)
            · refine ir_w [(0, (2, ((a0 : Nat) : Int))), (1, (2, ((a1 : Nat) : Int))), (2, (2, ((a2 : Nat) : Int))), (3, (0, q70_l3))] ⟨rfl, rfl, rfl, rfl, trivial⟩ ?_
              exact J210 (by omega) s_120 hT_120 hF_120 (w120_a0_1) (by omega) (by omega) w120_a0_1e (w120_a0_2) (by omega) (by omega) w120_a0_2e w120_a1_0 w120_a1_0k w120_a1_0e (w120_a1_1) (by omega) (by omega) w120_a1_1e (w120_a2_1) (by omega) (by omega) w120_a2_1e
            · refine ir_l (pc' := 199) rfl rfl rfl rfl rfl rfl ?_
              refine ir_tgr (pc' := 202) rfl rfl rfl tf_25_0 a0k hT_120 (fun b6 b6e b6k => ?_)
              refine ir_l (pc' := 203) rfl rfl rfl rfl rfl rfl ?_
              refine ir_l (pc' := 205) rfl rfl rfl rfl rfl rfl ?_
              refine ir_add (pc' := 206) rfl rfl (by omega) (by omega) ?_
              refine ir_l (pc' := 208) rfl rfl rfl rfl rfl rfl ?_
              refine ir_j1A (pc' := 209) rfl rfl rfl rfl (fun z7 z7e z7l z7h => ?_)
              clear z7e
              refine ir_tis (pc' := 210) rfl rfl rfl rfl te_26 b6k hT_120 (by omega) (by omega) (rfl) (by omega) (by omega) (fun s8 hT8 r8 o8 => ?_)
              have hF8 := fr_row hF_120 r8 o8
              have e9 : s8.1 a0 2 = w120_a0_2 := by rw [r8]; exact w120_a0_2e
              have e10 : s8.1 a0 1 = w120_a0_1 := by rw [r8]; exact w120_a0_1e
              have e11 : s8.1 a1 1 = w120_a1_1 := by rw [r8]; exact w120_a1_1e
              have e12 : s8.1 a1 0 = ((w120_a1_0 : Nat) : Int) := by rw [r8]; exact w120_a1_0e
              have e13 : s8.1 a2 1 = w120_a2_1 := by rw [r8]; exact w120_a2_1e
              have e14 : s8.1 a0 0 = ((b6 : Nat) : Int) := by rw [r8]; exact b6e
              refine ir_w [(0, (2, ((a0 : Nat) : Int))), (1, (2, ((a1 : Nat) : Int))), (2, (2, ((a2 : Nat) : Int))), (3, (0, q70_l3))] ⟨rfl, rfl, rfl, rfl, trivial⟩ ?_
              exact J210 (by omega) s8 hT8 hF8 (w120_a0_1) (by omega) (by omega) e10 (w120_a0_2) (by omega) (by omega) e9 w120_a1_0 w120_a1_0k e12 (w120_a1_1) (by omega) (by omega) e11 (w120_a2_1) (by omega) (by omega) e13
          · refine ir_l (pc' := 129) rfl rfl rfl rfl rfl rfl ?_
            refine ir_l (pc' := 131) rfl rfl rfl rfl rfl rfl ?_
            refine ir_l (pc' := 132) rfl rfl rfl rfl rfl rfl ?_
            refine ir_tgr (pc' := 135) rfl rfl rfl tf_25_0 a2k hT_120 (fun b15 b15e b15k => ?_)
            refine ir_l (pc' := 137) rfl rfl rfl rfl rfl rfl ?_
            refine ir_tia (pc' := 138) rfl rfl te_26 (by decide) b15k hT_120 (by omega) (by omega) (fun z16 z16e z16l z16h => ?_)
            clear z16e
            refine ir_i2l (pc' := 139) rfl rfl (by omega) (by omega) ?_
            refine ir_k (pc' := 142) (v := (1, 4294967295)) rfl rfl rfl (fun _ => rfl) ?_
            refine ir_landm (pc' := 143) rfl rfl (by decide) (by decide) (fun z17 z17l z17h => ?_)
            refine ir_jjA (pc' := 144) rfl rfl rfl rfl (fun z18 z18l z18h => ?_)
            refine ir_l (pc' := 145) rfl rfl rfl rfl rfl rfl ?_
            refine ir_tgr (pc' := 148) rfl rfl rfl tf_25_0 a0k hT_120 (fun b19 b19e b19k => ?_)
            refine ir_l (pc' := 149) rfl rfl rfl rfl rfl rfl ?_
            refine ir_l (pc' := 151) rfl rfl rfl rfl rfl rfl ?_
            refine ir_add (pc' := 152) rfl rfl (by omega) (by omega) ?_
            refine ir_tia (pc' := 153) rfl rfl te_26 (by decide) b19k hT_120 (by omega) (by omega) (fun z20 z20e z20l z20h => ?_)
            clear z20e
            refine ir_i2l (pc' := 154) rfl rfl (by omega) (by omega) ?_
            refine ir_k (pc' := 157) (v := (1, 4294967295)) rfl rfl rfl (fun _ => rfl) ?_
            refine ir_landm (pc' := 158) rfl rfl (by decide) (by decide) (fun z21 z21l z21h => ?_)
            refine ir_jjA (pc' := 159) rfl rfl rfl rfl (fun z22 z22l z22h => ?_)
            refine ir_jjA (pc' := 160) rfl rfl rfl rfl (fun z23 z23l z23h => ?_)
            refine ir_s2 (pc' := 162) rfl rfl rfl rfl rfl rfl ?_
            refine ir_l (pc' := 163) rfl rfl rfl rfl rfl rfl ?_
            refine ir_getR (pc' := 166) rfl rfl rfl (gG_at a0k) rfl b19e ?_
            refine ir_l (pc' := 167) rfl rfl rfl rfl rfl rfl ?_
            refine ir_l (pc' := 169) rfl rfl rfl rfl rfl rfl ?_
            refine ir_add (pc' := 170) rfl rfl (by omega) (by omega) ?_
            refine ir_l (pc' := 172) rfl rfl rfl rfl rfl rfl ?_
            refine ir_j1A (pc' := 173) rfl rfl rfl rfl (fun z24 z24e z24l z24h => ?_)
            clear z24e
            refine ir_tis (pc' := 174) rfl rfl rfl rfl te_26 b19k hT_120 (by omega) (by omega) (rfl) (by omega) (by omega) (fun s25 hT25 r25 o25 => ?_)
            have hF25 := fr_row hF_120 r25 o25
            have e26 : s25.1 a0 2 = w120_a0_2 := by rw [r25]; exact w120_a0_2e
            have e27 : s25.1 a0 1 = w120_a0_1 := by rw [r25]; exact w120_a0_1e
            have e28 : s25.1 a1 1 = w120_a1_1 := by rw [r25]; exact w120_a1_1e
            have e29 : s25.1 a1 0 = ((w120_a1_0 : Nat) : Int) := by rw [r25]; exact w120_a1_0e
            have e30 : s25.1 a2 1 = w120_a2_1 := by rw [r25]; exact w120_a2_1e
            have e31 : s25.1 a2 0 = ((b15 : Nat) : Int) := by rw [r25]; exact b15e
            have e32 : s25.1 a0 0 = ((b19 : Nat) : Int) := by rw [r25]; exact b19e
            refine ir_l (pc' := 176) rfl rfl rfl rfl rfl rfl ?_
            refine ir_k (pc' := 178) (v := (0, 32)) rfl rfl rfl (fun _ => rfl) ?_
            refine ir_jijA (pc' := 179) rfl rfl rfl rfl (fun z33 z33l z33h => ?_)
            refine ir_s2 (pc' := 181) rfl rfl rfl rfl rfl rfl ?_
            refine ir_inc (pc' := 184) rfl rfl rfl rfl rfl (by omega) (by omega) ?_
            refine ir_goto (pc' := 120) rfl rfl ?_
            refine ir_w [(0, (2, ((a0 : Nat) : Int))), (1, (2, ((a1 : Nat) : Int))), (2, (2, ((a2 : Nat) : Int))), (3, (0, q70_l3)), (4, (1, q120_l4)), (6, (1, z33)), (8, (0, q120_l8)), (9, (0, (q120_l9 + 1)))] ⟨rfl, rfl, rfl, rfl, rfl, rfl, rfl, rfl, trivial⟩ ?_
            exact ih120 (q120_l4) (by omega) (by omega) (z33) (by omega) (by omega) (q120_l8) (by omega) (by omega) ((q120_l9 + 1)) (by omega) (by omega) (by omega) s25 hT25 hF25 (w120_a0_1) (by omega) (by omega) e27 (w120_a0_2) (by omega) (by omega) e26 w120_a1_0 w120_a1_0k e29 (w120_a1_1) (by omega) (by omega) e28 (w120_a2_1) (by omega) (by omega) e30 (by omega) (by omega)
      refine ir_l (pc' := 71) rfl rfl rfl rfl rfl rfl ?_
      refine ir_l (pc' := 72) rfl rfl rfl rfl rfl rfl ?_
      refine ir_tgi (pc' := 75) rfl rfl rfl tf_19_1 a1k hT_70 (fun z34 z34e z34l z34h => ?_)
      refine ir_c_ge (pt := 216) (pc' := 78) rfl rfl rfl (fun c35 => ?_) (fun c35 => ?_)
      · refine ir_w [(0, (2, ((a0 : Nat) : Int)))] ⟨rfl, trivial⟩ ?_
        exact J216 s_70 hT_70 hF_70 (w70_a0_1) (by omega) (by omega) w70_a0_1e (w70_a0_2) (by omega) (by omega) w70_a0_2e (z34) (by omega) (by omega) z34e
      · refine ir_l (pc' := 79) rfl rfl rfl rfl rfl rfl ?_
        refine ir_l (pc' := 80) rfl rfl rfl rfl rfl rfl ?_
        refine ir_getI (pc' := 83) rfl rfl rfl (gG_at a0k) rfl (by decide) (by decide) w70_a0_1e (by omega) (by omega) ?_
        refine ir_c_ge (pt := 216) (pc' := 86) rfl rfl rfl (fun c36 => ?_) (fun c36 => ?_)
        · refine ir_w [(0, (2, ((a0 : Nat) : Int)))] ⟨rfl, trivial⟩ ?_
          exact J216 s_70 hT_70 hF_70 (w70_a0_1) (by omega) (by omega) w70_a0_1e (w70_a0_2) (by omega) (by omega) w70_a0_2e (z34) (by omega) (by omega) z34e
        · refine ir_l (pc' := 87) rfl rfl rfl rfl rfl rfl ?_
          refine ir_tgr (pc' := 90) rfl rfl rfl tf_19_0 a1k hT_70 (fun b37 b37e b37k => ?_)
          refine ir_l (pc' := 91) rfl rfl rfl rfl rfl rfl ?_
          refine ir_tia (pc' := 92) rfl rfl te_20 (by decide) b37k hT_70 (by omega) (by omega) (fun z38 z38e z38l z38h => ?_)
          clear z38e
          refine ir_i2l (pc' := 93) rfl rfl (by omega) (by omega) ?_
          refine ir_k (pc' := 96) (v := (1, 4294967295)) rfl rfl rfl (fun _ => rfl) ?_
          refine ir_landm (pc' := 97) rfl rfl (by decide) (by decide) (fun z39 z39l z39h => ?_)
          refine ir_s2 (pc' := 99) rfl rfl rfl rfl rfl rfl ?_
          refine ir_k (pc' := 100) (v := (1, 0)) rfl rfl rfl (fun _ => rfl) ?_
          refine ir_s2 (pc' := 102) rfl rfl rfl rfl rfl rfl ?_
          refine ir_l (pc' := 103) rfl rfl rfl rfl rfl rfl ?_
          refine ir_tgi (pc' := 106) rfl rfl rfl tf_25_1 a2k hT_70 (fun z40 z40e z40l z40h => ?_)
          refine ir_l (pc' := 107) rfl rfl rfl rfl rfl rfl ?_
          refine ir_getI (pc' := 110) rfl rfl rfl (gG_at a0k) rfl (by decide) (by decide) w70_a0_1e (by omega) (by omega) ?_
          refine ir_l (pc' := 111) rfl rfl rfl rfl rfl rfl ?_
          refine ir_sub (pc' := 112) rfl rfl (by omega) (by omega) ?_
          refine ir_cSI (pc' := 115) rfl rfl rfl rfl rfl rfl (Nat.le_of_ble_eq_true rfl) (sf_min L ys d s_70 (z40) (by omega) (by omega) ((w70_a0_1 - q70_l3)) (by omega) (by omega)) (fun z41 s42 hr => ?_)
          obtain ⟨rfl, z41p0, z41p1, z41p2⟩ := hr
          refine ir_s (pc' := 117) rfl rfl rfl rfl rfl rfl ?_
          refine ir_k (pc' := 118) (v := (0, 0)) rfl rfl rfl (fun _ => rfl) ?_
          refine ir_s (pc' := 120) rfl rfl rfl rfl rfl rfl ?_
          refine ir_w [(0, (2, ((a0 : Nat) : Int))), (1, (2, ((a1 : Nat) : Int))), (2, (2, ((a2 : Nat) : Int))), (3, (0, q70_l3)), (4, (1, z39)), (6, (1, 0)), (8, (0, z41)), (9, (0, 0))] ⟨rfl, rfl, rfl, rfl, rfl, rfl, rfl, rfl, trivial⟩ ?_
          exact J120 _ (z39) (by omega) (by omega) (0) (by omega) (by omega) (z41) (by omega) (by omega) (0) (by omega) (by omega) (by omega) s_70 hT_70 hF_70 (w70_a0_1) (by omega) (by omega) w70_a0_1e (w70_a0_2) (by omega) (by omega) w70_a0_2e b37 b37k b37e (z34) (by omega) (by omega) z34e (z40) (by omega) (by omega) z40e (by omega) (Int.self_le_toNat _)
  have J47 : ∀ n : Nat, ∀ (q47_l3 : Int) (q47_l3l : 0 ≤ q47_l3) (q47_l3h : q47_l3 ≤ 196) (s_47 : im_S) (hT_47 : tI s_47) (hF_47 : fr [(25, 1), (25, 2)] s0 s_47) (w47_a0_2 : Int) (w47_a0_2l : -2147483648 ≤ w47_a0_2) (w47_a0_2h : w47_a0_2 ≤ 2147483647) (w47_a0_2e : s_47.1 a0 2 = w47_a0_2), (196 + 1 - q47_l3) ≤ (n : Int) → ir gG rm_P L ys (d + 1) rm_p_X1_setProduct (47, [(0, (2, ((a0 : Nat) : Int))), (1, (2, ((a1 : Nat) : Int))), (2, (2, ((a2 : Nat) : Int))), (3, (0, q47_l3))], [], s_47) (fun r : im_Re => r.1 = none ∧ (tI r.2 ∧ fr [(25, 1), (25, 2)] s0 r.2)) := by
    intro n
    induction n with
    | zero => intro q47_l3 q47_l3l q47_l3h s_47 hT_47 hF_47 w47_a0_2 w47_a0_2l w47_a0_2h w47_a0_2e hr; exfalso; omega
    | succ n ih47 =>
      intro q47_l3 q47_l3l q47_l3h s_47 hT_47 hF_47 w47_a0_2 w47_a0_2l w47_a0_2h w47_a0_2e hr
      refine ir_l (pc' := 48) rfl rfl rfl rfl rfl rfl ?_
      refine ir_l (pc' := 49) rfl rfl rfl rfl rfl rfl ?_
      refine ir_tgi (pc' := 52) rfl rfl rfl tf_25_1 a0k hT_47 (fun z43 z43e z43l z43h => ?_)
      refine ir_c_ge (pt := 68) (pc' := 55) rfl rfl rfl (fun c44 => ?_) (fun c44 => ?_)
      · refine ir_k (pc' := 69) (v := (0, 0)) rfl rfl rfl (fun _ => rfl) ?_
        refine ir_s (pc' := 70) rfl rfl rfl rfl rfl rfl ?_
        refine ir_w [(0, (2, ((a0 : Nat) : Int))), (1, (2, ((a1 : Nat) : Int))), (2, (2, ((a2 : Nat) : Int))), (3, (0, 0))] ⟨rfl, rfl, rfl, rfl, trivial⟩ ?_
        exact J70 _ (0) (by omega) (by omega) s_47 hT_47 hF_47 (z43) (by omega) (by omega) z43e (w47_a0_2) (by omega) (by omega) w47_a0_2e (Int.self_le_toNat _)
      · refine ir_l (pc' := 56) rfl rfl rfl rfl rfl rfl ?_
        refine ir_tgr (pc' := 59) rfl rfl rfl tf_25_0 a0k hT_47 (fun b45 b45e b45k => ?_)
        refine ir_l (pc' := 60) rfl rfl rfl rfl rfl rfl ?_
        refine ir_k (pc' := 61) (v := (0, 0)) rfl rfl rfl (fun _ => rfl) ?_
        refine ir_tis (pc' := 62) rfl rfl rfl rfl te_26 b45k hT_47 (by omega) (by omega) (rfl) (by omega) (by omega) (fun s46 hT46 r46 o46 => ?_)
        have hF46 := fr_row hF_47 r46 o46
        have e47 : s46.1 a0 2 = w47_a0_2 := by rw [r46]; exact w47_a0_2e
        have e48 : s46.1 a0 1 = z43 := by rw [r46]; exact z43e
        have e49 : s46.1 a0 0 = ((b45 : Nat) : Int) := by rw [r46]; exact b45e
        refine ir_inc (pc' := 65) rfl rfl rfl rfl rfl (by omega) (by omega) ?_
        refine ir_goto (pc' := 47) rfl rfl ?_
        refine ir_w [(0, (2, ((a0 : Nat) : Int))), (1, (2, ((a1 : Nat) : Int))), (2, (2, ((a2 : Nat) : Int))), (3, (0, (q47_l3 + 1)))] ⟨rfl, rfl, rfl, rfl, trivial⟩ ?_
        exact ih47 ((q47_l3 + 1)) (by omega) (by omega) s46 hT46 hF46 (w47_a0_2) (by omega) (by omega) e47 (by omega)
  have J42 : ∀ (q42_s0 : Nat) (q42_s0k : gK[q42_s0]? = some 25) (q42_s1 : Int) (q42_s1l : 0 ≤ q42_s1) (q42_s1h : q42_s1 ≤ 196) (s_42 : im_S) (hT_42 : tI s_42) (hF_42 : fr [(25, 1), (25, 2)] s0 s_42) (w42_a0_2 : Int) (w42_a0_2l : -2147483648 ≤ w42_a0_2) (w42_a0_2h : w42_a0_2 ≤ 2147483647) (w42_a0_2e : s_42.1 a0 2 = w42_a0_2), ir gG rm_P L ys (d + 1) rm_p_X1_setProduct (42, [(0, (2, ((a0 : Nat) : Int))), (1, (2, ((a1 : Nat) : Int))), (2, (2, ((a2 : Nat) : Int)))], [(0, q42_s1), (2, ((q42_s0 : Nat) : Int))], s_42) (fun r : im_Re => r.1 = none ∧ (tI r.2 ∧ fr [(25, 1), (25, 2)] s0 r.2)) := by
    intro q42_s0 q42_s0k q42_s1 q42_s1l q42_s1h s_42 hT_42 hF_42 w42_a0_2 w42_a0_2l w42_a0_2h w42_a0_2e
    refine ir_tpi (pc' := 45) rfl rfl rfl tf_25_1 rfl q42_s0k hT_42 rfl (by omega) (by omega) (fun s50 hT50 e50 g50 r50 => ?_)
    have hF50 := fr_put (k := 25) hF_42 (by decide) q42_s0k g50 r50
    have e51 : s50.1 a0 2 = w42_a0_2 := (g50 a0 2 (fun z => absurd z.2 (by decide))).trans w42_a0_2e
    refine ir_k (pc' := 46) (v := (0, 0)) rfl rfl rfl (fun _ => rfl) ?_
    refine ir_s (pc' := 47) rfl rfl rfl rfl rfl rfl ?_
    refine ir_w [(0, (2, ((a0 : Nat) : Int))), (1, (2, ((a1 : Nat) : Int))), (2, (2, ((a2 : Nat) : Int))), (3, (0, 0))] ⟨rfl, rfl, rfl, rfl, trivial⟩ ?_
    exact J47 _ (0) (by omega) (by omega) s50 hT50 hF50 (w42_a0_2) (by omega) (by omega) e51 (Int.self_le_toNat _)
  refine ir_l (pc' := 1) rfl rfl rfl rfl rfl rfl ?_
  refine ir_l (pc' := 2) rfl rfl rfl rfl rfl rfl ?_
  refine ir_tgi (pc' := 5) rfl rfl rfl tf_19_2 a1k hT0 (fun z52 z52e z52l z52h => ?_)
  refine ir_l (pc' := 6) rfl rfl rfl rfl rfl rfl ?_
  refine ir_tgi (pc' := 9) rfl rfl rfl tf_25_2 a2k hT0 (fun z53 z53e z53l z53h => ?_)
  refine ir_iiA (pc' := 10) rfl rfl rfl rfl (fun z54 z54l z54h => ?_)
  refine ir_tpi (pc' := 13) rfl rfl rfl tf_25_2 rfl a0k hT0 rfl (by omega) (by omega) (fun s55 hT55 e55 g55 r55 => ?_)
  have hF55 := fr_put (k := 25) hF0 (by decide) a0k g55 r55
  refine ir_l (pc' := 14) rfl rfl rfl rfl rfl rfl ?_
  refine ir_l (pc' := 15) rfl rfl rfl rfl rfl rfl ?_
  refine ir_getI (pc' := 18) rfl rfl rfl (gG_at a0k) rfl (by decide) (by decide) e55 (by omega) (by omega) ?_
  refine ir_z_ne (pt := 25) (pc' := 21) rfl rfl rfl (fun c56 => ?_) (fun c56 => ?_)
  · refine ir_l (pc' := 26) rfl rfl rfl rfl rfl rfl ?_
    refine ir_tgi (pc' := 29) rfl rfl rfl tf_19_1 a1k hT55 (fun z57 z57e z57l z57h => ?_)
    refine ir_l (pc' := 30) rfl rfl rfl rfl rfl rfl ?_
    refine ir_tgi (pc' := 33) rfl rfl rfl tf_25_1 a2k hT55 (fun z58 z58e z58l z58h => ?_)
    refine ir_add (pc' := 34) rfl rfl (by omega) (by omega) ?_
    refine ir_l (pc' := 35) rfl rfl rfl rfl rfl rfl ?_
    refine ir_tgr (pc' := 38) rfl rfl rfl tf_25_0 a0k hT55 (fun b59 b59e b59k => ?_)
    refine ir_tlen (pc' := 39) rfl rfl te_26 (by decide) b59k ?_
    refine ir_cSI (pc' := 42) rfl rfl rfl rfl rfl rfl (Nat.le_of_ble_eq_true rfl) (sf_min L ys d s55 ((z57 + z58)) (by omega) (by omega) (((196 : Nat) : Int)) (by omega) (by omega)) (fun z60 s61 hr => ?_)
    obtain ⟨rfl, z60p0, z60p1, z60p2⟩ := hr
    refine ir_w [(0, (2, ((a0 : Nat) : Int))), (1, (2, ((a1 : Nat) : Int))), (2, (2, ((a2 : Nat) : Int)))] ⟨rfl, rfl, rfl, trivial⟩ ?_
    exact J42 a0 a0k (z60) (by omega) (by omega) s55 hT55 hF55 (z54) (by omega) (by omega) e55
  · refine ir_k (pc' := 22) (v := (0, 0)) rfl rfl rfl (fun _ => rfl) ?_
    refine ir_goto (pc' := 42) rfl rfl ?_
    refine ir_w [(0, (2, ((a0 : Nat) : Int))), (1, (2, ((a1 : Nat) : Int))), (2, (2, ((a2 : Nat) : Int)))] ⟨rfl, rfl, rfl, trivial⟩ ?_
    exact J42 a0 a0k (0) (by omega) (by omega) s55 hT55 hF55 (z54) (by omega) (by omega) e55
theorem sf_signAtFraction3 (L : Nat) (ys : Nat → Int32) (d : Nat) (s0 : im_S) (hT0 : tI s0) (a1 : Nat) (a1k : gK[a1]? = some 4) (x2 : Int) (x2l : -9223372036854775808 ≤ x2) (x2h : x2 ≤ 9223372036854775807) (x3 : Int) (x3l : -9223372036854775808 ≤ x3) (x3h : x3 ≤ 9223372036854775807) : icI gG rm_P L ys 0 (d + 4) 144 [(2, ((83 : Nat) : Int)), (2, (a1 : Int)), (1, x2), (1, x3)] s0 (fun z s => tI s ∧ fr [(19, 1), (19, 2), (25, 1), (25, 2)] s0 s ∧ -2147483648 ≤ z ∧ z ≤ 2147483647) := by
  refine ic_startM (M := rm_p_X3_signAtFraction) om_X3_signAtFraction (Nat.le_of_ble_eq_true rfl) ?_
  refine ir_w [(0, (2, ((83 : Nat) : Int))), (1, (2, ((a1 : Nat) : Int))), (2, (1, x2)), (4, (1, x3))] ⟨rfl, rfl, rfl, rfl, trivial⟩ ?_
  have hF0 := fr_refl [(19, 1), (19, 2), (25, 1), (25, 2)] s0
  have J44 : ∀ n : Nat, ∀ (q44_l6 : Int) (q44_l6l : -2 ≤ q44_l6) (q44_l6h : q44_l6 ≤ 7) (s_44 : im_S) (hT_44 : tI s_44) (hF_44 : fr [(19, 1), (19, 2), (25, 1), (25, 2)] s0 s_44) (w44_83_6 : Nat) (w44_83_6k : gK[w44_83_6]? = some 19) (w44_83_6e : s_44.1 83 6 = ((w44_83_6 : Nat) : Int)) (w44_83_9 : Nat) (w44_83_9k : gK[w44_83_9]? = some 19) (w44_83_9e : s_44.1 83 9 = ((w44_83_9 : Nat) : Int)) (w44_83_12 : Nat) (w44_83_12k : gK[w44_83_12]? = some 19) (w44_83_12e : s_44.1 83 12 = ((w44_83_12 : Nat) : Int)) (w44_83_16 : Nat) (w44_83_16k : gK[w44_83_16]? = some 25) (w44_83_16e : s_44.1 83 16 = ((w44_83_16 : Nat) : Int)) (w44_a1_0 : Int) (w44_a1_0l : -1 ≤ w44_a1_0) (w44_a1_0h : w44_a1_0 ≤ 8) (w44_a1_0e : s_44.1 a1 0 = w44_a1_0), (q44_l6 - -2 + 1) ≤ (n : Int) → ir gG rm_P L ys (d + 3) rm_p_X3_signAtFraction (44, [(0, (2, ((83 : Nat) : Int))), (1, (2, ((a1 : Nat) : Int))), (6, (0, q44_l6))], [], s_44) (fun r : im_Re => ∃ z, r.1 = some (0, z) ∧ (tI r.2 ∧ fr [(19, 1), (19, 2), (25, 1), (25, 2)] s0 r.2 ∧ -2147483648 ≤ z ∧ z ≤ 2147483647)) := by
    intro n
    induction n with
    | zero => intro q44_l6 q44_l6l q44_l6h s_44 hT_44 hF_44 w44_83_6 w44_83_6k w44_83_6e w44_83_9 w44_83_9k w44_83_9e w44_83_12 w44_83_12k w44_83_12e w44_83_16 w44_83_16k w44_83_16e w44_a1_0 w44_a1_0l w44_a1_0h w44_a1_0e hr; exfalso; omega
    | succ n ih44 =>
      intro q44_l6 q44_l6l q44_l6h s_44 hT_44 hF_44 w44_83_6 w44_83_6k w44_83_6e w44_83_9 w44_83_9k w44_83_9e w44_83_12 w44_83_12k w44_83_12e w44_83_16 w44_83_16k w44_83_16e w44_a1_0 w44_a1_0l w44_a1_0h w44_a1_0e hr
      refine ir_l (pc' := 46) rfl rfl rfl rfl rfl rfl ?_
      refine ir_z_lt (pt := 148) (pc' := 49) rfl rfl rfl (fun c1 => ?_) (fun c1 => ?_)
      · refine ir_l (pc' := 149) rfl rfl rfl rfl rfl rfl ?_
        refine ir_getR (pc' := 152) rfl rfl rfl (gG_at tsk_10) rfl w44_83_16e ?_
        refine ir_tgi (pc' := 155) rfl rfl rfl tf_25_2 w44_83_16k hT_44 (fun z2 z2e z2l z2h => ?_)
        exact ir_iret rfl rfl ⟨_, rfl, hT_44, hF_44, by omega, by omega⟩
      · refine ir_l (pc' := 50) rfl rfl rfl rfl rfl rfl ?_
        refine ir_tgr (pc' := 53) rfl rfl rfl tf_10_11 tsk_10 hT_44 (fun b3 b3e b3k => ?_)
        refine ir_l (pc' := 54) rfl rfl rfl rfl rfl rfl ?_
        refine ir_getR (pc' := 57) rfl rfl rfl (gG_at tsk_10) rfl w44_83_16e ?_
        refine ir_l (pc' := 58) rfl rfl rfl rfl rfl rfl ?_
        refine ir_getR (pc' := 61) rfl rfl rfl (gG_at tsk_10) rfl w44_83_9e ?_
        refine ir_cVV (pc' := 64) rfl rfl rfl rfl rfl (Nat.le_of_ble_eq_true rfl) oo_X1_setProduct (gG_at b3k) (sf_setProduct1_25_25_19 L ys (d + 1) s_44 hT_44 b3 b3k w44_83_16 w44_83_16k w44_83_9 w44_83_9k ) (fun s5 hr => ?_)
        obtain ⟨hT5, hG5⟩ := hr
        have hF5 := fr_trans hF_44 hG5 (by decide)
        have e6 : s5.1 83 9 = ((w44_83_9 : Nat) : Int) := (hG5.1 _ _ tsk_10 9 (by decide)).trans w44_83_9e
        have e7 : s5.1 83 6 = ((w44_83_6 : Nat) : Int) := (hG5.1 _ _ tsk_10 6 (by decide)).trans w44_83_6e
        have e8 : s5.1 83 12 = ((w44_83_12 : Nat) : Int) := (hG5.1 _ _ tsk_10 12 (by decide)).trans w44_83_12e
        have e9 : s5.1 83 16 = ((w44_83_16 : Nat) : Int) := (hG5.1 _ _ tsk_10 16 (by decide)).trans w44_83_16e
        have e10 : s5.1 a1 0 = w44_a1_0 := (hG5.1 _ _ a1k 0 (by decide)).trans w44_a1_0e
        have e11 : s5.1 83 11 = ((b3 : Nat) : Int) := (hG5.1 _ _ tsk_10 11 (by decide)).trans b3e
        refine ir_l (pc' := 65) rfl rfl rfl rfl rfl rfl ?_
        refine ir_getR (pc' := 68) rfl rfl rfl (gG_at tsk_10) rfl e9 ?_
        refine ir_l (pc' := 69) rfl rfl rfl rfl rfl rfl ?_
        refine ir_getR (pc' := 72) rfl rfl rfl (gG_at tsk_10) rfl e11 ?_
        refine ir_cVV (pc' := 75) rfl rfl rfl rfl rfl (Nat.le_of_ble_eq_true rfl) oo_X1_copy (gG_at w44_83_16k) (sf_copy1_25_25 L ys (d + 1) s5 hT5 w44_83_16 w44_83_16k b3 b3k ) (fun s13 hr => ?_)
        obtain ⟨hT13, hG13⟩ := hr
        have hF13 := fr_trans hF5 hG13 (by decide)
        have e14 : s13.1 83 9 = ((w44_83_9 : Nat) : Int) := (hG13.1 _ _ tsk_10 9 (by decide)).trans e6
        have e15 : s13.1 83 6 = ((w44_83_6 : Nat) : Int) := (hG13.1 _ _ tsk_10 6 (by decide)).trans e7
        have e16 : s13.1 83 12 = ((w44_83_12 : Nat) : Int) := (hG13.1 _ _ tsk_10 12 (by decide)).trans e8
        have e17 : s13.1 83 16 = ((w44_83_16 : Nat) : Int) := (hG13.1 _ _ tsk_10 16 (by decide)).trans e9
        have e18 : s13.1 a1 0 = w44_a1_0 := (hG13.1 _ _ a1k 0 (by decide)).trans e10
        have e19 : s13.1 83 11 = ((b3 : Nat) : Int) := (hG13.1 _ _ tsk_10 11 (by decide)).trans e11
        refine ir_l (pc' := 76) rfl rfl rfl rfl rfl rfl ?_
        refine ir_getR (pc' := 79) rfl rfl rfl (gG_at tsk_10) rfl e19 ?_
        refine ir_l (pc' := 80) rfl rfl rfl rfl rfl rfl ?_
        refine ir_getR (pc' := 83) rfl rfl rfl (gG_at tsk_10) rfl e16 ?_
        refine ir_l (pc' := 84) rfl rfl rfl rfl rfl rfl ?_
        refine ir_getR (pc' := 87) rfl rfl rfl (gG_at tsk_10) rfl e15 ?_
        refine ir_cVV (pc' := 90) rfl rfl rfl rfl rfl (Nat.le_of_ble_eq_true rfl) oo_X1_setProduct (gG_at b3k) (sf_setProduct1_25_19_19 L ys (d + 1) s13 hT13 b3 b3k w44_83_12 w44_83_12k w44_83_6 w44_83_6k ) (fun s21 hr => ?_)
        obtain ⟨hT21, hG21⟩ := hr
        have hF21 := fr_trans hF13 hG21 (by decide)
        have e22 : s21.1 83 9 = ((w44_83_9 : Nat) : Int) := (hG21.1 _ _ tsk_10 9 (by decide)).trans e14
        have e23 : s21.1 83 6 = ((w44_83_6 : Nat) : Int) := (hG21.1 _ _ tsk_10 6 (by decide)).trans e15
        have e24 : s21.1 83 12 = ((w44_83_12 : Nat) : Int) := (hG21.1 _ _ tsk_10 12 (by decide)).trans e16
        have e25 : s21.1 83 16 = ((w44_83_16 : Nat) : Int) := (hG21.1 _ _ tsk_10 16 (by decide)).trans e17
        have e26 : s21.1 a1 0 = w44_a1_0 := (hG21.1 _ _ a1k 0 (by decide)).trans e18
        have e27 : s21.1 83 11 = ((b3 : Nat) : Int) := (hG21.1 _ _ tsk_10 11 (by decide)).trans e19
        refine ir_l (pc' := 91) rfl rfl rfl rfl rfl rfl ?_
        refine ir_getR (pc' := 94) rfl rfl rfl (gG_at tsk_10) rfl e24 ?_
        refine ir_l (pc' := 95) rfl rfl rfl rfl rfl rfl ?_
        refine ir_getR (pc' := 98) rfl rfl rfl (gG_at tsk_10) rfl e27 ?_
        refine ir_cVV (pc' := 101) rfl rfl rfl rfl rfl (Nat.le_of_ble_eq_true rfl) oo_X1_copy (gG_at w44_83_12k) (sf_copy1_19_25 L ys (d + 1) s21 hT21 w44_83_12 w44_83_12k b3 b3k ) (fun s29 hr => ?_)
        obtain ⟨hT29, hG29⟩ := hr
        have hF29 := fr_trans hF21 hG29 (by decide)
        have e30 : s29.1 83 9 = ((w44_83_9 : Nat) : Int) := (hG29.1 _ _ tsk_10 9 (by decide)).trans e22
        have e31 : s29.1 83 6 = ((w44_83_6 : Nat) : Int) := (hG29.1 _ _ tsk_10 6 (by decide)).trans e23
        have e32 : s29.1 83 12 = ((w44_83_12 : Nat) : Int) := (hG29.1 _ _ tsk_10 12 (by decide)).trans e24
        have e33 : s29.1 83 16 = ((w44_83_16 : Nat) : Int) := (hG29.1 _ _ tsk_10 16 (by decide)).trans e25
        have e34 : s29.1 a1 0 = w44_a1_0 := (hG29.1 _ _ a1k 0 (by decide)).trans e26
        have e35 : s29.1 83 11 = ((b3 : Nat) : Int) := (hG29.1 _ _ tsk_10 11 (by decide)).trans e27
        refine ir_l (pc' := 102) rfl rfl rfl rfl rfl rfl ?_
        refine ir_tgr (pc' := 105) rfl rfl rfl tf_10_10 tsk_10 hT29 (fun b36 b36e b36k => ?_)
        refine ir_l (pc' := 106) rfl rfl rfl rfl rfl rfl ?_
        refine ir_tgr (pc' := 109) rfl rfl rfl tf_4_1 a1k hT29 (fun b37 b37e b37k => ?_)
        refine ir_l (pc' := 111) rfl rfl rfl rfl rfl rfl ?_
        refine ir_tla (pc' := 112) rfl rfl te_6 (by decide) b37k hT29 (by omega) (by omega) (fun z38 z38e z38l z38h => ?_)
        clear z38e
        refine ir_cVV (pc' := 115) rfl rfl rfl rfl rfl (Nat.le_of_ble_eq_true rfl) oo_X1_set (gG_at b36k) (sf_set1_25 L ys (d + 1) s29 hT29 b36 b36k (z38) (by omega) (by omega) ) (fun s40 hr => ?_)
        obtain ⟨hT40, hG40⟩ := hr
        have hF40 := fr_trans hF29 hG40 (by decide)
        have e41 : s40.1 83 9 = ((w44_83_9 : Nat) : Int) := (hG40.1 _ _ tsk_10 9 (by decide)).trans e30
        have e42 : s40.1 83 6 = ((w44_83_6 : Nat) : Int) := (hG40.1 _ _ tsk_10 6 (by decide)).trans e31
        have e43 : s40.1 83 12 = ((w44_83_12 : Nat) : Int) := (hG40.1 _ _ tsk_10 12 (by decide)).trans e32
        have e44 : s40.1 83 16 = ((w44_83_16 : Nat) : Int) := (hG40.1 _ _ tsk_10 16 (by decide)).trans e33
        have e45 : s40.1 a1 0 = w44_a1_0 := (hG40.1 _ _ a1k 0 (by decide)).trans e34
        have e46 : s40.1 83 11 = ((b3 : Nat) : Int) := (hG40.1 _ _ tsk_10 11 (by decide)).trans e35
        have e47 : s40.1 83 10 = ((b36 : Nat) : Int) := (hG40.1 _ _ tsk_10 10 (by decide)).trans b36e
        have e48 : s40.1 a1 1 = ((b37 : Nat) : Int) := (hG40.1 _ _ a1k 1 (by decide)).trans b37e
        refine ir_l (pc' := 116) rfl rfl rfl rfl rfl rfl ?_
        refine ir_getR (pc' := 119) rfl rfl rfl (gG_at tsk_10) rfl e46 ?_
        refine ir_l (pc' := 120) rfl rfl rfl rfl rfl rfl ?_
        refine ir_getR (pc' := 123) rfl rfl rfl (gG_at tsk_10) rfl e43 ?_
        refine ir_l (pc' := 124) rfl rfl rfl rfl rfl rfl ?_
        refine ir_getR (pc' := 127) rfl rfl rfl (gG_at tsk_10) rfl e47 ?_
        refine ir_cVV (pc' := 130) rfl rfl rfl rfl rfl (Nat.le_of_ble_eq_true rfl) oo_X1_setProduct (gG_at b3k) (sf_setProduct1_25_19_25 L ys (d + 1) s40 hT40 b3 b3k w44_83_12 w44_83_12k b36 b36k ) (fun s50 hr => ?_)
        obtain ⟨hT50, hG50⟩ := hr
        have hF50 := fr_trans hF40 hG50 (by decide)
        have e51 : s50.1 83 9 = ((w44_83_9 : Nat) : Int) := (hG50.1 _ _ tsk_10 9 (by decide)).trans e41
        have e52 : s50.1 83 6 = ((w44_83_6 : Nat) : Int) := (hG50.1 _ _ tsk_10 6 (by decide)).trans e42
        have e53 : s50.1 83 12 = ((w44_83_12 : Nat) : Int) := (hG50.1 _ _ tsk_10 12 (by decide)).trans e43
        have e54 : s50.1 83 16 = ((w44_83_16 : Nat) : Int) := (hG50.1 _ _ tsk_10 16 (by decide)).trans e44
        have e55 : s50.1 a1 0 = w44_a1_0 := (hG50.1 _ _ a1k 0 (by decide)).trans e45
        have e56 : s50.1 83 11 = ((b3 : Nat) : Int) := (hG50.1 _ _ tsk_10 11 (by decide)).trans e46
        have e57 : s50.1 83 10 = ((b36 : Nat) : Int) := (hG50.1 _ _ tsk_10 10 (by decide)).trans e47
        have e58 : s50.1 a1 1 = ((b37 : Nat) : Int) := (hG50.1 _ _ a1k 1 (by decide)).trans e48
        refine ir_l (pc' := 131) rfl rfl rfl rfl rfl rfl ?_
        refine ir_getR (pc' := 134) rfl rfl rfl (gG_at tsk_10) rfl e54 ?_
        refine ir_l (pc' := 135) rfl rfl rfl rfl rfl rfl ?_
        refine ir_getR (pc' := 138) rfl rfl rfl (gG_at tsk_10) rfl e56 ?_
        refine ir_k (pc' := 139) (v := (0, 1)) rfl rfl rfl (fun _ => rfl) ?_
        refine ir_cVV (pc' := 142) rfl rfl rfl rfl rfl (Nat.le_of_ble_eq_true rfl) oo_X1_add (gG_at w44_83_16k) (sf_add1_25_25 L ys d s50 hT50 w44_83_16 w44_83_16k b3 b3k (1) (by omega) (by omega) ) (fun s60 hr => ?_)
        obtain ⟨hT60, hG60⟩ := hr
        have hF60 := fr_trans hF50 hG60 (by decide)
        have e61 : s60.1 83 9 = ((w44_83_9 : Nat) : Int) := (hG60.1 _ _ tsk_10 9 (by decide)).trans e51
        have e62 : s60.1 83 6 = ((w44_83_6 : Nat) : Int) := (hG60.1 _ _ tsk_10 6 (by decide)).trans e52
        have e63 : s60.1 83 12 = ((w44_83_12 : Nat) : Int) := (hG60.1 _ _ tsk_10 12 (by decide)).trans e53
        have e64 : s60.1 83 16 = ((w44_83_16 : Nat) : Int) := (hG60.1 _ _ tsk_10 16 (by decide)).trans e54
        have e65 : s60.1 a1 0 = w44_a1_0 := (hG60.1 _ _ a1k 0 (by decide)).trans e55
        have e66 : s60.1 83 11 = ((b3 : Nat) : Int) := (hG60.1 _ _ tsk_10 11 (by decide)).trans e56
        have e67 : s60.1 83 10 = ((b36 : Nat) : Int) := (hG60.1 _ _ tsk_10 10 (by decide)).trans e57
        have e68 : s60.1 a1 1 = ((b37 : Nat) : Int) := (hG60.1 _ _ a1k 1 (by decide)).trans e58
        refine ir_inc (pc' := 145) rfl rfl rfl rfl rfl (by omega) (by omega) ?_
        refine ir_goto (pc' := 44) rfl rfl ?_
        refine ir_w [(0, (2, ((83 : Nat) : Int))), (1, (2, ((a1 : Nat) : Int))), (6, (0, (q44_l6 + (-1))))] ⟨rfl, rfl, rfl, trivial⟩ ?_
        exact ih44 ((q44_l6 + (-1))) (by omega) (by omega) s60 hT60 hF60 w44_83_6 w44_83_6k e62 w44_83_9 w44_83_9k e61 w44_83_12 w44_83_12k e63 w44_83_16 w44_83_16k e64 (w44_a1_0) (by omega) (by omega) e65 (by omega)
  refine ir_l (pc' := 1) rfl rfl rfl rfl rfl rfl ?_
  refine ir_tgr (pc' := 4) rfl rfl rfl tf_10_9 tsk_10 hT0 (fun b69 b69e b69k => ?_)
  refine ir_l (pc' := 5) rfl rfl rfl rfl rfl rfl ?_
  refine ir_cVV (pc' := 8) rfl rfl rfl rfl rfl (Nat.le_of_ble_eq_true rfl) oo_X1_set (gG_at b69k) (sf_set1_19 L ys (d + 1) s0 hT0 b69 b69k (x2) (by omega) (by omega) ) (fun s71 hr => ?_)
  obtain ⟨hT71, hG71⟩ := hr
  have hF71 := fr_trans hF0 hG71 (by decide)
  have e72 : s71.1 83 9 = ((b69 : Nat) : Int) := (hG71.1 _ _ tsk_10 9 (by decide)).trans b69e
  refine ir_l (pc' := 9) rfl rfl rfl rfl rfl rfl ?_
  refine ir_tgr (pc' := 12) rfl rfl rfl tf_10_6 tsk_10 hT71 (fun b73 b73e b73k => ?_)
  refine ir_l (pc' := 14) rfl rfl rfl rfl rfl rfl ?_
  refine ir_cVV (pc' := 17) rfl rfl rfl rfl rfl (Nat.le_of_ble_eq_true rfl) oo_X1_set (gG_at b73k) (sf_set1_19 L ys (d + 1) s71 hT71 b73 b73k (x3) (by omega) (by omega) ) (fun s75 hr => ?_)
  obtain ⟨hT75, hG75⟩ := hr
  have hF75 := fr_trans hF71 hG75 (by decide)
  have e76 : s75.1 83 9 = ((b69 : Nat) : Int) := (hG75.1 _ _ tsk_10 9 (by decide)).trans e72
  have e77 : s75.1 83 6 = ((b73 : Nat) : Int) := (hG75.1 _ _ tsk_10 6 (by decide)).trans b73e
  refine ir_l (pc' := 18) rfl rfl rfl rfl rfl rfl ?_
  refine ir_tgr (pc' := 21) rfl rfl rfl tf_10_12 tsk_10 hT75 (fun b78 b78e b78k => ?_)
  refine ir_k (pc' := 22) (v := (1, 1)) rfl rfl rfl (fun _ => rfl) ?_
  refine ir_cVV (pc' := 25) rfl rfl rfl rfl rfl (Nat.le_of_ble_eq_true rfl) oo_X1_set (gG_at b78k) (sf_set1_19 L ys (d + 1) s75 hT75 b78 b78k (1) (by omega) (by omega) ) (fun s80 hr => ?_)
  obtain ⟨hT80, hG80⟩ := hr
  have hF80 := fr_trans hF75 hG80 (by decide)
  have e81 : s80.1 83 9 = ((b69 : Nat) : Int) := (hG80.1 _ _ tsk_10 9 (by decide)).trans e76
  have e82 : s80.1 83 6 = ((b73 : Nat) : Int) := (hG80.1 _ _ tsk_10 6 (by decide)).trans e77
  have e83 : s80.1 83 12 = ((b78 : Nat) : Int) := (hG80.1 _ _ tsk_10 12 (by decide)).trans b78e
  refine ir_l (pc' := 26) rfl rfl rfl rfl rfl rfl ?_
  refine ir_tgr (pc' := 29) rfl rfl rfl tf_10_16 tsk_10 hT80 (fun b84 b84e b84k => ?_)
  refine ir_l (pc' := 30) rfl rfl rfl rfl rfl rfl ?_
  refine ir_cVI (pc' := 33) rfl rfl rfl rfl rfl (Nat.le_of_ble_eq_true rfl) oo_X6_lead (gG_at a1k) (sf_lead6 L ys (d + 2) s80 hT80 a1 a1k ) (fun z85 s86 hr => ?_)
  obtain ⟨hT86, hG86, z85l, z85h, p86_0⟩ := hr
  have hF86 := fr_trans hF80 hG86 (by decide)
  have e87 : s86.1 83 9 = ((b69 : Nat) : Int) := (hG86.1 _ _ tsk_10 9 (by decide)).trans e81
  have e88 : s86.1 83 6 = ((b73 : Nat) : Int) := (hG86.1 _ _ tsk_10 6 (by decide)).trans e82
  have e89 : s86.1 83 12 = ((b78 : Nat) : Int) := (hG86.1 _ _ tsk_10 12 (by decide)).trans e83
  have e90 : s86.1 83 16 = ((b84 : Nat) : Int) := (hG86.1 _ _ tsk_10 16 (by decide)).trans b84e
  refine ir_cVV (pc' := 36) rfl rfl rfl rfl rfl (Nat.le_of_ble_eq_true rfl) oo_X1_set (gG_at b84k) (sf_set1_25 L ys (d + 1) s86 hT86 b84 b84k (z85) (by omega) (by omega) ) (fun s92 hr => ?_)
  obtain ⟨hT92, hG92⟩ := hr
  have hF92 := fr_trans hF86 hG92 (by decide)
  have e93 : s92.1 83 9 = ((b69 : Nat) : Int) := (hG92.1 _ _ tsk_10 9 (by decide)).trans e87
  have e94 : s92.1 83 6 = ((b73 : Nat) : Int) := (hG92.1 _ _ tsk_10 6 (by decide)).trans e88
  have e95 : s92.1 83 12 = ((b78 : Nat) : Int) := (hG92.1 _ _ tsk_10 12 (by decide)).trans e89
  have e96 : s92.1 83 16 = ((b84 : Nat) : Int) := (hG92.1 _ _ tsk_10 16 (by decide)).trans e90
  refine ir_l (pc' := 37) rfl rfl rfl rfl rfl rfl ?_
  refine ir_tgi (pc' := 40) rfl rfl rfl tf_4_0 a1k hT92 (fun z97 z97e z97l z97h => ?_)
  refine ir_k (pc' := 41) (v := (0, 1)) rfl rfl rfl (fun _ => rfl) ?_
  refine ir_sub (pc' := 42) rfl rfl (by omega) (by omega) ?_
  refine ir_s (pc' := 44) rfl rfl rfl rfl rfl rfl ?_
  refine ir_w [(0, (2, ((83 : Nat) : Int))), (1, (2, ((a1 : Nat) : Int))), (6, (0, (z97 - 1)))] ⟨rfl, rfl, rfl, trivial⟩ ?_
  exact J44 _ ((z97 - 1)) (by omega) (by omega) s92 hT92 hF92 b73 b73k e94 b69 b69k e93 b78 b78k e95 b84 b84k e96 (z97) (by omega) (by omega) z97e (Int.self_le_toNat _)
