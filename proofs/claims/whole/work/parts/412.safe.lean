/-! WALKS OF THE CLASS'S METHODS, by program -/
theorem sf_shrink1_16_16 (L : Nat) (ys : Nat → Int32) (d : Nat) (s0 : im_S) (hT0 : tI s0) (a0 : Nat) (a0k : gK[a0]? = some 16) (a1 : Nat) (a1k : gK[a1]? = some 16) : icV gG rm_P L ys (d + 2) 119 [(2, (a0 : Int)), (2, (a1 : Int))] s0 (fun s => tI s ∧ fr [(16, 1), (16, 2)] s0 s) := by
  refine ic_startM (M := rm_p_X1_shrink) om_X1_shrink (Nat.le_of_ble_eq_true rfl) ?_
  refine ir_w [(0, (2, ((a0 : Nat) : Int))), (1, (2, ((a1 : Nat) : Int)))] ⟨rfl, rfl, trivial⟩ ?_
  have hF0 := fr_refl [(16, 1), (16, 2)] s0
  have J183 : ∀ (s_183 : im_S) (hT_183 : tI s_183) (hF_183 : fr [(16, 1), (16, 2)] s0 s_183) (w183_a0_0 : Nat) (w183_a0_0k : gK[w183_a0_0]? = some 18) (w183_a0_0e : s_183.1 a0 0 = ((w183_a0_0 : Nat) : Int)) (w183_a0_1 : Int) (w183_a0_1l : 0 ≤ w183_a0_1) (w183_a0_1h : w183_a0_1 ≤ 80) (w183_a0_1e : s_183.1 a0 1 = w183_a0_1), ir gG rm_P L ys (d + 1) rm_p_X1_shrink (183, [], [], s_183) (fun r : im_Re => r.1 = none ∧ (tI r.2 ∧ fr [(16, 1), (16, 2)] s0 r.2)) := by
    intro s_183 hT_183 hF_183 w183_a0_0 w183_a0_0k w183_a0_0e w183_a0_1 w183_a0_1l w183_a0_1h w183_a0_1e
    exact ir_vret rfl rfl ⟨rfl, hT_183, hF_183⟩
  have J134 : ∀ n : Nat, ∀ (q134_l4 : Int) (q134_l4l : 0 ≤ q134_l4) (q134_l4h : q134_l4 ≤ 80) (q134_l5 : Int) (q134_l5l : -9223372036854775808 ≤ q134_l5) (q134_l5h : q134_l5 ≤ 9223372036854775807) (q134_l7 : Int) (q134_l7l : 0 ≤ q134_l7) (q134_l7h : q134_l7 ≤ 80) (s_134 : im_S) (hT_134 : tI s_134) (hF_134 : fr [(16, 1), (16, 2)] s0 s_134) (w134_a0_0 : Nat) (w134_a0_0k : gK[w134_a0_0]? = some 18) (w134_a0_0e : s_134.1 a0 0 = ((w134_a0_0 : Nat) : Int)) (w134_a0_1 : Int) (w134_a0_1l : 0 ≤ w134_a0_1) (w134_a0_1h : w134_a0_1 ≤ 80) (w134_a0_1e : s_134.1 a0 1 = w134_a0_1) (w134_a0_2 : Int) (w134_a0_2l : -2147483648 ≤ w134_a0_2) (w134_a0_2h : w134_a0_2 ≤ 2147483647) (w134_a0_2e : s_134.1 a0 2 = w134_a0_2), (80 + 1 - q134_l7) ≤ (n : Int) → ir gG rm_P L ys (d + 1) rm_p_X1_shrink (134, [(0, (2, ((a0 : Nat) : Int))), (4, (0, q134_l4)), (5, (1, q134_l5)), (7, (0, q134_l7))], [], s_134) (fun r : im_Re => r.1 = none ∧ (tI r.2 ∧ fr [(16, 1), (16, 2)] s0 r.2)) := by
    intro n
    induction n with
    | zero => intro q134_l4 q134_l4l q134_l4h q134_l5 q134_l5l q134_l5h q134_l7 q134_l7l q134_l7h s_134 hT_134 hF_134 w134_a0_0 w134_a0_0k w134_a0_0e w134_a0_1 w134_a0_1l w134_a0_1h w134_a0_1e w134_a0_2 w134_a0_2l w134_a0_2h w134_a0_2e hr; exfalso; omega
    | succ n ih134 =>
      intro q134_l4 q134_l4l q134_l4h q134_l5 q134_l5l q134_l5h q134_l7 q134_l7l q134_l7h s_134 hT_134 hF_134 w134_a0_0 w134_a0_0k w134_a0_0e w134_a0_1 w134_a0_1l w134_a0_1h w134_a0_1e w134_a0_2 w134_a0_2l w134_a0_2h w134_a0_2e hr
      refine ir_l (pc' := 136) rfl rfl rfl rfl rfl rfl ?_
      refine ir_l (pc' := 138) rfl rfl rfl rfl rfl rfl ?_
      refine ir_c_ge (pt := 183) (pc' := 141) rfl rfl rfl (fun c1 => ?_) (fun c1 => ?_)
      · refine ir_w [] trivial ?_
        exact J183 s_134 hT_134 hF_134 w134_a0_0 w134_a0_0k w134_a0_0e (w134_a0_1) (by omega) (by omega) w134_a0_1e
      · refine ir_l (pc' := 143) rfl rfl rfl rfl rfl rfl ?_
        refine ir_l (pc' := 144) rfl rfl rfl rfl rfl rfl ?_
        refine ir_getR (pc' := 147) rfl rfl rfl (gG_at a0k) rfl w134_a0_0e ?_
        refine ir_l (pc' := 149) rfl rfl rfl rfl rfl rfl ?_
        refine ir_tia (pc' := 150) rfl rfl te_18 (by decide) w134_a0_0k hT_134 (by omega) (by omega) (fun z2 z2e z2l z2h => ?_)
        clear z2e
        refine ir_k (pc' := 151) (v := (0, (-1))) rfl rfl rfl (fun _ => rfl) ?_
        refine ir_iiA (pc' := 152) rfl rfl rfl rfl (fun z3 z3l z3h => ?_)
        refine ir_i2l (pc' := 153) rfl rfl (by omega) (by omega) ?_
        refine ir_k (pc' := 156) (v := (1, 4294967295)) rfl rfl rfl (fun _ => rfl) ?_
        refine ir_landm (pc' := 157) rfl rfl (by decide) (by decide) (fun z4 z4l z4h => ?_)
        refine ir_jjA (pc' := 158) rfl rfl rfl rfl (fun z5 z5l z5h => ?_)
        refine ir_s2 (pc' := 160) rfl rfl rfl rfl rfl rfl ?_
        refine ir_l (pc' := 161) rfl rfl rfl rfl rfl rfl ?_
        refine ir_getR (pc' := 164) rfl rfl rfl (gG_at a0k) rfl w134_a0_0e ?_
        refine ir_l (pc' := 166) rfl rfl rfl rfl rfl rfl ?_
        refine ir_l (pc' := 168) rfl rfl rfl rfl rfl rfl ?_
        refine ir_j1A (pc' := 169) rfl rfl rfl rfl (fun z6 z6e z6l z6h => ?_)
        clear z6e
        refine ir_tis (pc' := 170) rfl rfl rfl rfl te_18 w134_a0_0k hT_134 (by omega) (by omega) (rfl) (by omega) (by omega) (fun s7 hT7 r7 o7 => ?_)
        have hF7 := fr_row hF_134 r7 o7
        have e8 : s7.1 a0 0 = ((w134_a0_0 : Nat) : Int) := by rw [r7]; exact w134_a0_0e
        have e9 : s7.1 a0 1 = w134_a0_1 := by rw [r7]; exact w134_a0_1e
        have e10 : s7.1 a0 2 = w134_a0_2 := by rw [r7]; exact w134_a0_2e
        refine ir_l (pc' := 172) rfl rfl rfl rfl rfl rfl ?_
        refine ir_k (pc' := 174) (v := (0, 32)) rfl rfl rfl (fun _ => rfl) ?_
        refine ir_jijA (pc' := 175) rfl rfl rfl rfl (fun z11 z11l z11h => ?_)
        refine ir_s2 (pc' := 177) rfl rfl rfl rfl rfl rfl ?_
        refine ir_inc (pc' := 180) rfl rfl rfl rfl rfl (by omega) (by omega) ?_
        refine ir_goto (pc' := 134) rfl rfl ?_
        refine ir_w [(0, (2, ((a0 : Nat) : Int))), (4, (0, q134_l4)), (5, (1, z11)), (7, (0, (q134_l7 + 1)))] ⟨rfl, rfl, rfl, rfl, trivial⟩ ?_
        exact ih134 (q134_l4) (by omega) (by omega) (z11) (by omega) (by omega) ((q134_l7 + 1)) (by omega) (by omega) s7 hT7 hF7 w134_a0_0 w134_a0_0k e8 (w134_a0_1) (by omega) (by omega) e9 (w134_a0_2) (by omega) (by omega) e10 (by omega)
  have J26 : ∀ n : Nat, ∀ (q26_l2 : Int) (q26_l2l : -1 ≤ q26_l2) (q26_l2h : q26_l2 ≤ 0) (q26_l4 : Int) (q26_l4l : 0 ≤ q26_l4) (q26_l4h : q26_l4 ≤ 80) (q26_l5 : Int) (q26_l5l : 0 ≤ q26_l5) (q26_l5h : q26_l5 ≤ 80) (s_26 : im_S) (hT_26 : tI s_26) (hF_26 : fr [(16, 1), (16, 2)] s0 s_26) (w26_a0_0 : Nat) (w26_a0_0k : gK[w26_a0_0]? = some 18) (w26_a0_0e : s_26.1 a0 0 = ((w26_a0_0 : Nat) : Int)) (w26_a0_1 : Int) (w26_a0_1l : 0 ≤ w26_a0_1) (w26_a0_1h : w26_a0_1 ≤ 80) (w26_a0_1e : s_26.1 a0 1 = w26_a0_1) (w26_a1_1 : Int) (w26_a1_1l : 0 ≤ w26_a1_1) (w26_a1_1h : w26_a1_1 ≤ 80) (w26_a1_1e : s_26.1 a1 1 = w26_a1_1), (80 + 1 - q26_l5) ≤ (n : Int) → ir gG rm_P L ys (d + 1) rm_p_X1_shrink (26, [(0, (2, ((a0 : Nat) : Int))), (1, (2, ((a1 : Nat) : Int))), (2, (1, q26_l2)), (4, (0, q26_l4)), (5, (0, q26_l5))], [], s_26) (fun r : im_Re => r.1 = none ∧ (tI r.2 ∧ fr [(16, 1), (16, 2)] s0 r.2)) := by
    intro n
    induction n with
    | zero => intro q26_l2 q26_l2l q26_l2h q26_l4 q26_l4l q26_l4h q26_l5 q26_l5l q26_l5h s_26 hT_26 hF_26 w26_a0_0 w26_a0_0k w26_a0_0e w26_a0_1 w26_a0_1l w26_a0_1h w26_a0_1e w26_a1_1 w26_a1_1l w26_a1_1h w26_a1_1e hr; exfalso; omega
    | succ n ih26 =>
      intro q26_l2 q26_l2l q26_l2h q26_l4 q26_l4l q26_l4h q26_l5 q26_l5l q26_l5h s_26 hT_26 hF_26 w26_a0_0 w26_a0_0k w26_a0_0e w26_a0_1 w26_a0_1l w26_a0_1h w26_a0_1e w26_a1_1 w26_a1_1l w26_a1_1h w26_a1_1e hr
      have J84 : ∀ (q84_s0 : Int) (q84_s0l : -1 ≤ q84_s0) (q84_s0h : q84_s0 ≤ 0) (q84_s1 : Int) (q84_s1l : 0 ≤ q84_s1) (q84_s1h : q84_s1 ≤ 4294967295) (q84_s2 : Int) (q84_s2l : 0 ≤ q84_s2) (q84_s2h : q84_s2 ≤ 4294967295) (f84_4l : 1 ≤ q26_l4) (f84_5h : q26_l5 ≤ 79) (s_84 : im_S) (hT_84 : tI s_84) (hF_84 : fr [(16, 1), (16, 2)] s0 s_84) (w84_a0_0 : Nat) (w84_a0_0k : gK[w84_a0_0]? = some 18) (w84_a0_0e : s_84.1 a0 0 = ((w84_a0_0 : Nat) : Int)) (w84_a0_1 : Int) (w84_a0_1l : 0 ≤ w84_a0_1) (w84_a0_1h : w84_a0_1 ≤ 80) (w84_a0_1e : s_84.1 a0 1 = w84_a0_1) (w84_a1_1 : Int) (w84_a1_1l : 0 ≤ w84_a1_1) (w84_a1_1h : w84_a1_1 ≤ 80) (w84_a1_1e : s_84.1 a1 1 = w84_a1_1), ir gG rm_P L ys (d + 1) rm_p_X1_shrink (84, [(0, (2, ((a0 : Nat) : Int))), (1, (2, ((a1 : Nat) : Int))), (4, (0, q26_l4)), (5, (0, q26_l5))], [(1, q84_s2), (1, q84_s1), (1, q84_s0)], s_84) (fun r : im_Re => r.1 = none ∧ (tI r.2 ∧ fr [(16, 1), (16, 2)] s0 r.2)) := by
        intro q84_s0 q84_s0l q84_s0h q84_s1 q84_s1l q84_s1h q84_s2 q84_s2l q84_s2h f84_4l f84_5h s_84 hT_84 hF_84 w84_a0_0 w84_a0_0k w84_a0_0e w84_a0_1 w84_a0_1l w84_a0_1h w84_a0_1e w84_a1_1 w84_a1_1l w84_a1_1h w84_a1_1e
        refine ir_lsub (pc' := 85) rfl rfl (by omega) (by omega) ?_
        refine ir_ladd (pc' := 86) rfl rfl (by omega) (by omega) ?_
        refine ir_s2 (pc' := 87) rfl rfl rfl rfl rfl rfl ?_
        refine ir_l (pc' := 88) rfl rfl rfl rfl rfl rfl ?_
        refine ir_getR (pc' := 91) rfl rfl rfl (gG_at a0k) rfl w84_a0_0e ?_
        refine ir_l (pc' := 93) rfl rfl rfl rfl rfl rfl ?_
        refine ir_l (pc' := 94) rfl rfl rfl rfl rfl rfl ?_
        refine ir_j1A (pc' := 95) rfl rfl rfl rfl (fun z12 z12e z12l z12h => ?_)
        clear z12e
        refine ir_tis (pc' := 96) rfl rfl rfl rfl te_18 w84_a0_0k hT_84 (by omega) (by omega) (rfl) (by omega) (by omega) (fun s13 hT13 r13 o13 => ?_)
        have hF13 := fr_row hF_84 r13 o13
        have e14 : s13.1 a0 1 = w84_a0_1 := by rw [r13]; exact w84_a0_1e
        have e15 : s13.1 a1 1 = w84_a1_1 := by rw [r13]; exact w84_a1_1e
        have e16 : s13.1 a0 0 = ((w84_a0_0 : Nat) : Int) := by rw [r13]; exact w84_a0_0e
        refine ir_l (pc' := 97) rfl rfl rfl rfl rfl rfl ?_
        refine ir_k (pc' := 99) (v := (0, 32)) rfl rfl rfl (fun _ => rfl) ?_
        refine ir_lshr (pc' := 100) (y := 32) (k := 32) (m := 4294967296) rfl rfl (by decide) rfl (by decide) (by omega) (by omega) ?_
        refine ir_s2 (pc' := 101) rfl rfl rfl rfl rfl rfl ?_
        refine ir_inc (pc' := 104) rfl rfl rfl rfl rfl (by omega) (by omega) ?_
        refine ir_goto (pc' := 26) rfl rfl ?_
        refine ir_w [(0, (2, ((a0 : Nat) : Int))), (1, (2, ((a1 : Nat) : Int))), (2, (1, ((q84_s0 + (q84_s1 - q84_s2)) / 4294967296))), (4, (0, q26_l4)), (5, (0, (q26_l5 + 1)))] ⟨rfl, rfl, rfl, rfl, rfl, trivial⟩ ?_
        exact ih26 (((q84_s0 + (q84_s1 - q84_s2)) / 4294967296)) (by omega) (by omega) (q26_l4) (by omega) (by omega) ((q26_l5 + 1)) (by omega) (by omega) s13 hT13 hF13 w84_a0_0 w84_a0_0k e16 (w84_a0_1) (by omega) (by omega) e14 (w84_a1_1) (by omega) (by omega) e15 (by omega)
      have J59 : ∀ (q59_s0 : Int) (q59_s0l : -1 ≤ q59_s0) (q59_s0h : q59_s0 ≤ 0) (q59_s1 : Int) (q59_s1l : 0 ≤ q59_s1) (q59_s1h : q59_s1 ≤ 4294967295) (f59_4l : 1 ≤ q26_l4) (f59_5h : q26_l5 ≤ 79) (s_59 : im_S) (hT_59 : tI s_59) (hF_59 : fr [(16, 1), (16, 2)] s0 s_59) (w59_a0_0 : Nat) (w59_a0_0k : gK[w59_a0_0]? = some 18) (w59_a0_0e : s_59.1 a0 0 = ((w59_a0_0 : Nat) : Int)) (w59_a0_1 : Int) (w59_a0_1l : 0 ≤ w59_a0_1) (w59_a0_1h : w59_a0_1 ≤ 80) (w59_a0_1e : s_59.1 a0 1 = w59_a0_1) (w59_a1_1 : Int) (w59_a1_1l : 0 ≤ w59_a1_1) (w59_a1_1h : w59_a1_1 ≤ 80) (w59_a1_1e : s_59.1 a1 1 = w59_a1_1), ir gG rm_P L ys (d + 1) rm_p_X1_shrink (59, [(0, (2, ((a0 : Nat) : Int))), (1, (2, ((a1 : Nat) : Int))), (4, (0, q26_l4)), (5, (0, q26_l5))], [(1, q59_s1), (1, q59_s0)], s_59) (fun r : im_Re => r.1 = none ∧ (tI r.2 ∧ fr [(16, 1), (16, 2)] s0 r.2)) := by
        intro q59_s0 q59_s0l q59_s0h q59_s1 q59_s1l q59_s1h f59_4l f59_5h s_59 hT_59 hF_59 w59_a0_0 w59_a0_0k w59_a0_0e w59_a0_1 w59_a0_1l w59_a0_1h w59_a0_1e w59_a1_1 w59_a1_1l w59_a1_1h w59_a1_1e
        refine ir_l (pc' := 61) rfl rfl rfl rfl rfl rfl ?_
        refine ir_l (pc' := 62) rfl rfl rfl rfl rfl rfl ?_
        refine ir_getI (pc' := 65) rfl rfl rfl (gG_at a1k) rfl (by decide) (by decide) w59_a1_1e (by omega) (by omega) ?_
        refine ir_c_ge (pt := 83) (pc' := 68) rfl rfl rfl (fun c17 => ?_) (fun c17 => ?_)
        · refine ir_k (pc' := 84) (v := (1, 0)) rfl rfl rfl (fun _ => rfl) ?_
          refine ir_w [(0, (2, ((a0 : Nat) : Int))), (1, (2, ((a1 : Nat) : Int))), (4, (0, q26_l4)), (5, (0, q26_l5))] ⟨rfl, rfl, rfl, rfl, trivial⟩ ?_
          exact J84 (q59_s0) (by omega) (by omega) (q59_s1) (by omega) (by omega) (0) (by omega) (by omega) (by omega) (by omega) s_59 hT_59 hF_59 w59_a0_0 w59_a0_0k w59_a0_0e (w59_a0_1) (by omega) (by omega) w59_a0_1e (w59_a1_1) (by omega) (by omega) w59_a1_1e
        · refine ir_l (pc' := 69) rfl rfl rfl rfl rfl rfl ?_
          refine ir_tgr (pc' := 72) rfl rfl rfl tf_16_0 a1k hT_59 (fun b18 b18e b18k => ?_)
          refine ir_l (pc' := 74) rfl rfl rfl rfl rfl rfl ?_
          refine ir_tia (pc' := 75) rfl rfl te_18 (by decide) b18k hT_59 (by omega) (by omega) (fun z19 z19e z19l z19h => ?_)
          clear z19e
          refine ir_i2l (pc' := 76) rfl rfl (by omega) (by omega) ?_
          refine ir_k (pc' := 79) (v := (1, 4294967295)) rfl rfl rfl (fun _ => rfl) ?_
          refine ir_landm (pc' := 80) rfl rfl (by decide) (by decide) (fun z20 z20l z20h => ?_)
          refine ir_goto (pc' := 84) rfl rfl ?_
          refine ir_w [(0, (2, ((a0 : Nat) : Int))), (1, (2, ((a1 : Nat) : Int))), (4, (0, q26_l4)), (5, (0, q26_l5))] ⟨rfl, rfl, rfl, rfl, trivial⟩ ?_
          exact J84 (q59_s0) (by omega) (by omega) (q59_s1) (by omega) (by omega) (z20) (by omega) (by omega) (by omega) (by omega) s_59 hT_59 hF_59 w59_a0_0 w59_a0_0k w59_a0_0e (w59_a0_1) (by omega) (by omega) w59_a0_1e (w59_a1_1) (by omega) (by omega) w59_a1_1e
      refine ir_l (pc' := 28) rfl rfl rfl rfl rfl rfl ?_
      refine ir_l (pc' := 30) rfl rfl rfl rfl rfl rfl ?_
      refine ir_c_ge (pt := 107) (pc' := 33) rfl rfl rfl (fun c21 => ?_) (fun c21 => ?_)
      · refine ir_l (pc' := 108) rfl rfl rfl rfl rfl rfl ?_
        refine ir_l (pc' := 110) rfl rfl rfl rfl rfl rfl ?_
        refine ir_tpi (pc' := 113) rfl rfl rfl tf_16_1 rfl a0k hT_26 rfl (by omega) (by omega) (fun s22 hT22 e22 g22 r22 => ?_)
        have hF22 := fr_put (k := 16) hF_26 (by decide) a0k g22 r22
        have e23 : s22.1 a0 0 = ((w26_a0_0 : Nat) : Int) := (g22 a0 0 (fun z => absurd z.2 (by decide))).trans w26_a0_0e
        refine ir_l (pc' := 114) rfl rfl rfl rfl rfl rfl ?_
        refine ir_k (pc' := 115) (v := (1, 0)) rfl rfl rfl (fun _ => rfl) ?_
        refine ir_lcmp (pc' := 116) rfl rfl (by omega) (by omega) (by omega) (by omega) (fun z24 z24c => ?_)
        refine ir_z_eq (pt := 183) (pc' := 119) rfl rfl rfl (fun c25 => ?_) (fun c25 => ?_)
        · refine ir_w [] trivial ?_
          exact J183 s22 hT22 hF22 w26_a0_0 w26_a0_0k e23 (q26_l4) (by omega) (by omega) e22
        · refine ir_l (pc' := 120) rfl rfl rfl rfl rfl rfl ?_
          refine ir_l (pc' := 121) rfl rfl rfl rfl rfl rfl ?_
          refine ir_tgi (pc' := 124) rfl rfl rfl tf_16_2 a0k hT22 (fun z26 z26e z26l z26h => ?_)
          refine ir_i1A (pc' := 125) rfl rfl rfl rfl (fun z27 z27e z27l z27h => ?_)
          clear z27e
          refine ir_tpi (pc' := 128) rfl rfl rfl tf_16_2 rfl a0k hT22 rfl (by omega) (by omega) (fun s28 hT28 e28 g28 r28 => ?_)
          have hF28 := fr_put (k := 16) hF22 (by decide) a0k g28 r28
          have e29 : s28.1 a0 0 = ((w26_a0_0 : Nat) : Int) := (g28 a0 0 (fun z => absurd z.2 (by decide))).trans e23
          have e30 : s28.1 a0 1 = q26_l4 := (g28 a0 1 (fun z => absurd z.2 (by decide))).trans e22
          refine ir_k (pc' := 129) (v := (1, 1)) rfl rfl rfl (fun _ => rfl) ?_
          refine ir_s2 (pc' := 131) rfl rfl rfl rfl rfl rfl ?_
          refine ir_k (pc' := 132) (v := (0, 0)) rfl rfl rfl (fun _ => rfl) ?_
          refine ir_s (pc' := 134) rfl rfl rfl rfl rfl rfl ?_
          refine ir_w [(0, (2, ((a0 : Nat) : Int))), (4, (0, q26_l4)), (5, (1, 1)), (7, (0, 0))] ⟨rfl, rfl, rfl, rfl, trivial⟩ ?_
          exact J134 _ (q26_l4) (by omega) (by omega) (1) (by omega) (by omega) (0) (by omega) (by omega) s28 hT28 hF28 w26_a0_0 w26_a0_0k e29 (q26_l4) (by omega) (by omega) e30 (z27) (by omega) (by omega) e28 (Int.self_le_toNat _)
      · refine ir_l (pc' := 34) rfl rfl rfl rfl rfl rfl ?_
        refine ir_l (pc' := 36) rfl rfl rfl rfl rfl rfl ?_
        refine ir_l (pc' := 37) rfl rfl rfl rfl rfl rfl ?_
        refine ir_getI (pc' := 40) rfl rfl rfl (gG_at a0k) rfl (by decide) (by decide) w26_a0_1e (by omega) (by omega) ?_
        refine ir_c_ge (pt := 58) (pc' := 43) rfl rfl rfl (fun c31 => ?_) (fun c31 => ?_)
        · refine ir_k (pc' := 59) (v := (1, 0)) rfl rfl rfl (fun _ => rfl) ?_
          refine ir_w [(0, (2, ((a0 : Nat) : Int))), (1, (2, ((a1 : Nat) : Int))), (4, (0, q26_l4)), (5, (0, q26_l5))] ⟨rfl, rfl, rfl, rfl, trivial⟩ ?_
          exact J59 (q26_l2) (by omega) (by omega) (0) (by omega) (by omega) (by omega) (by omega) s_26 hT_26 hF_26 w26_a0_0 w26_a0_0k w26_a0_0e (w26_a0_1) (by omega) (by omega) w26_a0_1e (w26_a1_1) (by omega) (by omega) w26_a1_1e
        · refine ir_l (pc' := 44) rfl rfl rfl rfl rfl rfl ?_
          refine ir_getR (pc' := 47) rfl rfl rfl (gG_at a0k) rfl w26_a0_0e ?_
          refine ir_l (pc' := 49) rfl rfl rfl rfl rfl rfl ?_
          refine ir_tia (pc' := 50) rfl rfl te_18 (by decide) w26_a0_0k hT_26 (by omega) (by omega) (fun z32 z32e z32l z32h => ?_)
          clear z32e
          refine ir_i2l (pc' := 51) rfl rfl (by omega) (by omega) ?_
          refine ir_k (pc' := 54) (v := (1, 4294967295)) rfl rfl rfl (fun _ => rfl) ?_
          refine ir_landm (pc' := 55) rfl rfl (by decide) (by decide) (fun z33 z33l z33h => ?_)
          refine ir_goto (pc' := 59) rfl rfl ?_
          refine ir_w [(0, (2, ((a0 : Nat) : Int))), (1, (2, ((a1 : Nat) : Int))), (4, (0, q26_l4)), (5, (0, q26_l5))] ⟨rfl, rfl, rfl, rfl, trivial⟩ ?_
          exact J59 (q26_l2) (by omega) (by omega) (z33) (by omega) (by omega) (by omega) (by omega) s_26 hT_26 hF_26 w26_a0_0 w26_a0_0k w26_a0_0e (w26_a0_1) (by omega) (by omega) w26_a0_1e (w26_a1_1) (by omega) (by omega) w26_a1_1e
  refine ir_k (pc' := 1) (v := (1, 0)) rfl rfl rfl (fun _ => rfl) ?_
  refine ir_s2 (pc' := 2) rfl rfl rfl rfl rfl rfl ?_
  refine ir_l (pc' := 3) rfl rfl rfl rfl rfl rfl ?_
  refine ir_tgi (pc' := 6) rfl rfl rfl tf_16_1 a0k hT0 (fun z34 z34e z34l z34h => ?_)
  refine ir_l (pc' := 7) rfl rfl rfl rfl rfl rfl ?_
  refine ir_tgi (pc' := 10) rfl rfl rfl tf_16_1 a1k hT0 (fun z35 z35e z35l z35h => ?_)
  refine ir_cSI (pc' := 13) rfl rfl rfl rfl rfl rfl (Nat.le_of_ble_eq_true rfl) (sf_max L ys d s0 (z34) (by omega) (by omega) (z35) (by omega) (by omega)) (fun z36 s37 hr => ?_)
  obtain ⟨rfl, z36p0, z36p1, z36p2⟩ := hr
  refine ir_l (pc' := 14) rfl rfl rfl rfl rfl rfl ?_
  refine ir_tgr (pc' := 17) rfl rfl rfl tf_16_0 a0k hT0 (fun b38 b38e b38k => ?_)
  refine ir_tlen (pc' := 18) rfl rfl te_18 (by decide) b38k ?_
  refine ir_cSI (pc' := 21) rfl rfl rfl rfl rfl rfl (Nat.le_of_ble_eq_true rfl) (sf_min L ys d s0 (z36) (by omega) (by omega) (((80 : Nat) : Int)) (by omega) (by omega)) (fun z39 s40 hr => ?_)
  obtain ⟨rfl, z39p0, z39p1, z39p2⟩ := hr
  refine ir_s (pc' := 23) rfl rfl rfl rfl rfl rfl ?_
  refine ir_k (pc' := 24) (v := (0, 0)) rfl rfl rfl (fun _ => rfl) ?_
  refine ir_s (pc' := 26) rfl rfl rfl rfl rfl rfl ?_
  refine ir_w [(0, (2, ((a0 : Nat) : Int))), (1, (2, ((a1 : Nat) : Int))), (2, (1, 0)), (4, (0, z39)), (5, (0, 0))] ⟨rfl, rfl, rfl, rfl, rfl, trivial⟩ ?_
  exact J26 _ (0) (by omega) (by omega) (z39) (by omega) (by omega) (0) (by omega) (by omega) s0 hT0 hF0 b38 b38k b38e (z34) (by omega) (by omega) z34e (z35) (by omega) (by omega) z35e (Int.self_le_toNat _)
theorem sf_trim1_16 (L : Nat) (ys : Nat → Int32) (d : Nat) (s0 : im_S) (hT0 : tI s0) (a0 : Nat) (a0k : gK[a0]? = some 16) : icV gG rm_P L ys (d + 1) 121 [(2, (a0 : Int))] s0 (fun s => tI s ∧ fr [(16, 1), (16, 2)] s0 s) := by
  refine ic_startM (M := rm_p_X1_trim) om_X1_trim (Nat.le_of_ble_eq_true rfl) ?_
  refine ir_w [(0, (2, ((a0 : Nat) : Int)))] ⟨rfl, trivial⟩ ?_
  have hF0 := fr_refl [(16, 1), (16, 2)] s0
  have J46 : ∀ (s_46 : im_S) (hT_46 : tI s_46) (hF_46 : fr [(16, 1), (16, 2)] s0 s_46) (w46_a0_1 : Int) (w46_a0_1l : 0 ≤ w46_a0_1) (w46_a0_1h : w46_a0_1 ≤ 80) (w46_a0_1e : s_46.1 a0 1 = w46_a0_1), ir gG rm_P L ys d rm_p_X1_trim (46, [], [], s_46) (fun r : im_Re => r.1 = none ∧ (tI r.2 ∧ fr [(16, 1), (16, 2)] s0 r.2)) := by
    intro s_46 hT_46 hF_46 w46_a0_1 w46_a0_1l w46_a0_1h w46_a0_1e
    exact ir_vret rfl rfl ⟨rfl, hT_46, hF_46⟩
  have J34 : ∀ (s_34 : im_S) (hT_34 : tI s_34) (hF_34 : fr [(16, 1), (16, 2)] s0 s_34) (w34_a0_1 : Int) (w34_a0_1l : 0 ≤ w34_a0_1) (w34_a0_1h : w34_a0_1 ≤ 80) (w34_a0_1e : s_34.1 a0 1 = w34_a0_1), ir gG rm_P L ys d rm_p_X1_trim (34, [(0, (2, ((a0 : Nat) : Int)))], [], s_34) (fun r : im_Re => r.1 = none ∧ (tI r.2 ∧ fr [(16, 1), (16, 2)] s0 r.2)) := by
    intro s_34 hT_34 hF_34 w34_a0_1 w34_a0_1l w34_a0_1h w34_a0_1e
    refine ir_l (pc' := 35) rfl rfl rfl rfl rfl rfl ?_
    refine ir_getI (pc' := 38) rfl rfl rfl (gG_at a0k) rfl (by decide) (by decide) w34_a0_1e (by omega) (by omega) ?_
    refine ir_z_ne (pt := 46) (pc' := 41) rfl rfl rfl (fun c1 => ?_) (fun c1 => ?_)
    · refine ir_w [] trivial ?_
      exact J46 s_34 hT_34 hF_34 (w34_a0_1) (by omega) (by omega) w34_a0_1e
    · refine ir_l (pc' := 42) rfl rfl rfl rfl rfl rfl ?_
      refine ir_k (pc' := 43) (v := (0, 0)) rfl rfl rfl (fun _ => rfl) ?_
      refine ir_tpi (pc' := 46) rfl rfl rfl tf_16_2 rfl a0k hT_34 rfl (by omega) (by omega) (fun s2 hT2 e2 g2 r2 => ?_)
      have hF2 := fr_put (k := 16) hF_34 (by decide) a0k g2 r2
      have e3 : s2.1 a0 1 = w34_a0_1 := (g2 a0 1 (fun z => absurd z.2 (by decide))).trans w34_a0_1e
      refine ir_w [] trivial ?_
      exact J46 s2 hT2 hF2 (w34_a0_1) (by omega) (by omega) e3
  have J0 : ∀ n : Nat, ∀ (s_0 : im_S) (hT_0 : tI s_0) (hF_0 : fr [(16, 1), (16, 2)] s0 s_0) (w0_a0_1 : Int) (w0_a0_1l : 0 ≤ w0_a0_1) (w0_a0_1h : w0_a0_1 ≤ 80) (w0_a0_1e : s_0.1 a0 1 = w0_a0_1), (w0_a0_1 + 1) ≤ (n : Int) → ir gG rm_P L ys d rm_p_X1_trim (0, [(0, (2, ((a0 : Nat) : Int)))], [], s_0) (fun r : im_Re => r.1 = none ∧ (tI r.2 ∧ fr [(16, 1), (16, 2)] s0 r.2)) := by
    intro n
    induction n with
    | zero => intro s_0 hT_0 hF_0 w0_a0_1 w0_a0_1l w0_a0_1h w0_a0_1e hr; exfalso; omega
    | succ n ih0 =>
      intro s_0 hT_0 hF_0 w0_a0_1 w0_a0_1l w0_a0_1h w0_a0_1e hr
      refine ir_l (pc' := 1) rfl rfl rfl rfl rfl rfl ?_
      refine ir_getI (pc' := 4) rfl rfl rfl (gG_at a0k) rfl (by decide) (by decide) w0_a0_1e (by omega) (by omega) ?_
      refine ir_z_le (pt := 34) (pc' := 7) rfl rfl rfl (fun c4 => ?_) (fun c4 => ?_)
      · refine ir_w [(0, (2, ((a0 : Nat) : Int)))] ⟨rfl, trivial⟩ ?_
        exact J34 s_0 hT_0 hF_0 (w0_a0_1) (by omega) (by omega) w0_a0_1e
      · refine ir_l (pc' := 8) rfl rfl rfl rfl rfl rfl ?_
        refine ir_tgr (pc' := 11) rfl rfl rfl tf_16_0 a0k hT_0 (fun b5 b5e b5k => ?_)
        refine ir_l (pc' := 12) rfl rfl rfl rfl rfl rfl ?_
        refine ir_getI (pc' := 15) rfl rfl rfl (gG_at a0k) rfl (by decide) (by decide) w0_a0_1e (by omega) (by omega) ?_
        refine ir_k (pc' := 16) (v := (0, 1)) rfl rfl rfl (fun _ => rfl) ?_
        refine ir_sub (pc' := 17) rfl rfl (by omega) (by omega) ?_
        refine ir_tia (pc' := 18) rfl rfl te_18 (by decide) b5k hT_0 (by omega) (by omega) (fun z6 z6e z6l z6h => ?_)
        clear z6e
        refine ir_z_ne (pt := 34) (pc' := 21) rfl rfl rfl (fun c7 => ?_) (fun c7 => ?_)
        · refine ir_w [(0, (2, ((a0 : Nat) : Int)))] ⟨rfl, trivial⟩ ?_
          exact J34 s_0 hT_0 hF_0 (w0_a0_1) (by omega) (by omega) w0_a0_1e
        · refine ir_l (pc' := 22) rfl rfl rfl rfl rfl rfl ?_
          refine ir_x (pc' := 23) rfl rfl rfl (fun _ => rfl) ?_
          refine ir_getI (pc' := 26) rfl rfl rfl (gG_at a0k) rfl (by decide) (by decide) w0_a0_1e (by omega) (by omega) ?_
          refine ir_k (pc' := 27) (v := (0, 1)) rfl rfl rfl (fun _ => rfl) ?_
          refine ir_sub (pc' := 28) rfl rfl (by omega) (by omega) ?_
          refine ir_tpi (pc' := 31) rfl rfl rfl tf_16_1 rfl a0k hT_0 rfl (by omega) (by omega) (fun s8 hT8 e8 g8 r8 => ?_)
          have hF8 := fr_put (k := 16) hF_0 (by decide) a0k g8 r8
          have e9 : s8.1 a0 0 = ((b5 : Nat) : Int) := (g8 a0 0 (fun z => absurd z.2 (by decide))).trans b5e
          refine ir_goto (pc' := 0) rfl rfl ?_
          refine ir_w [(0, (2, ((a0 : Nat) : Int)))] ⟨rfl, trivial⟩ ?_
          exact ih0 s8 hT8 hF8 ((w0_a0_1 - 1)) (by omega) (by omega) e8 (by omega)
  obtain ⟨z10, z10e, z10l, z10h⟩ := tI_i tf_16_1 a0k hT0
  refine ir_w [(0, (2, ((a0 : Nat) : Int)))] ⟨rfl, trivial⟩ ?_
  exact J0 _ s0 hT0 hF0 (z10) (by omega) (by omega) z10e (Int.self_le_toNat _)
theorem sf_add1_16_16 (L : Nat) (ys : Nat → Int32) (d : Nat) (s0 : im_S) (hT0 : tI s0) (a0 : Nat) (a0k : gK[a0]? = some 16) (a1 : Nat) (a1k : gK[a1]? = some 16) (x2 : Int) (x2l : -2147483648 ≤ x2) (x2h : x2 ≤ 2147483647) : icV gG rm_P L ys (d + 3) 108 [(2, (a0 : Int)), (2, (a1 : Int)), (0, x2)] s0 (fun s => tI s ∧ fr [(16, 1), (16, 2)] s0 s) := by
  refine ic_startM (M := rm_p_X1_add) om_X1_add (Nat.le_of_ble_eq_true rfl) ?_
  refine ir_w [(0, (2, ((a0 : Nat) : Int))), (1, (2, ((a1 : Nat) : Int))), (2, (0, x2))] ⟨rfl, rfl, rfl, trivial⟩ ?_
  have hF0 := fr_refl [(16, 1), (16, 2)] s0
  have J57 : ∀ (s_57 : im_S) (hT_57 : tI s_57) (hF_57 : fr [(16, 1), (16, 2)] s0 s_57), ir gG rm_P L ys (d + 2) rm_p_X1_add (57, [], [], s_57) (fun r : im_Re => r.1 = none ∧ (tI r.2 ∧ fr [(16, 1), (16, 2)] s0 r.2)) := by
    intro s_57 hT_57 hF_57
    exact ir_vret rfl rfl ⟨rfl, hT_57, hF_57⟩
  refine ir_l (pc' := 1) rfl rfl rfl rfl rfl rfl ?_
  refine ir_tgi (pc' := 4) rfl rfl rfl tf_16_2 a1k hT0 (fun z1 z1e z1l z1h => ?_)
  refine ir_l (pc' := 5) rfl rfl rfl rfl rfl rfl ?_
  refine ir_iiA (pc' := 6) rfl rfl rfl rfl (fun z2 z2l z2h => ?_)
  refine ir_s (pc' := 7) rfl rfl rfl rfl rfl rfl ?_
  refine ir_l (pc' := 8) rfl rfl rfl rfl rfl rfl ?_
  refine ir_z_ne (pt := 12) (pc' := 11) rfl rfl rfl (fun c3 => ?_) (fun c3 => ?_)
  · refine ir_l (pc' := 13) rfl rfl rfl rfl rfl rfl ?_
    refine ir_tgi (pc' := 16) rfl rfl rfl tf_16_2 a0k hT0 (fun z4 z4e z4l z4h => ?_)
    refine ir_z_ne (pt := 32) (pc' := 19) rfl rfl rfl (fun c5 => ?_) (fun c5 => ?_)
    · refine ir_l (pc' := 33) rfl rfl rfl rfl rfl rfl ?_
      refine ir_getI (pc' := 36) rfl rfl rfl (gG_at a0k) rfl (by decide) (by decide) z4e (by omega) (by omega) ?_
      refine ir_l (pc' := 37) rfl rfl rfl rfl rfl rfl ?_
      refine ir_c_ne (pt := 48) (pc' := 40) rfl rfl rfl (fun c6 => ?_) (fun c6 => ?_)
      · refine ir_l (pc' := 49) rfl rfl rfl rfl rfl rfl ?_
        refine ir_l (pc' := 50) rfl rfl rfl rfl rfl rfl ?_
        refine ir_cVV (pc' := 53) rfl rfl rfl rfl rfl (Nat.le_of_ble_eq_true rfl) oo_X1_shrink (gG_at a0k) (sf_shrink1_16_16 L ys d s0 hT0 a0 a0k a1 a1k ) (fun s8 hr => ?_)
        obtain ⟨hT8, hG8⟩ := hr
        have hF8 := fr_trans hF0 hG8 (by decide)
        refine ir_l (pc' := 54) rfl rfl rfl rfl rfl rfl ?_
        refine ir_cVV (pc' := 57) rfl rfl rfl rfl rfl (Nat.le_of_ble_eq_true rfl) oo_X1_trim (gG_at a0k) (sf_trim1_16 L ys (d + 1) s8 hT8 a0 a0k ) (fun s10 hr => ?_)
        obtain ⟨hT10, hG10⟩ := hr
        have hF10 := fr_trans hF8 hG10 (by decide)
        refine ir_w [] trivial ?_
        exact J57 s10 hT10 hF10
      · refine ir_l (pc' := 41) rfl rfl rfl rfl rfl rfl ?_
        refine ir_l (pc' := 42) rfl rfl rfl rfl rfl rfl ?_
        refine ir_cVV (pc' := 45) rfl rfl rfl rfl rfl (Nat.le_of_ble_eq_true rfl) oo_X1_grow (gG_at a0k) (sf_grow1_16_16 L ys d s0 hT0 a0 a0k a1 a1k ) (fun s12 hr => ?_)
        obtain ⟨hT12, hG12⟩ := hr
        have hF12 := fr_trans hF0 hG12 (by decide)
        have e13 : s12.1 a1 2 = z1 := (hG12.1 _ _ a1k 2 (by decide)).trans z1e
        have e14 : s12.1 a0 2 = z4 := (hG12.1 _ _ a0k 2 (by decide)).trans z4e
        refine ir_goto (pc' := 57) rfl rfl ?_
        refine ir_w [] trivial ?_
        exact J57 s12 hT12 hF12
    · refine ir_l (pc' := 20) rfl rfl rfl rfl rfl rfl ?_
      refine ir_l (pc' := 21) rfl rfl rfl rfl rfl rfl ?_
      refine ir_cVV (pc' := 24) rfl rfl rfl rfl rfl (Nat.le_of_ble_eq_true rfl) oo_X1_copy (gG_at a0k) (sf_copy1_16_16 L ys d s0 hT0 a0 a0k a1 a1k ) (fun s16 hr => ?_)
      obtain ⟨hT16, hG16⟩ := hr
      have hF16 := fr_trans hF0 hG16 (by decide)
      refine ir_l (pc' := 25) rfl rfl rfl rfl rfl rfl ?_
      refine ir_l (pc' := 26) rfl rfl rfl rfl rfl rfl ?_
      refine ir_tpi (pc' := 29) rfl rfl rfl tf_16_2 rfl a0k hT16 rfl (by omega) (by omega) (fun s17 hT17 e17 g17 r17 => ?_)
      have hF17 := fr_put (k := 16) hF16 (by decide) a0k g17 r17
      refine ir_goto (pc' := 57) rfl rfl ?_
      refine ir_w [] trivial ?_
      exact J57 s17 hT17 hF17
  · exact ir_vret rfl rfl ⟨rfl, hT0, hF0⟩
theorem sf_moveBy5 (L : Nat) (ys : Nat → Int32) (d : Nat) (s0 : im_S) (hT0 : tI s0) (a1 : Nat) (a1k : gK[a1]? = some 17) (x2 : Int) (x2l : -2147483648 ≤ x2) (x2h : x2 ≤ 2147483647) : icV gG rm_P L ys (d + 4) 166 [(2, ((267 : Nat) : Int)), (2, (a1 : Int)), (0, x2)] s0 (fun s => tI s ∧ fr [(16, 1), (16, 2)] s0 s) := by
  refine ic_startM (M := rm_p_X5_moveBy) om_X5_moveBy (Nat.le_of_ble_eq_true rfl) ?_
  refine ir_w [(0, (2, ((267 : Nat) : Int))), (1, (2, ((a1 : Nat) : Int))), (2, (0, x2))] ⟨rfl, rfl, rfl, trivial⟩ ?_
  have hF0 := fr_refl [(16, 1), (16, 2)] s0
  have J2 : ∀ n : Nat, ∀ (q2_l3 : Int) (q2_l3l : 0 ≤ q2_l3) (q2_l3h : q2_l3 ≤ 9) (s_2 : im_S) (hT_2 : tI s_2) (hF_2 : fr [(16, 1), (16, 2)] s0 s_2), (9 + 1 - q2_l3) ≤ (n : Int) → ir gG rm_P L ys (d + 3) rm_p_X5_moveBy (2, [(0, (2, ((267 : Nat) : Int))), (1, (2, ((a1 : Nat) : Int))), (2, (0, x2)), (3, (0, q2_l3))], [], s_2) (fun r : im_Re => r.1 = none ∧ (tI r.2 ∧ fr [(16, 1), (16, 2)] s0 r.2)) := by
    intro n
    induction n with
    | zero => intro q2_l3 q2_l3l q2_l3h s_2 hT_2 hF_2 hr; exfalso; omega
    | succ n ih2 =>
      intro q2_l3 q2_l3l q2_l3h s_2 hT_2 hF_2 hr
      have J18 : ∀ n : Nat, ∀ (q18_l4 : Int) (q18_l4l : -1 ≤ q18_l4) (q18_l4h : q18_l4 ≤ 7) (f18_3h : q2_l3 ≤ 8) (s_18 : im_S) (hT_18 : tI s_18) (hF_18 : fr [(16, 1), (16, 2)] s0 s_18) (w18_267_4 : Int) (w18_267_4l : 1 ≤ w18_267_4) (w18_267_4h : w18_267_4 ≤ 8) (w18_267_4e : s_18.1 267 4 = w18_267_4), (q18_l4 - -1 + 1) ≤ (n : Int) → ir gG rm_P L ys (d + 3) rm_p_X5_moveBy (18, [(0, (2, ((267 : Nat) : Int))), (1, (2, ((a1 : Nat) : Int))), (2, (0, x2)), (3, (0, q2_l3)), (4, (0, q18_l4))], [], s_18) (fun r : im_Re => r.1 = none ∧ (tI r.2 ∧ fr [(16, 1), (16, 2)] s0 r.2)) := by
        intro n
        induction n with
        | zero => intro q18_l4 q18_l4l q18_l4h f18_3h s_18 hT_18 hF_18 w18_267_4 w18_267_4l w18_267_4h w18_267_4e hr; exfalso; omega
        | succ n ih18 =>
          intro q18_l4 q18_l4l q18_l4h f18_3h s_18 hT_18 hF_18 w18_267_4 w18_267_4l w18_267_4h w18_267_4e hr
          refine ir_l (pc' := 20) rfl rfl rfl rfl rfl rfl ?_
          refine ir_l (pc' := 21) rfl rfl rfl rfl rfl rfl ?_
          refine ir_c_lt (pt := 44) (pc' := 24) rfl rfl rfl (fun c1 => ?_) (fun c1 => ?_)
          · refine ir_inc (pc' := 47) rfl rfl rfl rfl rfl (by omega) (by omega) ?_
            refine ir_goto (pc' := 2) rfl rfl ?_
            refine ir_w [(0, (2, ((267 : Nat) : Int))), (1, (2, ((a1 : Nat) : Int))), (2, (0, x2)), (3, (0, (q2_l3 + 1)))] ⟨rfl, rfl, rfl, rfl, trivial⟩ ?_
            exact ih2 ((q2_l3 + 1)) (by omega) (by omega) s_18 hT_18 hF_18 (by omega)
          · refine ir_l (pc' := 25) rfl rfl rfl rfl rfl rfl ?_
            refine ir_l (pc' := 27) rfl rfl rfl rfl rfl rfl ?_
            refine ir_taa (pc' := 28) (k2 := 16) rfl rfl te_17 (by decide) a1k hT_18 (by omega) (by omega) (fun b2 b2k => ?_)
            refine ir_l (pc' := 29) rfl rfl rfl rfl rfl rfl ?_
            refine ir_l (pc' := 31) rfl rfl rfl rfl rfl rfl ?_
            refine ir_k (pc' := 32) (v := (0, 1)) rfl rfl rfl (fun _ => rfl) ?_
            refine ir_add (pc' := 33) rfl rfl (by omega) (by omega) ?_
            refine ir_taa (pc' := 34) (k2 := 16) rfl rfl te_17 (by decide) a1k hT_18 (by omega) (by omega) (fun b3 b3k => ?_)
            refine ir_l (pc' := 35) rfl rfl rfl rfl rfl rfl ?_
            refine ir_cVV (pc' := 38) rfl rfl rfl rfl rfl (Nat.le_of_ble_eq_true rfl) oo_X1_add (gG_at b2k) (sf_add1_16_16 L ys d s_18 hT_18 b2 b2k b3 b3k (x2) (by omega) (by omega) ) (fun s5 hr => ?_)
            obtain ⟨hT5, hG5⟩ := hr
            have hF5 := fr_trans hF_18 hG5 (by decide)
            have e6 : s5.1 267 4 = w18_267_4 := (hG5.1 _ _ tsk_15 4 (by decide)).trans w18_267_4e
            refine ir_inc (pc' := 41) rfl rfl rfl rfl rfl (by omega) (by omega) ?_
            refine ir_goto (pc' := 18) rfl rfl ?_
            refine ir_w [(0, (2, ((267 : Nat) : Int))), (1, (2, ((a1 : Nat) : Int))), (2, (0, x2)), (3, (0, q2_l3)), (4, (0, (q18_l4 + (-1))))] ⟨rfl, rfl, rfl, rfl, rfl, trivial⟩ ?_
            exact ih18 ((q18_l4 + (-1))) (by omega) (by omega) (by omega) s5 hT5 hF5 (w18_267_4) (by omega) (by omega) e6 (by omega)
      refine ir_l (pc' := 3) rfl rfl rfl rfl rfl rfl ?_
      refine ir_l (pc' := 4) rfl rfl rfl rfl rfl rfl ?_
      refine ir_tgi (pc' := 7) rfl rfl rfl tf_15_4 tsk_15 hT_2 (fun z7 z7e z7l z7h => ?_)
      refine ir_c_ge (pt := 50) (pc' := 10) rfl rfl rfl (fun c8 => ?_) (fun c8 => ?_)
      · exact ir_vret rfl rfl ⟨rfl, hT_2, hF_2⟩
      · refine ir_l (pc' := 11) rfl rfl rfl rfl rfl rfl ?_
        refine ir_getI (pc' := 14) rfl rfl rfl (gG_at tsk_15) rfl (by decide) (by decide) z7e (by omega) (by omega) ?_
        refine ir_k (pc' := 15) (v := (0, 1)) rfl rfl rfl (fun _ => rfl) ?_
        refine ir_sub (pc' := 16) rfl rfl (by omega) (by omega) ?_
        refine ir_s (pc' := 18) rfl rfl rfl rfl rfl rfl ?_
        refine ir_w [(0, (2, ((267 : Nat) : Int))), (1, (2, ((a1 : Nat) : Int))), (2, (0, x2)), (3, (0, q2_l3)), (4, (0, (z7 - 1)))] ⟨rfl, rfl, rfl, rfl, rfl, trivial⟩ ?_
        exact J18 _ ((z7 - 1)) (by omega) (by omega) (by omega) s_2 hT_2 hF_2 (z7) (by omega) (by omega) z7e (Int.self_le_toNat _)
  refine ir_k (pc' := 1) (v := (0, 0)) rfl rfl rfl (fun _ => rfl) ?_
  refine ir_s (pc' := 2) rfl rfl rfl rfl rfl rfl ?_
  refine ir_w [(0, (2, ((267 : Nat) : Int))), (1, (2, ((a1 : Nat) : Int))), (2, (0, x2)), (3, (0, 0))] ⟨rfl, rfl, rfl, rfl, trivial⟩ ?_
  exact J2 _ (0) (by omega) (by omega) s0 hT0 hF0 (Int.self_le_toNat _)
theorem sf_shiftUp1_16 (L : Nat) (ys : Nat → Int32) (d : Nat) (s0 : im_S) (hT0 : tI s0) (a0 : Nat) (a0k : gK[a0]? = some 16) (x1 : Int) (x1l : -2147483648 ≤ x1) (x1h : x1 ≤ 2147483647) : icV gG rm_P L ys (d + 2) 118 [(2, (a0 : Int)), (0, x1)] s0 (fun s => tI s ∧ fr [(16, 1), (16, 2)] s0 s) := by
  refine ic_startM (M := rm_p_X1_shiftUp) om_X1_shiftUp (Nat.le_of_ble_eq_true rfl) ?_
  refine ir_w [(0, (2, ((a0 : Nat) : Int))), (1, (0, x1))] ⟨rfl, rfl, trivial⟩ ?_
  have hF0 := fr_refl [(16, 1), (16, 2)] s0
  have J43 : ∀ n : Nat, ∀ (q43_l2 : Int) (q43_l2l : 0 ≤ q43_l2) (q43_l2h : q43_l2 ≤ 67108863) (q43_l3 : Int) (q43_l3l : 0 ≤ q43_l3) (q43_l3h : q43_l3 ≤ 31) (q43_l4 : Int) (q43_l4l : 0 ≤ q43_l4) (q43_l4h : q43_l4 ≤ 79) (q43_l5 : Int) (q43_l5l : -1 ≤ q43_l5) (q43_l5h : q43_l5 ≤ 79) (s_43 : im_S) (hT_43 : tI s_43) (hF_43 : fr [(16, 1), (16, 2)] s0 s_43) (w43_a0_0 : Nat) (w43_a0_0k : gK[w43_a0_0]? = some 18) (w43_a0_0e : s_43.1 a0 0 = ((w43_a0_0 : Nat) : Int)) (w43_a0_1 : Int) (w43_a0_1l : 0 ≤ w43_a0_1) (w43_a0_1h : w43_a0_1 ≤ 80) (w43_a0_1e : s_43.1 a0 1 = w43_a0_1) (w43_a0_2 : Int) (w43_a0_2l : -2147483648 ≤ w43_a0_2) (w43_a0_2h : w43_a0_2 ≤ 2147483647) (w43_a0_2e : s_43.1 a0 2 = w43_a0_2), (q43_l5 - -1 + 1) ≤ (n : Int) → ir gG rm_P L ys (d + 1) rm_p_X1_shiftUp (43, [(0, (2, ((a0 : Nat) : Int))), (2, (0, q43_l2)), (3, (0, q43_l3)), (4, (0, q43_l4)), (5, (0, q43_l5))], [], s_43) (fun r : im_Re => r.1 = none ∧ (tI r.2 ∧ fr [(16, 1), (16, 2)] s0 r.2)) := by
    intro n
    induction n with
    | zero => intro q43_l2 q43_l2l q43_l2h q43_l3 q43_l3l q43_l3h q43_l4 q43_l4l q43_l4h q43_l5 q43_l5l q43_l5h s_43 hT_43 hF_43 w43_a0_0 w43_a0_0k w43_a0_0e w43_a0_1 w43_a0_1l w43_a0_1h w43_a0_1e w43_a0_2 w43_a0_2l w43_a0_2h w43_a0_2e hr; exfalso; omega
    | succ n ih43 =>
      intro q43_l2 q43_l2l q43_l2h q43_l3 q43_l3l q43_l3h q43_l4 q43_l4l q43_l4h q43_l5 q43_l5l q43_l5h s_43 hT_43 hF_43 w43_a0_0 w43_a0_0k w43_a0_0e w43_a0_1 w43_a0_1l w43_a0_1h w43_a0_1e w43_a0_2 w43_a0_2l w43_a0_2h w43_a0_2e hr
      have J119 : ∀ (q119_l7 : Int) (q119_l7l : 0 ≤ q119_l7) (q119_l7h : q119_l7 ≤ 4294967295) (q119_s0 : Int) (q119_s0l : 0 ≤ q119_s0) (q119_s0h : q119_s0 ≤ 4294967295) (f119_5l : 0 ≤ q43_l5) (s_119 : im_S) (hT_119 : tI s_119) (hF_119 : fr [(16, 1), (16, 2)] s0 s_119) (w119_a0_0 : Nat) (w119_a0_0k : gK[w119_a0_0]? = some 18) (w119_a0_0e : s_119.1 a0 0 = ((w119_a0_0 : Nat) : Int)) (w119_a0_1 : Int) (w119_a0_1l : 0 ≤ w119_a0_1) (w119_a0_1h : w119_a0_1 ≤ 80) (w119_a0_1e : s_119.1 a0 1 = w119_a0_1) (w119_a0_2 : Int) (w119_a0_2l : -2147483648 ≤ w119_a0_2) (w119_a0_2h : w119_a0_2 ≤ 2147483647) (w119_a0_2e : s_119.1 a0 2 = w119_a0_2), ir gG rm_P L ys (d + 1) rm_p_X1_shiftUp (119, [(0, (2, ((a0 : Nat) : Int))), (2, (0, q43_l2)), (3, (0, q43_l3)), (4, (0, q43_l4)), (5, (0, q43_l5)), (7, (1, q119_l7))], [(1, q119_s0)], s_119) (fun r : im_Re => r.1 = none ∧ (tI r.2 ∧ fr [(16, 1), (16, 2)] s0 r.2)) := by
        intro q119_l7 q119_l7l q119_l7h q119_s0 q119_s0l q119_s0h f119_5l s_119 hT_119 hF_119 w119_a0_0 w119_a0_0k w119_a0_0e w119_a0_1 w119_a0_1l w119_a0_1h w119_a0_1e w119_a0_2 w119_a0_2l w119_a0_2h w119_a0_2e
        refine ir_s2 (pc' := 121) rfl rfl rfl rfl rfl rfl ?_
        refine ir_l (pc' := 122) rfl rfl rfl rfl rfl rfl ?_
        refine ir_getR (pc' := 125) rfl rfl rfl (gG_at a0k) rfl w119_a0_0e ?_
        refine ir_l (pc' := 127) rfl rfl rfl rfl rfl rfl ?_
        refine ir_l (pc' := 129) rfl rfl rfl rfl rfl rfl ?_
        refine ir_k (pc' := 131) (v := (0, 32)) rfl rfl rfl (fun _ => rfl) ?_
        refine ir_jijA (pc' := 132) rfl rfl rfl rfl (fun z1 z1l z1h => ?_)
        refine ir_l (pc' := 134) rfl rfl rfl rfl rfl rfl ?_
        refine ir_jjA (pc' := 135) rfl rfl rfl rfl (fun z2 z2l z2h => ?_)
        refine ir_l (pc' := 136) rfl rfl rfl rfl rfl rfl ?_
        refine ir_jijA (pc' := 137) rfl rfl rfl rfl (fun z3 z3l z3h => ?_)
        refine ir_k (pc' := 139) (v := (0, 32)) rfl rfl rfl (fun _ => rfl) ?_
        refine ir_jijA (pc' := 140) rfl rfl rfl rfl (fun z4 z4l z4h => ?_)
        refine ir_j1A (pc' := 141) rfl rfl rfl rfl (fun z5 z5e z5l z5h => ?_)
        clear z5e
        refine ir_tis (pc' := 142) rfl rfl rfl rfl te_18 w119_a0_0k hT_119 (by omega) (by omega) (rfl) (by omega) (by omega) (fun s6 hT6 r6 o6 => ?_)
        have hF6 := fr_row hF_119 r6 o6
        have e7 : s6.1 a0 2 = w119_a0_2 := by rw [r6]; exact w119_a0_2e
        have e8 : s6.1 a0 0 = ((w119_a0_0 : Nat) : Int) := by rw [r6]; exact w119_a0_0e
        have e9 : s6.1 a0 1 = w119_a0_1 := by rw [r6]; exact w119_a0_1e
        refine ir_inc (pc' := 145) rfl rfl rfl rfl rfl (by omega) (by omega) ?_
        refine ir_goto (pc' := 43) rfl rfl ?_
        refine ir_w [(0, (2, ((a0 : Nat) : Int))), (2, (0, q43_l2)), (3, (0, q43_l3)), (4, (0, q43_l4)), (5, (0, (q43_l5 + (-1))))] ⟨rfl, rfl, rfl, rfl, rfl, trivial⟩ ?_
        exact ih43 (q43_l2) (by omega) (by omega) (q43_l3) (by omega) (by omega) (q43_l4) (by omega) (by omega) ((q43_l5 + (-1))) (by omega) (by omega) s6 hT6 hF6 w119_a0_0 w119_a0_0k e8 (w119_a0_1) (by omega) (by omega) e9 (w119_a0_2) (by omega) (by omega) e7 (by omega)
      have J118 : ∀ (q118_l7 : Int) (q118_l7l : 0 ≤ q118_l7) (q118_l7h : q118_l7 ≤ 4294967295) (f118_5l : 0 ≤ q43_l5) (s_118 : im_S) (hT_118 : tI s_118) (hF_118 : fr [(16, 1), (16, 2)] s0 s_118) (w118_a0_0 : Nat) (w118_a0_0k : gK[w118_a0_0]? = some 18) (w118_a0_0e : s_118.1 a0 0 = ((w118_a0_0 : Nat) : Int)) (w118_a0_1 : Int) (w118_a0_1l : 0 ≤ w118_a0_1) (w118_a0_1h : w118_a0_1 ≤ 80) (w118_a0_1e : s_118.1 a0 1 = w118_a0_1) (w118_a0_2 : Int) (w118_a0_2l : -2147483648 ≤ w118_a0_2) (w118_a0_2h : w118_a0_2 ≤ 2147483647) (w118_a0_2e : s_118.1 a0 2 = w118_a0_2), ir gG rm_P L ys (d + 1) rm_p_X1_shiftUp (118, [(0, (2, ((a0 : Nat) : Int))), (2, (0, q43_l2)), (3, (0, q43_l3)), (4, (0, q43_l4)), (5, (0, q43_l5)), (7, (1, q118_l7))], [], s_118) (fun r : im_Re => r.1 = none ∧ (tI r.2 ∧ fr [(16, 1), (16, 2)] s0 r.2)) := by
        intro q118_l7 q118_l7l q118_l7h f118_5l s_118 hT_118 hF_118 w118_a0_0 w118_a0_0k w118_a0_0e w118_a0_1 w118_a0_1l w118_a0_1h w118_a0_1e w118_a0_2 w118_a0_2l w118_a0_2h w118_a0_2e
        refine ir_k (pc' := 119) (v := (1, 0)) rfl rfl rfl (fun _ => rfl) ?_
        refine ir_w [(0, (2, ((a0 : Nat) : Int))), (2, (0, q43_l2)), (3, (0, q43_l3)), (4, (0, q43_l4)), (5, (0, q43_l5)), (7, (1, q118_l7))] ⟨rfl, rfl, rfl, rfl, rfl, rfl, trivial⟩ ?_
        exact J119 (q118_l7) (by omega) (by omega) (0) (by omega) (by omega) (by omega) s_118 hT_118 hF_118 w118_a0_0 w118_a0_0k w118_a0_0e (w118_a0_1) (by omega) (by omega) w118_a0_1e (w118_a0_2) (by omega) (by omega) w118_a0_2e
      have J84 : ∀ (q84_l6 : Int) (q84_l6l : -67108863 ≤ q84_l6) (q84_l6h : q84_l6 ≤ 79) (q84_s0 : Int) (q84_s0l : 0 ≤ q84_s0) (q84_s0h : q84_s0 ≤ 4294967295) (f84_5l : 0 ≤ q43_l5) (s_84 : im_S) (hT_84 : tI s_84) (hF_84 : fr [(16, 1), (16, 2)] s0 s_84) (w84_a0_0 : Nat) (w84_a0_0k : gK[w84_a0_0]? = some 18) (w84_a0_0e : s_84.1 a0 0 = ((w84_a0_0 : Nat) : Int)) (w84_a0_1 : Int) (w84_a0_1l : 0 ≤ w84_a0_1) (w84_a0_1h : w84_a0_1 ≤ 80) (w84_a0_1e : s_84.1 a0 1 = w84_a0_1) (w84_a0_2 : Int) (w84_a0_2l : -2147483648 ≤ w84_a0_2) (w84_a0_2h : w84_a0_2 ≤ 2147483647) (w84_a0_2e : s_84.1 a0 2 = w84_a0_2), ir gG rm_P L ys (d + 1) rm_p_X1_shiftUp (84, [(0, (2, ((a0 : Nat) : Int))), (2, (0, q43_l2)), (3, (0, q43_l3)), (4, (0, q43_l4)), (5, (0, q43_l5)), (6, (0, q84_l6))], [(1, q84_s0)], s_84) (fun r : im_Re => r.1 = none ∧ (tI r.2 ∧ fr [(16, 1), (16, 2)] s0 r.2)) := by
        intro q84_l6 q84_l6l q84_l6h q84_s0 q84_s0l q84_s0h f84_5l s_84 hT_84 hF_84 w84_a0_0 w84_a0_0k w84_a0_0e w84_a0_1 w84_a0_1l w84_a0_1h w84_a0_1e w84_a0_2 w84_a0_2l w84_a0_2h w84_a0_2e
        refine ir_s2 (pc' := 86) rfl rfl rfl rfl rfl rfl ?_
        refine ir_l (pc' := 88) rfl rfl rfl rfl rfl rfl ?_
        refine ir_k (pc' := 89) (v := (0, 1)) rfl rfl rfl (fun _ => rfl) ?_
        refine ir_c_lt (pt := 118) (pc' := 92) rfl rfl rfl (fun c10 => ?_) (fun c10 => ?_)
        · refine ir_w [(0, (2, ((a0 : Nat) : Int))), (2, (0, q43_l2)), (3, (0, q43_l3)), (4, (0, q43_l4)), (5, (0, q43_l5)), (7, (1, q84_s0))] ⟨rfl, rfl, rfl, rfl, rfl, rfl, trivial⟩ ?_
          exact J118 (q84_s0) (by omega) (by omega) (by omega) s_84 hT_84 hF_84 w84_a0_0 w84_a0_0k w84_a0_0e (w84_a0_1) (by omega) (by omega) w84_a0_1e (w84_a0_2) (by omega) (by omega) w84_a0_2e
        · refine ir_l (pc' := 94) rfl rfl rfl rfl rfl rfl ?_
          refine ir_l (pc' := 95) rfl rfl rfl rfl rfl rfl ?_
          refine ir_getI (pc' := 98) rfl rfl rfl (gG_at a0k) rfl (by decide) (by decide) w84_a0_1e (by omega) (by omega) ?_
          refine ir_c_gt (pt := 118) (pc' := 101) rfl rfl rfl (fun c11 => ?_) (fun c11 => ?_)
          · refine ir_w [(0, (2, ((a0 : Nat) : Int))), (2, (0, q43_l2)), (3, (0, q43_l3)), (4, (0, q43_l4)), (5, (0, q43_l5)), (7, (1, q84_s0))] ⟨rfl, rfl, rfl, rfl, rfl, rfl, trivial⟩ ?_
            exact J118 (q84_s0) (by omega) (by omega) (by omega) s_84 hT_84 hF_84 w84_a0_0 w84_a0_0k w84_a0_0e (w84_a0_1) (by omega) (by omega) w84_a0_1e (w84_a0_2) (by omega) (by omega) w84_a0_2e
          · refine ir_l (pc' := 102) rfl rfl rfl rfl rfl rfl ?_
            refine ir_getR (pc' := 105) rfl rfl rfl (gG_at a0k) rfl w84_a0_0e ?_
            refine ir_l (pc' := 107) rfl rfl rfl rfl rfl rfl ?_
            refine ir_k (pc' := 108) (v := (0, 1)) rfl rfl rfl (fun _ => rfl) ?_
            refine ir_sub (pc' := 109) rfl rfl (by omega) (by omega) ?_
            refine ir_tia (pc' := 110) rfl rfl te_18 (by decide) w84_a0_0k hT_84 (by omega) (by omega) (fun z12 z12e z12l z12h => ?_)
            clear z12e
            refine ir_i2l (pc' := 111) rfl rfl (by omega) (by omega) ?_
            refine ir_k (pc' := 114) (v := (1, 4294967295)) rfl rfl rfl (fun _ => rfl) ?_
            refine ir_landm (pc' := 115) rfl rfl (by decide) (by decide) (fun z13 z13l z13h => ?_)
            refine ir_goto (pc' := 119) rfl rfl ?_
            refine ir_w [(0, (2, ((a0 : Nat) : Int))), (2, (0, q43_l2)), (3, (0, q43_l3)), (4, (0, q43_l4)), (5, (0, q43_l5)), (7, (1, q84_s0))] ⟨rfl, rfl, rfl, rfl, rfl, rfl, trivial⟩ ?_
            exact J119 (q84_s0) (by omega) (by omega) (z13) (by omega) (by omega) (by omega) s_84 hT_84 hF_84 w84_a0_0 w84_a0_0k w84_a0_0e (w84_a0_1) (by omega) (by omega) w84_a0_1e (w84_a0_2) (by omega) (by omega) w84_a0_2e
      have J83 : ∀ (q83_l6 : Int) (q83_l6l : -67108863 ≤ q83_l6) (q83_l6h : q83_l6 ≤ 79) (f83_5l : 0 ≤ q43_l5) (s_83 : im_S) (hT_83 : tI s_83) (hF_83 : fr [(16, 1), (16, 2)] s0 s_83) (w83_a0_0 : Nat) (w83_a0_0k : gK[w83_a0_0]? = some 18) (w83_a0_0e : s_83.1 a0 0 = ((w83_a0_0 : Nat) : Int)) (w83_a0_1 : Int) (w83_a0_1l : 0 ≤ w83_a0_1) (w83_a0_1h : w83_a0_1 ≤ 80) (w83_a0_1e : s_83.1 a0 1 = w83_a0_1) (w83_a0_2 : Int) (w83_a0_2l : -2147483648 ≤ w83_a0_2) (w83_a0_2h : w83_a0_2 ≤ 2147483647) (w83_a0_2e : s_83.1 a0 2 = w83_a0_2), ir gG rm_P L ys (d + 1) rm_p_X1_shiftUp (83, [(0, (2, ((a0 : Nat) : Int))), (2, (0, q43_l2)), (3, (0, q43_l3)), (4, (0, q43_l4)), (5, (0, q43_l5)), (6, (0, q83_l6))], [], s_83) (fun r : im_Re => r.1 = none ∧ (tI r.2 ∧ fr [(16, 1), (16, 2)] s0 r.2)) := by
        intro q83_l6 q83_l6l q83_l6h f83_5l s_83 hT_83 hF_83 w83_a0_0 w83_a0_0k w83_a0_0e w83_a0_1 w83_a0_1l w83_a0_1h w83_a0_1e w83_a0_2 w83_a0_2l w83_a0_2h w83_a0_2e
        refine ir_k (pc' := 84) (v := (1, 0)) rfl rfl rfl (fun _ => rfl) ?_
        refine ir_w [(0, (2, ((a0 : Nat) : Int))), (2, (0, q43_l2)), (3, (0, q43_l3)), (4, (0, q43_l4)), (5, (0, q43_l5)), (6, (0, q83_l6))] ⟨rfl, rfl, rfl, rfl, rfl, rfl, trivial⟩ ?_
        exact J84 (q83_l6) (by omega) (by omega) (0) (by omega) (by omega) (by omega) s_83 hT_83 hF_83 w83_a0_0 w83_a0_0k w83_a0_0e (w83_a0_1) (by omega) (by omega) w83_a0_1e (w83_a0_2) (by omega) (by omega) w83_a0_2e
      refine ir_l (pc' := 45) rfl rfl rfl rfl rfl rfl ?_
      refine ir_z_lt (pt := 148) (pc' := 48) rfl rfl rfl (fun c14 => ?_) (fun c14 => ?_)
      · refine ir_l (pc' := 149) rfl rfl rfl rfl rfl rfl ?_
        refine ir_l (pc' := 151) rfl rfl rfl rfl rfl rfl ?_
        refine ir_k (pc' := 152) (v := (0, 1)) rfl rfl rfl (fun _ => rfl) ?_
        refine ir_add (pc' := 153) rfl rfl (by omega) (by omega) ?_
        refine ir_tpi (pc' := 156) rfl rfl rfl tf_16_1 rfl a0k hT_43 rfl (by omega) (by omega) (fun s15 hT15 e15 g15 r15 => ?_)
        have hF15 := fr_put (k := 16) hF_43 (by decide) a0k g15 r15
        have e16 : s15.1 a0 2 = w43_a0_2 := (g15 a0 2 (fun z => absurd z.2 (by decide))).trans w43_a0_2e
        have e17 : s15.1 a0 0 = ((w43_a0_0 : Nat) : Int) := (g15 a0 0 (fun z => absurd z.2 (by decide))).trans w43_a0_0e
        refine ir_l (pc' := 157) rfl rfl rfl rfl rfl rfl ?_
        refine ir_cVV (pc' := 160) rfl rfl rfl rfl rfl (Nat.le_of_ble_eq_true rfl) oo_X1_trim (gG_at a0k) (sf_trim1_16 L ys d s15 hT15 a0 a0k ) (fun s19 hr => ?_)
        obtain ⟨hT19, hG19⟩ := hr
        have hF19 := fr_trans hF15 hG19 (by decide)
        have e20 : s19.1 a0 0 = ((w43_a0_0 : Nat) : Int) := (hG19.1 _ _ a0k 0 (by decide)).trans e17
        exact ir_vret rfl rfl ⟨rfl, hT19, hF19⟩
      · refine ir_l (pc' := 50) rfl rfl rfl rfl rfl rfl ?_
        refine ir_l (pc' := 51) rfl rfl rfl rfl rfl rfl ?_
        refine ir_sub (pc' := 52) rfl rfl (by omega) (by omega) ?_
        refine ir_s (pc' := 54) rfl rfl rfl rfl rfl rfl ?_
        refine ir_l (pc' := 56) rfl rfl rfl rfl rfl rfl ?_
        refine ir_z_lt (pt := 83) (pc' := 59) rfl rfl rfl (fun c21 => ?_) (fun c21 => ?_)
        · refine ir_w [(0, (2, ((a0 : Nat) : Int))), (2, (0, q43_l2)), (3, (0, q43_l3)), (4, (0, q43_l4)), (5, (0, q43_l5)), (6, (0, (q43_l5 - q43_l2)))] ⟨rfl, rfl, rfl, rfl, rfl, rfl, trivial⟩ ?_
          exact J83 ((q43_l5 - q43_l2)) (by omega) (by omega) (by omega) s_43 hT_43 hF_43 w43_a0_0 w43_a0_0k w43_a0_0e (w43_a0_1) (by omega) (by omega) w43_a0_1e (w43_a0_2) (by omega) (by omega) w43_a0_2e
        · refine ir_l (pc' := 61) rfl rfl rfl rfl rfl rfl ?_
          refine ir_l (pc' := 62) rfl rfl rfl rfl rfl rfl ?_
          refine ir_getI (pc' := 65) rfl rfl rfl (gG_at a0k) rfl (by decide) (by decide) w43_a0_1e (by omega) (by omega) ?_
          refine ir_c_ge (pt := 83) (pc' := 68) rfl rfl rfl (fun c22 => ?_) (fun c22 => ?_)
          · refine ir_w [(0, (2, ((a0 : Nat) : Int))), (2, (0, q43_l2)), (3, (0, q43_l3)), (4, (0, q43_l4)), (5, (0, q43_l5)), (6, (0, (q43_l5 - q43_l2)))] ⟨rfl, rfl, rfl, rfl, rfl, rfl, trivial⟩ ?_
            exact J83 ((q43_l5 - q43_l2)) (by omega) (by omega) (by omega) s_43 hT_43 hF_43 w43_a0_0 w43_a0_0k w43_a0_0e (w43_a0_1) (by omega) (by omega) w43_a0_1e (w43_a0_2) (by omega) (by omega) w43_a0_2e
          · refine ir_l (pc' := 69) rfl rfl rfl rfl rfl rfl ?_
            refine ir_getR (pc' := 72) rfl rfl rfl (gG_at a0k) rfl w43_a0_0e ?_
            refine ir_l (pc' := 74) rfl rfl rfl rfl rfl rfl ?_
            refine ir_tia (pc' := 75) rfl rfl te_18 (by decide) w43_a0_0k hT_43 (by omega) (by omega) (fun z23 z23e z23l z23h => ?_)
            clear z23e
            refine ir_i2l (pc' := 76) rfl rfl (by omega) (by omega) ?_
            refine ir_k (pc' := 79) (v := (1, 4294967295)) rfl rfl rfl (fun _ => rfl) ?_
            refine ir_landm (pc' := 80) rfl rfl (by decide) (by decide) (fun z24 z24l z24h => ?_)
            refine ir_goto (pc' := 84) rfl rfl ?_
            refine ir_w [(0, (2, ((a0 : Nat) : Int))), (2, (0, q43_l2)), (3, (0, q43_l3)), (4, (0, q43_l4)), (5, (0, q43_l5)), (6, (0, (q43_l5 - q43_l2)))] ⟨rfl, rfl, rfl, rfl, rfl, rfl, trivial⟩ ?_
            exact J84 ((q43_l5 - q43_l2)) (by omega) (by omega) (z24) (by omega) (by omega) (by omega) s_43 hT_43 hF_43 w43_a0_0 w43_a0_0k w43_a0_0e (w43_a0_1) (by omega) (by omega) w43_a0_1e (w43_a0_2) (by omega) (by omega) w43_a0_2e
  have J20 : ∀ (s_20 : im_S) (hT_20 : tI s_20) (hF_20 : fr [(16, 1), (16, 2)] s0 s_20), ir gG rm_P L ys (d + 1) rm_p_X1_shiftUp (20, [], [], s_20) (fun r : im_Re => r.1 = none ∧ (tI r.2 ∧ fr [(16, 1), (16, 2)] s0 r.2)) := by
    intro s_20 hT_20 hF_20
    exact ir_vret rfl rfl ⟨rfl, hT_20, hF_20⟩
  refine ir_l (pc' := 1) rfl rfl rfl rfl rfl rfl ?_
  refine ir_k (pc' := 2) (v := (0, 5)) rfl rfl rfl (fun _ => rfl) ?_
  refine ir_shr (pc' := 3) (y := 5) (k := 5) (m := 32) rfl rfl (by decide) rfl (by decide) (by omega) (by omega) ?_
  refine ir_s (pc' := 4) rfl rfl rfl rfl rfl rfl ?_
  refine ir_l (pc' := 5) rfl rfl rfl rfl rfl rfl ?_
  refine ir_k (pc' := 7) (v := (0, 31)) rfl rfl rfl (fun _ => rfl) ?_
  refine ir_andm (pc' := 8) rfl rfl (by decide) (by decide) (fun z25 z25l z25h => ?_)
  refine ir_s (pc' := 9) rfl rfl rfl rfl rfl rfl ?_
  refine ir_l (pc' := 10) rfl rfl rfl rfl rfl rfl ?_
  refine ir_z_le (pt := 20) (pc' := 13) rfl rfl rfl (fun c26 => ?_) (fun c26 => ?_)
  · refine ir_w [] trivial ?_
    exact J20 s0 hT0 hF0
  · refine ir_l (pc' := 14) rfl rfl rfl rfl rfl rfl ?_
    refine ir_tgi (pc' := 17) rfl rfl rfl tf_16_2 a0k hT0 (fun z27 z27e z27l z27h => ?_)
    refine ir_z_ne (pt := 21) (pc' := 20) rfl rfl rfl (fun c28 => ?_) (fun c28 => ?_)
    · refine ir_l (pc' := 22) rfl rfl rfl rfl rfl rfl ?_
      refine ir_tgr (pc' := 25) rfl rfl rfl tf_16_0 a0k hT0 (fun b29 b29e b29k => ?_)
      refine ir_tlen (pc' := 26) rfl rfl te_18 (by decide) b29k ?_
      refine ir_k (pc' := 27) (v := (0, 1)) rfl rfl rfl (fun _ => rfl) ?_
      refine ir_sub (pc' := 28) rfl rfl (by omega) (by omega) ?_
      refine ir_l (pc' := 29) rfl rfl rfl rfl rfl rfl ?_
      refine ir_tgi (pc' := 32) rfl rfl rfl tf_16_1 a0k hT0 (fun z30 z30e z30l z30h => ?_)
      refine ir_l (pc' := 33) rfl rfl rfl rfl rfl rfl ?_
      refine ir_add (pc' := 34) rfl rfl (by omega) (by omega) ?_
      refine ir_cSI (pc' := 37) rfl rfl rfl rfl rfl rfl (Nat.le_of_ble_eq_true rfl) (sf_min L ys d s0 ((((80 : Nat) : Int) - 1)) (by omega) (by omega) ((z30 + (x1 / 32))) (by omega) (by omega)) (fun z31 s32 hr => ?_)
      obtain ⟨rfl, z31p0, z31p1, z31p2⟩ := hr
      refine ir_s (pc' := 39) rfl rfl rfl rfl rfl rfl ?_
      refine ir_l (pc' := 41) rfl rfl rfl rfl rfl rfl ?_
      refine ir_s (pc' := 43) rfl rfl rfl rfl rfl rfl ?_
      refine ir_w [(0, (2, ((a0 : Nat) : Int))), (2, (0, (x1 / 32))), (3, (0, z25)), (4, (0, z31)), (5, (0, z31))] ⟨rfl, rfl, rfl, rfl, rfl, trivial⟩ ?_
      exact J43 _ ((x1 / 32)) (by omega) (by omega) (z25) (by omega) (by omega) (z31) (by omega) (by omega) (z31) (by omega) (by omega) s0 hT0 hF0 b29 b29k b29e (z30) (by omega) (by omega) z30e (z27) (by omega) (by omega) z27e (Int.self_le_toNat _)
    · refine ir_w [] trivial ?_
      exact J20 s0 hT0 hF0
theorem sf_begin5 (L : Nat) (ys : Nat → Int32) (d : Nat) (s0 : im_S) (hT0 : tI s0) (a1 : Nat) (a1k : gK[a1]? = some 4) (x2 : Int) (x2l : -30 ≤ x2) (x2h : x2 ≤ 32) : icV gG rm_P L ys (d + 5) 160 [(2, ((267 : Nat) : Int)), (2, (a1 : Int)), (0, x2)] s0 (fun s => tI s ∧ fr [(15, 4), (15, 5), (16, 1), (16, 2), (19, 1), (19, 2)] s0 s) := by
  refine ic_startM (M := rm_p_X5_begin) om_X5_begin (Nat.le_of_ble_eq_true rfl) ?_
  refine ir_w [(0, (2, ((267 : Nat) : Int))), (1, (2, ((a1 : Nat) : Int))), (2, (0, x2))] ⟨rfl, rfl, rfl, trivial⟩ ?_
  have hF0 := fr_refl [(15, 4), (15, 5), (16, 1), (16, 2), (19, 1), (19, 2)] s0
  have J15 : ∀ n : Nat, ∀ (q15_l3 : Int) (q15_l3l : 0 ≤ q15_l3) (q15_l3h : q15_l3 ≤ 9) (s_15 : im_S) (hT_15 : tI s_15) (hF_15 : fr [(15, 4), (15, 5), (16, 1), (16, 2), (19, 1), (19, 2)] s0 s_15) (w15_267_4 : Int) (w15_267_4l : -1 ≤ w15_267_4) (w15_267_4h : w15_267_4 ≤ 8) (w15_267_4e : s_15.1 267 4 = w15_267_4) (w15_267_5 : Int) (w15_267_5l : -30 ≤ w15_267_5) (w15_267_5h : w15_267_5 ≤ 32) (w15_267_5e : s_15.1 267 5 = w15_267_5) (w15_a1_0 : Int) (w15_a1_0l : -1 ≤ w15_a1_0) (w15_a1_0h : w15_a1_0 ≤ 8) (w15_a1_0e : s_15.1 a1 0 = w15_a1_0), (9 + 1 - q15_l3) ≤ (n : Int) → ir gG rm_P L ys (d + 4) rm_p_X5_begin (15, [(0, (2, ((267 : Nat) : Int))), (1, (2, ((a1 : Nat) : Int))), (2, (0, x2)), (3, (0, q15_l3))], [], s_15) (fun r : im_Re => r.1 = none ∧ (tI r.2 ∧ fr [(15, 4), (15, 5), (16, 1), (16, 2), (19, 1), (19, 2)] s0 r.2)) := by
    intro n
    induction n with
    | zero => intro q15_l3 q15_l3l q15_l3h s_15 hT_15 hF_15 w15_267_4 w15_267_4l w15_267_4h w15_267_4e w15_267_5 w15_267_5l w15_267_5h w15_267_5e w15_a1_0 w15_a1_0l w15_a1_0h w15_a1_0e hr; exfalso; omega
    | succ n ih15 =>
      intro q15_l3 q15_l3l q15_l3h s_15 hT_15 hF_15 w15_267_4 w15_267_4l w15_267_4h w15_267_4e w15_267_5 w15_267_5l w15_267_5h w15_267_5e w15_a1_0 w15_a1_0l w15_a1_0h w15_a1_0e hr
      have J63 : ∀ (q63_s0 : Nat) (q63_s0k : gK[q63_s0]? = some 16) (q63_s1 : Int) (q63_s1l : -2147483648 ≤ q63_s1) (q63_s1h : q63_s1 ≤ 2147483647) (f63_3h : q15_l3 ≤ 8) (s_63 : im_S) (hT_63 : tI s_63) (hF_63 : fr [(15, 4), (15, 5), (16, 1), (16, 2), (19, 1), (19, 2)] s0 s_63) (w63_267_0 : Nat) (w63_267_0k : gK[w63_267_0]? = some 17) (w63_267_0e : s_63.1 267 0 = ((w63_267_0 : Nat) : Int)) (w63_267_4 : Int) (w63_267_4l : 0 ≤ w63_267_4) (w63_267_4h : w63_267_4 ≤ 8) (w63_267_4e : s_63.1 267 4 = w63_267_4) (w63_267_5 : Int) (w63_267_5l : -30 ≤ w63_267_5) (w63_267_5h : w63_267_5 ≤ 32) (w63_267_5e : s_63.1 267 5 = w63_267_5) (w63_a1_0 : Int) (w63_a1_0l : -1 ≤ w63_a1_0) (w63_a1_0h : w63_a1_0 ≤ 8) (w63_a1_0e : s_63.1 a1 0 = w63_a1_0) (w63_a1_1 : Nat) (w63_a1_1k : gK[w63_a1_1]? = some 6) (w63_a1_1e : s_63.1 a1 1 = ((w63_a1_1 : Nat) : Int)), ir gG rm_P L ys (d + 4) rm_p_X5_begin (63, [(0, (2, ((267 : Nat) : Int))), (1, (2, ((a1 : Nat) : Int))), (2, (0, x2)), (3, (0, q15_l3))], [(0, q63_s1), (2, ((q63_s0 : Nat) : Int))], s_63) (fun r : im_Re => r.1 = none ∧ (tI r.2 ∧ fr [(15, 4), (15, 5), (16, 1), (16, 2), (19, 1), (19, 2)] s0 r.2)) := by
        intro q63_s0 q63_s0k q63_s1 q63_s1l q63_s1h f63_3h s_63 hT_63 hF_63 w63_267_0 w63_267_0k w63_267_0e w63_267_4 w63_267_4l w63_267_4h w63_267_4e w63_267_5 w63_267_5l w63_267_5h w63_267_5e w63_a1_0 w63_a1_0l w63_a1_0h w63_a1_0e w63_a1_1 w63_a1_1k w63_a1_1e
        refine ir_cVV (pc' := 66) rfl rfl rfl rfl rfl (Nat.le_of_ble_eq_true rfl) oo_X1_shiftUp (gG_at q63_s0k) (sf_shiftUp1_16 L ys (d + 2) s_63 hT_63 q63_s0 q63_s0k (q63_s1) (by omega) (by omega) ) (fun s2 hr => ?_)
        obtain ⟨hT2, hG2⟩ := hr
        have hF2 := fr_trans hF_63 hG2 (by decide)
        have e3 : s2.1 a1 0 = w63_a1_0 := (hG2.1 _ _ a1k 0 (by decide)).trans w63_a1_0e
        have e4 : s2.1 267 4 = w63_267_4 := (hG2.1 _ _ tsk_15 4 (by decide)).trans w63_267_4e
        have e5 : s2.1 267 5 = w63_267_5 := (hG2.1 _ _ tsk_15 5 (by decide)).trans w63_267_5e
        have e6 : s2.1 267 0 = ((w63_267_0 : Nat) : Int) := (hG2.1 _ _ tsk_15 0 (by decide)).trans w63_267_0e
        have e7 : s2.1 a1 1 = ((w63_a1_1 : Nat) : Int) := (hG2.1 _ _ a1k 1 (by decide)).trans w63_a1_1e
        refine ir_inc (pc' := 69) rfl rfl rfl rfl rfl (by omega) (by omega) ?_
        refine ir_goto (pc' := 15) rfl rfl ?_
        refine ir_w [(0, (2, ((267 : Nat) : Int))), (1, (2, ((a1 : Nat) : Int))), (2, (0, x2)), (3, (0, (q15_l3 + 1)))] ⟨rfl, rfl, rfl, rfl, trivial⟩ ?_
        exact ih15 ((q15_l3 + 1)) (by omega) (by omega) s2 hT2 hF2 (w63_267_4) (by omega) (by omega) e4 (w63_267_5) (by omega) (by omega) e5 (w63_a1_0) (by omega) (by omega) e3 (by omega)
      refine ir_l (pc' := 16) rfl rfl rfl rfl rfl rfl ?_
      refine ir_l (pc' := 17) rfl rfl rfl rfl rfl rfl ?_
      refine ir_getI (pc' := 20) rfl rfl rfl (gG_at tsk_15) rfl (by decide) (by decide) w15_267_4e (by omega) (by omega) ?_
      refine ir_c_gt (pt := 72) (pc' := 23) rfl rfl rfl (fun c8 => ?_) (fun c8 => ?_)
      · refine ir_l (pc' := 73) rfl rfl rfl rfl rfl rfl ?_
        refine ir_l (pc' := 74) rfl rfl rfl rfl rfl rfl ?_
        refine ir_tgr (pc' := 77) rfl rfl rfl tf_15_0 tsk_15 hT_15 (fun b9 b9e b9k => ?_)
        refine ir_k (pc' := 78) (v := (0, (-1))) rfl rfl rfl (fun _ => rfl) ?_
        refine ir_cVV (pc' := 81) rfl rfl rfl rfl rfl (Nat.le_of_ble_eq_true rfl) oo_X5_moveBy (gG_at tsk_15) (sf_moveBy5 L ys d s_15 hT_15 b9 b9k ((-1)) (by omega) (by omega) ) (fun s11 hr => ?_)
        obtain ⟨hT11, hG11⟩ := hr
        have hF11 := fr_trans hF_15 hG11 (by decide)
        have e12 : s11.1 a1 0 = w15_a1_0 := (hG11.1 _ _ a1k 0 (by decide)).trans w15_a1_0e
        have e13 : s11.1 267 4 = w15_267_4 := (hG11.1 _ _ tsk_15 4 (by decide)).trans w15_267_4e
        have e14 : s11.1 267 5 = w15_267_5 := (hG11.1 _ _ tsk_15 5 (by decide)).trans w15_267_5e
        have e15 : s11.1 267 0 = ((b9 : Nat) : Int) := (hG11.1 _ _ tsk_15 0 (by decide)).trans b9e
        refine ir_l (pc' := 82) rfl rfl rfl rfl rfl rfl ?_
        refine ir_tgr (pc' := 85) rfl rfl rfl tf_15_2 tsk_15 hT11 (fun b16 b16e b16k => ?_)
        refine ir_k (pc' := 88) (v := (1, (-1))) rfl rfl rfl (fun _ => rfl) ?_
        refine ir_cVV (pc' := 91) rfl rfl rfl rfl rfl (Nat.le_of_ble_eq_true rfl) oo_X1_set (gG_at b16k) (sf_set1_19 L ys (d + 2) s11 hT11 b16 b16k ((-1)) (by omega) (by omega) ) (fun s18 hr => ?_)
        obtain ⟨hT18, hG18⟩ := hr
        have hF18 := fr_trans hF11 hG18 (by decide)
        have e19 : s18.1 a1 0 = w15_a1_0 := (hG18.1 _ _ a1k 0 (by decide)).trans e12
        have e20 : s18.1 267 4 = w15_267_4 := (hG18.1 _ _ tsk_15 4 (by decide)).trans e13
        have e21 : s18.1 267 5 = w15_267_5 := (hG18.1 _ _ tsk_15 5 (by decide)).trans e14
        have e22 : s18.1 267 0 = ((b9 : Nat) : Int) := (hG18.1 _ _ tsk_15 0 (by decide)).trans e15
        have e23 : s18.1 267 2 = ((b16 : Nat) : Int) := (hG18.1 _ _ tsk_15 2 (by decide)).trans b16e
        exact ir_vret rfl rfl ⟨rfl, hT18, hF18⟩
      · refine ir_l (pc' := 24) rfl rfl rfl rfl rfl rfl ?_
        refine ir_tgr (pc' := 27) rfl rfl rfl tf_15_0 tsk_15 hT_15 (fun b24 b24e b24k => ?_)
        refine ir_l (pc' := 28) rfl rfl rfl rfl rfl rfl ?_
        refine ir_taa (pc' := 29) (k2 := 16) rfl rfl te_17 (by decide) b24k hT_15 (by omega) (by omega) (fun b25 b25k => ?_)
        refine ir_l (pc' := 30) rfl rfl rfl rfl rfl rfl ?_
        refine ir_tgr (pc' := 33) rfl rfl rfl tf_4_1 a1k hT_15 (fun b26 b26e b26k => ?_)
        refine ir_l (pc' := 34) rfl rfl rfl rfl rfl rfl ?_
        refine ir_tla (pc' := 35) rfl rfl te_6 (by decide) b26k hT_15 (by omega) (by omega) (fun z27 z27e z27l z27h => ?_)
        clear z27e
        refine ir_cVV (pc' := 38) rfl rfl rfl rfl rfl (Nat.le_of_ble_eq_true rfl) oo_X1_set (gG_at b25k) (sf_set1_16 L ys (d + 2) s_15 hT_15 b25 b25k (z27) (by omega) (by omega) ) (fun s29 hr => ?_)
        obtain ⟨hT29, hG29⟩ := hr
        have hF29 := fr_trans hF_15 hG29 (by decide)
        have e30 : s29.1 a1 0 = w15_a1_0 := (hG29.1 _ _ a1k 0 (by decide)).trans w15_a1_0e
        have e31 : s29.1 267 4 = w15_267_4 := (hG29.1 _ _ tsk_15 4 (by decide)).trans w15_267_4e
        have e32 : s29.1 267 5 = w15_267_5 := (hG29.1 _ _ tsk_15 5 (by decide)).trans w15_267_5e
        have e33 : s29.1 267 0 = ((b24 : Nat) : Int) := (hG29.1 _ _ tsk_15 0 (by decide)).trans b24e
        have e34 : s29.1 a1 1 = ((b26 : Nat) : Int) := (hG29.1 _ _ a1k 1 (by decide)).trans b26e
        refine ir_l (pc' := 39) rfl rfl rfl rfl rfl rfl ?_
        refine ir_getR (pc' := 42) rfl rfl rfl (gG_at tsk_15) rfl e33 ?_
        refine ir_l (pc' := 43) rfl rfl rfl rfl rfl rfl ?_
        refine ir_taa (pc' := 44) (k2 := 16) rfl rfl te_17 (by decide) b24k hT29 (by omega) (by omega) (fun b35 b35k => ?_)
        refine ir_l (pc' := 45) rfl rfl rfl rfl rfl rfl ?_
        refine ir_z_ge (pt := 55) (pc' := 48) rfl rfl rfl (fun c36 => ?_) (fun c36 => ?_)
        · refine ir_l (pc' := 56) rfl rfl rfl rfl rfl rfl ?_
          refine ir_l (pc' := 57) rfl rfl rfl rfl rfl rfl ?_
          refine ir_getI (pc' := 60) rfl rfl rfl (gG_at tsk_15) rfl (by decide) (by decide) e31 (by omega) (by omega) ?_
          refine ir_l (pc' := 61) rfl rfl rfl rfl rfl rfl ?_
          refine ir_sub (pc' := 62) rfl rfl (by omega) (by omega) ?_
          refine ir_iiA (pc' := 63) rfl rfl rfl rfl (fun z37 z37l z37h => ?_)
          refine ir_w [(0, (2, ((267 : Nat) : Int))), (1, (2, ((a1 : Nat) : Int))), (2, (0, x2)), (3, (0, q15_l3))] ⟨rfl, rfl, rfl, rfl, trivial⟩ ?_
          exact J63 b35 b35k (z37) (by omega) (by omega) (by omega) s29 hT29 hF29 b24 b24k e33 (w15_267_4) (by omega) (by omega) e31 (w15_267_5) (by omega) (by omega) e32 (w15_a1_0) (by omega) (by omega) e30 b26 b26k e34
        · refine ir_l (pc' := 49) rfl rfl rfl rfl rfl rfl ?_
          refine ir_ineg (pc' := 50) rfl rfl (by omega) (by omega) ?_
          refine ir_l (pc' := 51) rfl rfl rfl rfl rfl rfl ?_
          refine ir_iiA (pc' := 52) rfl rfl rfl rfl (fun z38 z38l z38h => ?_)
          refine ir_goto (pc' := 63) rfl rfl ?_
          refine ir_w [(0, (2, ((267 : Nat) : Int))), (1, (2, ((a1 : Nat) : Int))), (2, (0, x2)), (3, (0, q15_l3))] ⟨rfl, rfl, rfl, rfl, trivial⟩ ?_
          exact J63 b35 b35k (z38) (by omega) (by omega) (by omega) s29 hT29 hF29 b24 b24k e33 (w15_267_4) (by omega) (by omega) e31 (w15_267_5) (by omega) (by omega) e32 (w15_a1_0) (by omega) (by omega) e30 b26 b26k e34
  refine ir_l (pc' := 1) rfl rfl rfl rfl rfl rfl ?_
  refine ir_l (pc' := 2) rfl rfl rfl rfl rfl rfl ?_
  refine ir_tgi (pc' := 5) rfl rfl rfl tf_4_0 a1k hT0 (fun z39 z39e z39l z39h => ?_)
  refine ir_tpi (pc' := 8) rfl rfl rfl tf_15_4 rfl tsk_15 hT0 rfl (by omega) (by omega) (fun s40 hT40 e40 g40 r40 => ?_)
  have hF40 := fr_put (k := 15) hF0 (by decide) tsk_15 g40 r40
  have e41 : s40.1 a1 0 = z39 := (g40 a1 0 (fun z => absurd z.2 (by decide))).trans z39e
  refine ir_l (pc' := 9) rfl rfl rfl rfl rfl rfl ?_
  refine ir_l (pc' := 10) rfl rfl rfl rfl rfl rfl ?_
  refine ir_tpi (pc' := 13) rfl rfl rfl tf_15_5 rfl tsk_15 hT40 rfl (by omega) (by omega) (fun s42 hT42 e42 g42 r42 => ?_)
  have hF42 := fr_put (k := 15) hF40 (by decide) tsk_15 g42 r42
  have e43 : s42.1 a1 0 = z39 := (g42 a1 0 (fun z => absurd z.2 (by decide))).trans e41
  have e44 : s42.1 267 4 = z39 := (g42 267 4 (fun z => absurd z.2 (by decide))).trans e40
  refine ir_k (pc' := 14) (v := (0, 0)) rfl rfl rfl (fun _ => rfl) ?_
  refine ir_s (pc' := 15) rfl rfl rfl rfl rfl rfl ?_
  refine ir_w [(0, (2, ((267 : Nat) : Int))), (1, (2, ((a1 : Nat) : Int))), (2, (0, x2)), (3, (0, 0))] ⟨rfl, rfl, rfl, rfl, trivial⟩ ?_
  exact J15 _ (0) (by omega) (by omega) s42 hT42 hF42 (z39) (by omega) (by omega) e44 (x2) (by omega) (by omega) e42 (z39) (by omega) (by omega) e43 (Int.self_le_toNat _)
