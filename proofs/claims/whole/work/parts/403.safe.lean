/-! WALKS OF THE CLASS'S METHODS, by program -/
theorem sf_shiftUp1_19 (L : Nat) (ys : Nat → Int32) (d : Nat) (s0 : im_S) (hT0 : tI s0) (a0 : Nat) (a0k : gK[a0]? = some 19) (x1 : Int) (x1l : -2147483648 ≤ x1) (x1h : x1 ≤ 2147483647) : icV gG rm_P L ys (d + 2) 118 [(2, (a0 : Int)), (0, x1)] s0 (fun s => tI s ∧ fr [(19, 1), (19, 2)] s0 s) := by
  refine ic_startM (M := rm_p_X1_shiftUp) om_X1_shiftUp (Nat.le_of_ble_eq_true rfl) ?_
  refine ir_w [(0, (2, ((a0 : Nat) : Int))), (1, (0, x1))] ⟨rfl, rfl, trivial⟩ ?_
  have hF0 := fr_refl [(19, 1), (19, 2)] s0
  have J43 : ∀ n : Nat, ∀ (q43_l2 : Int) (q43_l2l : 0 ≤ q43_l2) (q43_l2h : q43_l2 ≤ 67108863) (q43_l3 : Int) (q43_l3l : 0 ≤ q43_l3) (q43_l3h : q43_l3 ≤ 31) (q43_l4 : Int) (q43_l4l : 0 ≤ q43_l4) (q43_l4h : q43_l4 ≤ 23) (q43_l5 : Int) (q43_l5l : -1 ≤ q43_l5) (q43_l5h : q43_l5 ≤ 23) (s_43 : im_S) (hT_43 : tI s_43) (hF_43 : fr [(19, 1), (19, 2)] s0 s_43) (w43_a0_0 : Nat) (w43_a0_0k : gK[w43_a0_0]? = some 20) (w43_a0_0e : s_43.1 a0 0 = ((w43_a0_0 : Nat) : Int)) (w43_a0_1 : Int) (w43_a0_1l : 0 ≤ w43_a0_1) (w43_a0_1h : w43_a0_1 ≤ 24) (w43_a0_1e : s_43.1 a0 1 = w43_a0_1) (w43_a0_2 : Int) (w43_a0_2l : -2147483648 ≤ w43_a0_2) (w43_a0_2h : w43_a0_2 ≤ 2147483647) (w43_a0_2e : s_43.1 a0 2 = w43_a0_2), (q43_l5 - -1 + 1) ≤ (n : Int) → ir gG rm_P L ys (d + 1) rm_p_X1_shiftUp (43, [(0, (2, ((a0 : Nat) : Int))), (2, (0, q43_l2)), (3, (0, q43_l3)), (4, (0, q43_l4)), (5, (0, q43_l5))], [], s_43) (fun r : im_Re => r.1 = none ∧ (tI r.2 ∧ fr [(19, 1), (19, 2)] s0 r.2)) := by
    intro n
    induction n with
    | zero => intro q43_l2 q43_l2l q43_l2h q43_l3 q43_l3l q43_l3h q43_l4 q43_l4l q43_l4h q43_l5 q43_l5l q43_l5h s_43 hT_43 hF_43 w43_a0_0 w43_a0_0k w43_a0_0e w43_a0_1 w43_a0_1l w43_a0_1h w43_a0_1e w43_a0_2 w43_a0_2l w43_a0_2h w43_a0_2e hr; exfalso; omega
    | succ n ih43 =>
      intro q43_l2 q43_l2l q43_l2h q43_l3 q43_l3l q43_l3h q43_l4 q43_l4l q43_l4h q43_l5 q43_l5l q43_l5h s_43 hT_43 hF_43 w43_a0_0 w43_a0_0k w43_a0_0e w43_a0_1 w43_a0_1l w43_a0_1h w43_a0_1e w43_a0_2 w43_a0_2l w43_a0_2h w43_a0_2e hr
      have J119 : ∀ (q119_l7 : Int) (q119_l7l : 0 ≤ q119_l7) (q119_l7h : q119_l7 ≤ 4294967295) (q119_s0 : Int) (q119_s0l : 0 ≤ q119_s0) (q119_s0h : q119_s0 ≤ 4294967295) (f119_5l : 0 ≤ q43_l5) (s_119 : im_S) (hT_119 : tI s_119) (hF_119 : fr [(19, 1), (19, 2)] s0 s_119) (w119_a0_0 : Nat) (w119_a0_0k : gK[w119_a0_0]? = some 20) (w119_a0_0e : s_119.1 a0 0 = ((w119_a0_0 : Nat) : Int)) (w119_a0_1 : Int) (w119_a0_1l : 0 ≤ w119_a0_1) (w119_a0_1h : w119_a0_1 ≤ 24) (w119_a0_1e : s_119.1 a0 1 = w119_a0_1) (w119_a0_2 : Int) (w119_a0_2l : -2147483648 ≤ w119_a0_2) (w119_a0_2h : w119_a0_2 ≤ 2147483647) (w119_a0_2e : s_119.1 a0 2 = w119_a0_2), ir gG rm_P L ys (d + 1) rm_p_X1_shiftUp (119, [(0, (2, ((a0 : Nat) : Int))), (2, (0, q43_l2)), (3, (0, q43_l3)), (4, (0, q43_l4)), (5, (0, q43_l5)), (7, (1, q119_l7))], [(1, q119_s0)], s_119) (fun r : im_Re => r.1 = none ∧ (tI r.2 ∧ fr [(19, 1), (19, 2)] s0 r.2)) := by
        intro q119_l7 q119_l7l q119_l7h q119_s0 q119_s0l q119_s0h f119_5l s_119 hT_119 hF_119 w119_a0_0 w119_a0_0k w119_a0_0e w119_a0_1 w119_a0_1l w119_a0_1h w119_a0_1e w119_a0_2 w119_a0_2l w119_a0_2h w119_a0_2e
        refine ir_s2 (pc' := 121) rfl rfl rfl rfl rfl rfl ?_
        refine ir_l (pc' := 122) rfl rfl rfl rfl rfl rfl ?_
        refine ir_getR (pc' := 125) rfl rfl rfl (gG_at a0k) rfl w119_a0_0e ?_
        refine ir_l (pc' := 127) rfl rfl rfl rfl rfl rfl ?_
        refine ir_l (pc' := 129) rfl rfl rfl rfl rfl rfl ?_
        refine ir_k (pc' := 131) (v := (0, 32)) rfl rfl rfl (fun _ => rfl) ?_
        refine ir_jijA (pc' := 132) rfl rfl rfl rfl (fun z1 z1l z1h => ?_)
        refine ir_l (pc' := 134) rfl rfl rfl rfl rfl rfl ?_
        refine ir_jjA (pc' := 135) rfl rfl rfl rfl (fun z2 z2l z2h => ?_)
        refine ir_l (pc' := 136) rfl rfl rfl rfl rfl rfl ?_
        refine ir_jijA (pc' := 137) rfl rfl rfl rfl (fun z3 z3l z3h => ?_)
        refine ir_k (pc' := 139) (v := (0, 32)) rfl rfl rfl (fun _ => rfl) ?_
        refine ir_jijA (pc' := 140) rfl rfl rfl rfl (fun z4 z4l z4h => ?_)
        refine ir_j1A (pc' := 141) rfl rfl rfl rfl (fun z5 z5e z5l z5h => ?_)
        clear z5e
        refine ir_tis (pc' := 142) rfl rfl rfl rfl te_20 w119_a0_0k hT_119 (by omega) (by omega) (rfl) (by omega) (by omega) (fun s6 hT6 r6 o6 => ?_)
        have hF6 := fr_row hF_119 r6 o6
        have e7 : s6.1 a0 2 = w119_a0_2 := by rw [r6]; exact w119_a0_2e
        have e8 : s6.1 a0 0 = ((w119_a0_0 : Nat) : Int) := by rw [r6]; exact w119_a0_0e
        have e9 : s6.1 a0 1 = w119_a0_1 := by rw [r6]; exact w119_a0_1e
        refine ir_inc (pc' := 145) rfl rfl rfl rfl rfl (by omega) (by omega) ?_
        refine ir_goto (pc' := 43) rfl rfl ?_
        refine ir_w [(0, (2, ((a0 : Nat) : Int))), (2, (0, q43_l2)), (3, (0, q43_l3)), (4, (0, q43_l4)), (5, (0, (q43_l5 + (-1))))] ⟨rfl, rfl, rfl, rfl, rfl, trivial⟩ ?_
        exact ih43 (q43_l2) (by omega) (by omega) (q43_l3) (by omega) (by omega) (q43_l4) (by omega) (by omega) ((q43_l5 + (-1))) (by omega) (by omega) s6 hT6 hF6 w119_a0_0 w119_a0_0k e8 (w119_a0_1) (by omega) (by omega) e9 (w119_a0_2) (by omega) (by omega) e7 (by omega)
      have J118 : ∀ (q118_l7 : Int) (q118_l7l : 0 ≤ q118_l7) (q118_l7h : q118_l7 ≤ 4294967295) (f118_5l : 0 ≤ q43_l5) (s_118 : im_S) (hT_118 : tI s_118) (hF_118 : fr [(19, 1), (19, 2)] s0 s_118) (w118_a0_0 : Nat) (w118_a0_0k : gK[w118_a0_0]? = some 20) (w118_a0_0e : s_118.1 a0 0 = ((w118_a0_0 : Nat) : Int)) (w118_a0_1 : Int) (w118_a0_1l : 0 ≤ w118_a0_1) (w118_a0_1h : w118_a0_1 ≤ 24) (w118_a0_1e : s_118.1 a0 1 = w118_a0_1) (w118_a0_2 : Int) (w118_a0_2l : -2147483648 ≤ w118_a0_2) (w118_a0_2h : w118_a0_2 ≤ 2147483647) (w118_a0_2e : s_118.1 a0 2 = w118_a0_2), ir gG rm_P L ys (d + 1) rm_p_X1_shiftUp (118, [(0, (2, ((a0 : Nat) : Int))), (2, (0, q43_l2)), (3, (0, q43_l3)), (4, (0, q43_l4)), (5, (0, q43_l5)), (7, (1, q118_l7))], [], s_118) (fun r : im_Re => r.1 = none ∧ (tI r.2 ∧ fr [(19, 1), (19, 2)] s0 r.2)) := by
        intro q118_l7 q118_l7l q118_l7h f118_5l s_118 hT_118 hF_118 w118_a0_0 w118_a0_0k w118_a0_0e w118_a0_1 w118_a0_1l w118_a0_1h w118_a0_1e w118_a0_2 w118_a0_2l w118_a0_2h w118_a0_2e
        refine ir_k (pc' := 119) (v := (1, 0)) rfl rfl rfl (fun _ => rfl) ?_
        refine ir_w [(0, (2, ((a0 : Nat) : Int))), (2, (0, q43_l2)), (3, (0, q43_l3)), (4, (0, q43_l4)), (5, (0, q43_l5)), (7, (1, q118_l7))] ⟨rfl, rfl, rfl, rfl, rfl, rfl, trivial⟩ ?_
        exact J119 (q118_l7) (by omega) (by omega) (0) (by omega) (by omega) (by omega) s_118 hT_118 hF_118 w118_a0_0 w118_a0_0k w118_a0_0e (w118_a0_1) (by omega) (by omega) w118_a0_1e (w118_a0_2) (by omega) (by omega) w118_a0_2e
      have J84 : ∀ (q84_l6 : Int) (q84_l6l : -67108863 ≤ q84_l6) (q84_l6h : q84_l6 ≤ 23) (q84_s0 : Int) (q84_s0l : 0 ≤ q84_s0) (q84_s0h : q84_s0 ≤ 4294967295) (f84_5l : 0 ≤ q43_l5) (s_84 : im_S) (hT_84 : tI s_84) (hF_84 : fr [(19, 1), (19, 2)] s0 s_84) (w84_a0_0 : Nat) (w84_a0_0k : gK[w84_a0_0]? = some 20) (w84_a0_0e : s_84.1 a0 0 = ((w84_a0_0 : Nat) : Int)) (w84_a0_1 : Int) (w84_a0_1l : 0 ≤ w84_a0_1) (w84_a0_1h : w84_a0_1 ≤ 24) (w84_a0_1e : s_84.1 a0 1 = w84_a0_1) (w84_a0_2 : Int) (w84_a0_2l : -2147483648 ≤ w84_a0_2) (w84_a0_2h : w84_a0_2 ≤ 2147483647) (w84_a0_2e : s_84.1 a0 2 = w84_a0_2), ir gG rm_P L ys (d + 1) rm_p_X1_shiftUp (84, [(0, (2, ((a0 : Nat) : Int))), (2, (0, q43_l2)), (3, (0, q43_l3)), (4, (0, q43_l4)), (5, (0, q43_l5)), (6, (0, q84_l6))], [(1, q84_s0)], s_84) (fun r : im_Re => r.1 = none ∧ (tI r.2 ∧ fr [(19, 1), (19, 2)] s0 r.2)) := by
        intro q84_l6 q84_l6l q84_l6h q84_s0 q84_s0l q84_s0h f84_5l s_84 hT_84 hF_84 w84_a0_0 w84_a0_0k w84_a0_0e w84_a0_1 w84_a0_1l w84_a0_1h w84_a0_1e w84_a0_2 w84_a0_2l w84_a0_2h w84_a0_2e
        refine ir_s2 (pc' := 86) rfl rfl rfl rfl rfl rfl ?_
        refine ir_l (pc' := 88) rfl rfl rfl rfl rfl rfl ?_
        refine ir_k (pc' := 89) (v := (0, 1)) rfl rfl rfl (fun _ => rfl) ?_
        refine ir_c_lt (pt := 118) (pc' := 92) rfl rfl rfl (fun c10 => ?_) (fun c10 => ?_)
        · refine ir_w [(0, (2, ((a0 : Nat) : Int))), (2, (0, q43_l2)), (3, (0, q43_l3)), (4, (0, q43_l4)), (5, (0, q43_l5)), (7, (1, q84_s0))] ⟨rfl, rfl, rfl, rfl, rfl, rfl, trivial⟩ ?_
          exact J118 (q84_s0) (by omega) (by omega) (by omega) s_84 hT_84 hF_84 w84_a0_0 w84_a0_0k w84_a0_0e (w84_a0_1) (by omega) (by omega) w84_a0_1e (w84_a0_2) (by omega) (by omega) w84_a0_2e
        · refine ir_l (pc' := 94) rfl rfl rfl rfl rfl rfl ?_
          refine ir_l (pc' := 95) rfl rfl rfl rfl rfl rfl ?_
          refine ir_getI (pc' := 98) rfl rfl rfl (gG_at a0k) rfl (by decide) (by decide) w84_a0_1e (by omega) (by omega) ?_
          refine ir_c_gt (pt := 118) (pc' := 101) rfl rfl rfl (fun c11 => ?_) (fun c11 => ?_)
          · refine ir_w [(0, (2, ((a0 : Nat) : Int))), (2, (0, q43_l2)), (3, (0, q43_l3)), (4, (0, q43_l4)), (5, (0, q43_l5)), (7, (1, q84_s0))] ⟨rfl, rfl, rfl, rfl, rfl, rfl, trivial⟩ ?_
            exact J118 (q84_s0) (by omega) (by omega) (by omega) s_84 hT_84 hF_84 w84_a0_0 w84_a0_0k w84_a0_0e (w84_a0_1) (by omega) (by omega) w84_a0_1e (w84_a0_2) (by omega) (by omega) w84_a0_2e
          · refine ir_l (pc' := 102) rfl rfl rfl rfl rfl rfl ?_
            refine ir_getR (pc' := 105) rfl rfl rfl (gG_at a0k) rfl w84_a0_0e ?_
            refine ir_l (pc' := 107) rfl rfl rfl rfl rfl rfl ?_
            refine ir_k (pc' := 108) (v := (0, 1)) rfl rfl rfl (fun _ => rfl) ?_
            refine ir_sub (pc' := 109) rfl rfl (by omega) (by omega) ?_
            refine ir_tia (pc' := 110) rfl rfl te_20 (by decide) w84_a0_0k hT_84 (by omega) (by omega) (fun z12 z12e z12l z12h => ?_)
            clear z12e
            refine ir_i2l (pc' := 111) rfl rfl (by omega) (by omega) ?_
            refine ir_k (pc' := 114) (v := (1, 4294967295)) rfl rfl rfl (fun _ => rfl) ?_
            refine ir_landm (pc' := 115) rfl rfl (by decide) (by decide) (fun z13 z13l z13h => ?_)
            refine ir_goto (pc' := 119) rfl rfl ?_
            refine ir_w [(0, (2, ((a0 : Nat) : Int))), (2, (0, q43_l2)), (3, (0, q43_l3)), (4, (0, q43_l4)), (5, (0, q43_l5)), (7, (1, q84_s0))] ⟨rfl, rfl, rfl, rfl, rfl, rfl, trivial⟩ ?_
            exact J119 (q84_s0) (by omega) (by omega) (z13) (by omega) (by omega) (by omega) s_84 hT_84 hF_84 w84_a0_0 w84_a0_0k w84_a0_0e (w84_a0_1) (by omega) (by omega) w84_a0_1e (w84_a0_2) (by omega) (by omega) w84_a0_2e
      have J83 : ∀ (q83_l6 : Int) (q83_l6l : -67108863 ≤ q83_l6) (q83_l6h : q83_l6 ≤ 23) (f83_5l : 0 ≤ q43_l5) (s_83 : im_S) (hT_83 : tI s_83) (hF_83 : fr [(19, 1), (19, 2)] s0 s_83) (w83_a0_0 : Nat) (w83_a0_0k : gK[w83_a0_0]? = some 20) (w83_a0_0e : s_83.1 a0 0 = ((w83_a0_0 : Nat) : Int)) (w83_a0_1 : Int) (w83_a0_1l : 0 ≤ w83_a0_1) (w83_a0_1h : w83_a0_1 ≤ 24) (w83_a0_1e : s_83.1 a0 1 = w83_a0_1) (w83_a0_2 : Int) (w83_a0_2l : -2147483648 ≤ w83_a0_2) (w83_a0_2h : w83_a0_2 ≤ 2147483647) (w83_a0_2e : s_83.1 a0 2 = w83_a0_2), ir gG rm_P L ys (d + 1) rm_p_X1_shiftUp (83, [(0, (2, ((a0 : Nat) : Int))), (2, (0, q43_l2)), (3, (0, q43_l3)), (4, (0, q43_l4)), (5, (0, q43_l5)), (6, (0, q83_l6))], [], s_83) (fun r : im_Re => r.1 = none ∧ (tI r.2 ∧ fr [(19, 1), (19, 2)] s0 r.2)) := by
        intro q83_l6 q83_l6l q83_l6h f83_5l s_83 hT_83 hF_83 w83_a0_0 w83_a0_0k w83_a0_0e w83_a0_1 w83_a0_1l w83_a0_1h w83_a0_1e w83_a0_2 w83_a0_2l w83_a0_2h w83_a0_2e
        refine ir_k (pc' := 84) (v := (1, 0)) rfl rfl rfl (fun _ => rfl) ?_
        refine ir_w [(0, (2, ((a0 : Nat) : Int))), (2, (0, q43_l2)), (3, (0, q43_l3)), (4, (0, q43_l4)), (5, (0, q43_l5)), (6, (0, q83_l6))] ⟨rfl, rfl, rfl, rfl, rfl, rfl, trivial⟩ ?_
        exact J84 (q83_l6) (by omega) (by omega) (0) (by omega) (by omega) (by omega) s_83 hT_83 hF_83 w83_a0_0 w83_a0_0k w83_a0_0e (w83_a0_1) (by omega) (by omega) w83_a0_1e (w83_a0_2) (by omega) (by omega) w83_a0_2e
      refine ir_l (pc' := 45) rfl rfl rfl rfl rfl rfl ?_
      refine ir_z_lt (pt := 148) (pc' := 48) rfl rfl rfl (fun c14 => ?_) (fun c14 => ?_)
      · refine ir_l (pc' := 149) rfl rfl rfl rfl rfl rfl ?_
        refine ir_l (pc' := 151) rfl rfl rfl rfl rfl rfl ?_
        refine ir_k (pc' := 152) (v := (0, 1)) rfl rfl rfl (fun _ => rfl) ?_
        refine ir_add (pc' := 153) rfl rfl (by omega) (by omega) ?_
        refine ir_tpi (pc' := 156) rfl rfl rfl tf_19_1 rfl a0k hT_43 rfl (by omega) (by omega) (fun s15 hT15 e15 g15 r15 => ?_)
        have hF15 := fr_put (k := 19) hF_43 (by decide) a0k g15 r15
        have e16 : s15.1 a0 2 = w43_a0_2 := (g15 a0 2 (fun z => absurd z.2 (by decide))).trans w43_a0_2e
        have e17 : s15.1 a0 0 = ((w43_a0_0 : Nat) : Int) := (g15 a0 0 (fun z => absurd z.2 (by decide))).trans w43_a0_0e
        refine ir_l (pc' := 157) rfl rfl rfl rfl rfl rfl ?_
        refine ir_cVV (pc' := 160) rfl rfl rfl rfl rfl (Nat.le_of_ble_eq_true rfl) oo_X1_trim (gG_at a0k) (sf_trim1_19 L ys d s15 hT15 a0 a0k ) (fun s19 hr => ?_)
        obtain ⟨hT19, hG19⟩ := hr
        have hF19 := fr_trans hF15 hG19 (by decide)
        have e20 : s19.1 a0 0 = ((w43_a0_0 : Nat) : Int) := (hG19.1 _ _ a0k 0 (by decide)).trans e17
        exact ir_vret rfl rfl ⟨rfl, hT19, hF19⟩
      · refine ir_l (pc' := 50) rfl rfl rfl rfl rfl rfl ?_
        refine ir_l (pc' := 51) rfl rfl rfl rfl rfl rfl ?_
        refine ir_sub (pc' := 52) rfl rfl (by omega) (by omega) ?_
        refine ir_s (pc' := 54) rfl rfl rfl rfl rfl rfl ?_
        refine ir_l (pc' := 56) rfl rfl rfl rfl rfl rfl ?_
        refine ir_z_lt (pt := 83) (pc' := 59) rfl rfl rfl (fun c21 => ?_) (fun c21 => ?_)
        · refine ir_w [(0, (2, ((a0 : Nat) : Int))), (2, (0, q43_l2)), (3, (0, q43_l3)), (4, (0, q43_l4)), (5, (0, q43_l5)), (6, (0, (q43_l5 - q43_l2)))] ⟨rfl, rfl, rfl, rfl, rfl, rfl, trivial⟩ ?_
          exact J83 ((q43_l5 - q43_l2)) (by omega) (by omega) (by omega) s_43 hT_43 hF_43 w43_a0_0 w43_a0_0k w43_a0_0e (w43_a0_1) (by omega) (by omega) w43_a0_1e (w43_a0_2) (by omega) (by omega) w43_a0_2e
        · refine ir_l (pc' := 61) rfl rfl rfl rfl rfl rfl ?_
          refine ir_l (pc' := 62) rfl rfl rfl rfl rfl rfl ?_
          refine ir_getI (pc' := 65) rfl rfl rfl (gG_at a0k) rfl (by decide) (by decide) w43_a0_1e (by omega) (by omega) ?_
          refine ir_c_ge (pt := 83) (pc' := 68) rfl rfl rfl (fun c22 => ?_) (fun c22 => ?_)
          · refine ir_w [(0, (2, ((a0 : Nat) : Int))), (2, (0, q43_l2)), (3, (0, q43_l3)), (4, (0, q43_l4)), (5, (0, q43_l5)), (6, (0, (q43_l5 - q43_l2)))] ⟨rfl, rfl, rfl, rfl, rfl, rfl, trivial⟩ ?_
            exact J83 ((q43_l5 - q43_l2)) (by omega) (by omega) (by omega) s_43 hT_43 hF_43 w43_a0_0 w43_a0_0k w43_a0_0e (w43_a0_1) (by omega) (by omega) w43_a0_1e (w43_a0_2) (by omega) (by omega) w43_a0_2e
          · refine ir_l (pc' := 69) rfl rfl rfl rfl rfl rfl ?_
            refine ir_getR (pc' := 72) rfl rfl rfl (gG_at a0k) rfl w43_a0_0e ?_
            refine ir_l (pc' := 74) rfl rfl rfl rfl rfl rfl ?_
            refine ir_tia (pc' := 75) rfl rfl te_20 (by decide) w43_a0_0k hT_43 (by omega) (by omega) (fun z23 z23e z23l z23h => ?_)
            clear z23e
            refine ir_i2l (pc' := 76) rfl rfl (by omega) (by omega) ?_
            refine ir_k (pc' := 79) (v := (1, 4294967295)) rfl rfl rfl (fun _ => rfl) ?_
            refine ir_landm (pc' := 80) rfl rfl (by decide) (by decide) (fun z24 z24l z24h => ?_)
            refine ir_goto (pc' := 84) rfl rfl ?_
            refine ir_w [(0, (2, ((a0 : Nat) : Int))), (2, (0, q43_l2)), (3, (0, q43_l3)), (4, (0, q43_l4)), (5, (0, q43_l5)), (6, (0, (q43_l5 - q43_l2)))] ⟨rfl, rfl, rfl, rfl, rfl, rfl, trivial⟩ ?_
            exact J84 ((q43_l5 - q43_l2)) (by omega) (by omega) (z24) (by omega) (by omega) (by omega) s_43 hT_43 hF_43 w43_a0_0 w43_a0_0k w43_a0_0e (w43_a0_1) (by omega) (by omega) w43_a0_1e (w43_a0_2) (by omega) (by omega) w43_a0_2e
  have J20 : ∀ (s_20 : im_S) (hT_20 : tI s_20) (hF_20 : fr [(19, 1), (19, 2)] s0 s_20), ir gG rm_P L ys (d + 1) rm_p_X1_shiftUp (20, [], [], s_20) (fun r : im_Re => r.1 = none ∧ (tI r.2 ∧ fr [(19, 1), (19, 2)] s0 r.2)) := by
    intro s_20 hT_20 hF_20
    exact ir_vret rfl rfl ⟨rfl, hT_20, hF_20⟩
  refine ir_l (pc' := 1) rfl rfl rfl rfl rfl rfl ?_
  refine ir_k (pc' := 2) (v := (0, 5)) rfl rfl rfl (fun _ => rfl) ?_
  refine ir_shr (pc' := 3) (y := 5) (k := 5) (m := 32) rfl rfl (by decide) rfl (by decide) (by omega) (by omega) ?_
  refine ir_s (pc' := 4) rfl rfl rfl rfl rfl rfl ?_
  refine ir_l (pc' := 5) rfl rfl rfl rfl rfl rfl ?_
  refine ir_k (pc' := 7) (v := (0, 31)) rfl rfl rfl (fun _ => rfl) ?_
  refine ir_andm (pc' := 8) rfl rfl (by decide) (by decide) (fun z25 z25l z25h => ?_)
  refine ir_s (pc' := 9) rfl rfl rfl rfl rfl rfl ?_
  refine ir_l (pc' := 10) rfl rfl rfl rfl rfl rfl ?_
  refine ir_z_le (pt := 20) (pc' := 13) rfl rfl rfl (fun c26 => ?_) (fun c26 => ?_)
  · refine ir_w [] trivial ?_
    exact J20 s0 hT0 hF0
  · refine ir_l (pc' := 14) rfl rfl rfl rfl rfl rfl ?_
    refine ir_tgi (pc' := 17) rfl rfl rfl tf_19_2 a0k hT0 (fun z27 z27e z27l z27h => ?_)
    refine ir_z_ne (pt := 21) (pc' := 20) rfl rfl rfl (fun c28 => ?_) (fun c28 => ?_)
    · refine ir_l (pc' := 22) rfl rfl rfl rfl rfl rfl ?_
      refine ir_tgr (pc' := 25) rfl rfl rfl tf_19_0 a0k hT0 (fun b29 b29e b29k => ?_)
      refine ir_tlen (pc' := 26) rfl rfl te_20 (by decide) b29k ?_
      refine ir_k (pc' := 27) (v := (0, 1)) rfl rfl rfl (fun _ => rfl) ?_
      refine ir_sub (pc' := 28) rfl rfl (by omega) (by omega) ?_
      refine ir_l (pc' := 29) rfl rfl rfl rfl rfl rfl ?_
      refine ir_tgi (pc' := 32) rfl rfl rfl tf_19_1 a0k hT0 (fun z30 z30e z30l z30h => ?_)
      refine ir_l (pc' := 33) rfl rfl rfl rfl rfl rfl ?_
      refine ir_add (pc' := 34) rfl rfl (by omega) (by omega) ?_
      refine ir_cSI (pc' := 37) rfl rfl rfl rfl rfl rfl (Nat.le_of_ble_eq_true rfl) (sf_min L ys d s0 ((((24 : Nat) : Int) - 1)) (by omega) (by omega) ((z30 + (x1 / 32))) (by omega) (by omega)) (fun z31 s32 hr => ?_)
      obtain ⟨rfl, z31p0, z31p1, z31p2⟩ := hr
      refine ir_s (pc' := 39) rfl rfl rfl rfl rfl rfl ?_
      refine ir_l (pc' := 41) rfl rfl rfl rfl rfl rfl ?_
      refine ir_s (pc' := 43) rfl rfl rfl rfl rfl rfl ?_
      refine ir_w [(0, (2, ((a0 : Nat) : Int))), (2, (0, (x1 / 32))), (3, (0, z25)), (4, (0, z31)), (5, (0, z31))] ⟨rfl, rfl, rfl, rfl, rfl, trivial⟩ ?_
      exact J43 _ ((x1 / 32)) (by omega) (by omega) (z25) (by omega) (by omega) (z31) (by omega) (by omega) (z31) (by omega) (by omega) s0 hT0 hF0 b29 b29k b29e (z30) (by omega) (by omega) z30e (z27) (by omega) (by omega) z27e (Int.self_le_toNat _)
    · refine ir_w [] trivial ?_
      exact J20 s0 hT0 hF0
theorem sf_grow1_19_19 (L : Nat) (ys : Nat → Int32) (d : Nat) (s0 : im_S) (hT0 : tI s0) (a0 : Nat) (a0k : gK[a0]? = some 19) (a1 : Nat) (a1k : gK[a1]? = some 19) : icV gG rm_P L ys (d + 2) 112 [(2, (a0 : Int)), (2, (a1 : Int))] s0 (fun s => tI s ∧ fr [(19, 1)] s0 s) := by
  refine ic_startM (M := rm_p_X1_grow) om_X1_grow (Nat.le_of_ble_eq_true rfl) ?_
  refine ir_w [(0, (2, ((a0 : Nat) : Int))), (1, (2, ((a1 : Nat) : Int)))] ⟨rfl, rfl, trivial⟩ ?_
  have hF0 := fr_refl [(19, 1)] s0
  have J179 : ∀ (s_179 : im_S) (hT_179 : tI s_179) (hF_179 : fr [(19, 1)] s0 s_179) (w179_a0_0 : Nat) (w179_a0_0k : gK[w179_a0_0]? = some 20) (w179_a0_0e : s_179.1 a0 0 = ((w179_a0_0 : Nat) : Int)) (w179_a0_1 : Int) (w179_a0_1l : 0 ≤ w179_a0_1) (w179_a0_1h : w179_a0_1 ≤ 24) (w179_a0_1e : s_179.1 a0 1 = w179_a0_1), ir gG rm_P L ys (d + 1) rm_p_X1_grow (179, [], [], s_179) (fun r : im_Re => r.1 = none ∧ (tI r.2 ∧ fr [(19, 1)] s0 r.2)) := by
    intro s_179 hT_179 hF_179 w179_a0_0 w179_a0_0k w179_a0_0e w179_a0_1 w179_a0_1l w179_a0_1h w179_a0_1e
    exact ir_vret rfl rfl ⟨rfl, hT_179, hF_179⟩
  have J100 : ∀ n : Nat, ∀ (q100_l2 : Int) (q100_l2l : -9223372036854775808 ≤ q100_l2) (q100_l2h : q100_l2 ≤ 9223372036854775807) (q100_l5 : Int) (q100_l5l : 0 ≤ q100_l5) (q100_l5h : q100_l5 ≤ 24) (s_100 : im_S) (hT_100 : tI s_100) (hF_100 : fr [(19, 1)] s0 s_100) (w100_a0_0 : Nat) (w100_a0_0k : gK[w100_a0_0]? = some 20) (w100_a0_0e : s_100.1 a0 0 = ((w100_a0_0 : Nat) : Int)) (w100_a0_1 : Int) (w100_a0_1l : 0 ≤ w100_a0_1) (w100_a0_1h : w100_a0_1 ≤ 24) (w100_a0_1e : s_100.1 a0 1 = w100_a0_1), (24 + 1 - q100_l5) ≤ (n : Int) → ir gG rm_P L ys (d + 1) rm_p_X1_grow (100, [(0, (2, ((a0 : Nat) : Int))), (2, (1, q100_l2)), (5, (0, q100_l5))], [], s_100) (fun r : im_Re => r.1 = none ∧ (tI r.2 ∧ fr [(19, 1)] s0 r.2)) := by
    intro n
    induction n with
    | zero => intro q100_l2 q100_l2l q100_l2h q100_l5 q100_l5l q100_l5h s_100 hT_100 hF_100 w100_a0_0 w100_a0_0k w100_a0_0e w100_a0_1 w100_a0_1l w100_a0_1h w100_a0_1e hr; exfalso; omega
    | succ n ih100 =>
      intro q100_l2 q100_l2l q100_l2h q100_l5 q100_l5l q100_l5h s_100 hT_100 hF_100 w100_a0_0 w100_a0_0k w100_a0_0e w100_a0_1 w100_a0_1l w100_a0_1h w100_a0_1e hr
      have J142 : ∀ (q142_s0 : Int) (q142_s0l : -9223372036854775808 ≤ q142_s0) (q142_s0h : q142_s0 ≤ 9223372036854775807) (q142_s0n : q142_s0 ≠ 0) (q142_s1 : Int) (q142_s1l : 0 ≤ q142_s1) (q142_s1h : q142_s1 ≤ 4294967295) (f142_5h : q100_l5 ≤ 23) (s_142 : im_S) (hT_142 : tI s_142) (hF_142 : fr [(19, 1)] s0 s_142) (w142_a0_0 : Nat) (w142_a0_0k : gK[w142_a0_0]? = some 20) (w142_a0_0e : s_142.1 a0 0 = ((w142_a0_0 : Nat) : Int)) (w142_a0_1 : Int) (w142_a0_1l : 0 ≤ w142_a0_1) (w142_a0_1h : w142_a0_1 ≤ 24) (w142_a0_1e : s_142.1 a0 1 = w142_a0_1), ir gG rm_P L ys (d + 1) rm_p_X1_grow (142, [(0, (2, ((a0 : Nat) : Int))), (5, (0, q100_l5))], [(1, q142_s1), (1, q142_s0)], s_142) (fun r : im_Re => r.1 = none ∧ (tI r.2 ∧ fr [(19, 1)] s0 r.2)) := by
        intro q142_s0 q142_s0l q142_s0h q142_s0n q142_s1 q142_s1l q142_s1h f142_5h s_142 hT_142 hF_142 w142_a0_0 w142_a0_0k w142_a0_0e w142_a0_1 w142_a0_1l w142_a0_1h w142_a0_1e
        refine ir_jjA (pc' := 143) rfl rfl rfl rfl (fun z1 z1l z1h => ?_)
        refine ir_s2 (pc' := 144) rfl rfl rfl rfl rfl rfl ?_
        refine ir_l (pc' := 145) rfl rfl rfl rfl rfl rfl ?_
        refine ir_getR (pc' := 148) rfl rfl rfl (gG_at a0k) rfl w142_a0_0e ?_
        refine ir_l (pc' := 150) rfl rfl rfl rfl rfl rfl ?_
        refine ir_l (pc' := 151) rfl rfl rfl rfl rfl rfl ?_
        refine ir_j1A (pc' := 152) rfl rfl rfl rfl (fun z2 z2e z2l z2h => ?_)
        clear z2e
        refine ir_tis (pc' := 153) rfl rfl rfl rfl te_20 w142_a0_0k hT_142 (by omega) (by omega) (rfl) (by omega) (by omega) (fun s3 hT3 r3 o3 => ?_)
        have hF3 := fr_row hF_142 r3 o3
        have e4 : s3.1 a0 0 = ((w142_a0_0 : Nat) : Int) := by rw [r3]; exact w142_a0_0e
        have e5 : s3.1 a0 1 = w142_a0_1 := by rw [r3]; exact w142_a0_1e
        refine ir_l (pc' := 154) rfl rfl rfl rfl rfl rfl ?_
        refine ir_k (pc' := 156) (v := (0, 32)) rfl rfl rfl (fun _ => rfl) ?_
        refine ir_jijA (pc' := 157) rfl rfl rfl rfl (fun z6 z6l z6h => ?_)
        refine ir_s2 (pc' := 158) rfl rfl rfl rfl rfl rfl ?_
        refine ir_l (pc' := 159) rfl rfl rfl rfl rfl rfl ?_
        refine ir_l (pc' := 160) rfl rfl rfl rfl rfl rfl ?_
        refine ir_getI (pc' := 163) rfl rfl rfl (gG_at a0k) rfl (by decide) (by decide) e5 (by omega) (by omega) ?_
        refine ir_l (pc' := 165) rfl rfl rfl rfl rfl rfl ?_
        refine ir_k (pc' := 166) (v := (0, 1)) rfl rfl rfl (fun _ => rfl) ?_
        refine ir_add (pc' := 167) rfl rfl (by omega) (by omega) ?_
        refine ir_cSI (pc' := 170) rfl rfl rfl rfl rfl rfl (Nat.le_of_ble_eq_true rfl) (sf_max L ys d s3 (w142_a0_1) (by omega) (by omega) ((q100_l5 + 1)) (by omega) (by omega)) (fun z7 s8 hr => ?_)
        obtain ⟨rfl, z7p0, z7p1, z7p2⟩ := hr
        refine ir_tpi (pc' := 173) rfl rfl rfl tf_19_1 rfl a0k hT3 rfl (by omega) (by omega) (fun s9 hT9 e9 g9 r9 => ?_)
        have hF9 := fr_put (k := 19) hF3 (by decide) a0k g9 r9
        have e10 : s9.1 a0 0 = ((w142_a0_0 : Nat) : Int) := (g9 a0 0 (fun z => absurd z.2 (by decide))).trans e4
        refine ir_inc (pc' := 176) rfl rfl rfl rfl rfl (by omega) (by omega) ?_
        refine ir_goto (pc' := 100) rfl rfl ?_
        refine ir_w [(0, (2, ((a0 : Nat) : Int))), (2, (1, z6)), (5, (0, (q100_l5 + 1)))] ⟨rfl, rfl, rfl, trivial⟩ ?_
        exact ih100 (z6) (by omega) (by omega) ((q100_l5 + 1)) (by omega) (by omega) s9 hT9 hF9 w142_a0_0 w142_a0_0k e10 (z7) (by omega) (by omega) e9 (by omega)
      refine ir_l (pc' := 101) rfl rfl rfl rfl rfl rfl ?_
      refine ir_k (pc' := 102) (v := (1, 0)) rfl rfl rfl (fun _ => rfl) ?_
      refine ir_lcmp (pc' := 103) rfl rfl (by omega) (by omega) (by omega) (by omega) (fun z11 z11c => ?_)
      refine ir_z_eq (pt := 179) (pc' := 106) rfl rfl rfl (fun c12 => ?_) (fun c12 => ?_)
      · refine ir_w [] trivial ?_
        exact J179 s_100 hT_100 hF_100 w100_a0_0 w100_a0_0k w100_a0_0e (w100_a0_1) (by omega) (by omega) w100_a0_1e
      · refine ir_l (pc' := 108) rfl rfl rfl rfl rfl rfl ?_
        refine ir_l (pc' := 109) rfl rfl rfl rfl rfl rfl ?_
        refine ir_getR (pc' := 112) rfl rfl rfl (gG_at a0k) rfl w100_a0_0e ?_
        refine ir_tlen (pc' := 113) rfl rfl te_20 (by decide) w100_a0_0k ?_
        refine ir_c_ge (pt := 179) (pc' := 116) rfl rfl rfl (fun c13 => ?_) (fun c13 => ?_)
        · refine ir_w [] trivial ?_
          exact J179 s_100 hT_100 hF_100 w100_a0_0 w100_a0_0k w100_a0_0e (w100_a0_1) (by omega) (by omega) w100_a0_1e
        · refine ir_l (pc' := 117) rfl rfl rfl rfl rfl rfl ?_
          refine ir_l (pc' := 119) rfl rfl rfl rfl rfl rfl ?_
          refine ir_l (pc' := 120) rfl rfl rfl rfl rfl rfl ?_
          refine ir_getI (pc' := 123) rfl rfl rfl (gG_at a0k) rfl (by decide) (by decide) w100_a0_1e (by omega) (by omega) ?_
          refine ir_c_ge (pt := 141) (pc' := 126) rfl rfl rfl (fun c14 => ?_) (fun c14 => ?_)
          · refine ir_k (pc' := 142) (v := (1, 0)) rfl rfl rfl (fun _ => rfl) ?_
            refine ir_w [(0, (2, ((a0 : Nat) : Int))), (5, (0, q100_l5))] ⟨rfl, rfl, trivial⟩ ?_
            exact J142 (q100_l2) (by omega) (by omega) (by omega) (0) (by omega) (by omega) (by omega) s_100 hT_100 hF_100 w100_a0_0 w100_a0_0k w100_a0_0e (w100_a0_1) (by omega) (by omega) w100_a0_1e
          · refine ir_l (pc' := 127) rfl rfl rfl rfl rfl rfl ?_
            refine ir_getR (pc' := 130) rfl rfl rfl (gG_at a0k) rfl w100_a0_0e ?_
            refine ir_l (pc' := 132) rfl rfl rfl rfl rfl rfl ?_
            refine ir_tia (pc' := 133) rfl rfl te_20 (by decide) w100_a0_0k hT_100 (by omega) (by omega) (fun z15 z15e z15l z15h => ?_)
            clear z15e
            refine ir_i2l (pc' := 134) rfl rfl (by omega) (by omega) ?_
            refine ir_k (pc' := 137) (v := (1, 4294967295)) rfl rfl rfl (fun _ => rfl) ?_
            refine ir_landm (pc' := 138) rfl rfl (by decide) (by decide) (fun z16 z16l z16h => ?_)
            refine ir_goto (pc' := 142) rfl rfl ?_
            refine ir_w [(0, (2, ((a0 : Nat) : Int))), (5, (0, q100_l5))] ⟨rfl, rfl, trivial⟩ ?_
            exact J142 (q100_l2) (by omega) (by omega) (by omega) (z16) (by omega) (by omega) (by omega) s_100 hT_100 hF_100 w100_a0_0 w100_a0_0k w100_a0_0e (w100_a0_1) (by omega) (by omega) w100_a0_1e
  have J19 : ∀ n : Nat, ∀ (q19_l2 : Int) (q19_l2l : -9223372036854775808 ≤ q19_l2) (q19_l2h : q19_l2 ≤ 9223372036854775807) (q19_l4 : Int) (q19_l4l : 0 ≤ q19_l4) (q19_l4h : q19_l4 ≤ 24) (q19_l5 : Int) (q19_l5l : 0 ≤ q19_l5) (q19_l5h : q19_l5 ≤ 24) (s_19 : im_S) (hT_19 : tI s_19) (hF_19 : fr [(19, 1)] s0 s_19) (w19_a0_0 : Nat) (w19_a0_0k : gK[w19_a0_0]? = some 20) (w19_a0_0e : s_19.1 a0 0 = ((w19_a0_0 : Nat) : Int)) (w19_a1_1 : Int) (w19_a1_1l : 0 ≤ w19_a1_1) (w19_a1_1h : w19_a1_1 ≤ 24) (w19_a1_1e : s_19.1 a1 1 = w19_a1_1), (24 + 1 - q19_l5) ≤ (n : Int) → ir gG rm_P L ys (d + 1) rm_p_X1_grow (19, [(0, (2, ((a0 : Nat) : Int))), (1, (2, ((a1 : Nat) : Int))), (2, (1, q19_l2)), (4, (0, q19_l4)), (5, (0, q19_l5))], [], s_19) (fun r : im_Re => r.1 = none ∧ (tI r.2 ∧ fr [(19, 1)] s0 r.2)) := by
    intro n
    induction n with
    | zero => intro q19_l2 q19_l2l q19_l2h q19_l4 q19_l4l q19_l4h q19_l5 q19_l5l q19_l5h s_19 hT_19 hF_19 w19_a0_0 w19_a0_0k w19_a0_0e w19_a1_1 w19_a1_1l w19_a1_1h w19_a1_1e hr; exfalso; omega
    | succ n ih19 =>
      intro q19_l2 q19_l2l q19_l2h q19_l4 q19_l4l q19_l4h q19_l5 q19_l5l q19_l5h s_19 hT_19 hF_19 w19_a0_0 w19_a0_0k w19_a0_0e w19_a1_1 w19_a1_1l w19_a1_1h w19_a1_1e hr
      have J64 : ∀ (q64_s0 : Int) (q64_s0l : -9223372036854775808 ≤ q64_s0) (q64_s0h : q64_s0 ≤ 9223372036854775807) (q64_s1 : Int) (q64_s1l : 0 ≤ q64_s1) (q64_s1h : q64_s1 ≤ 4294967295) (q64_s2 : Int) (q64_s2l : 0 ≤ q64_s2) (q64_s2h : q64_s2 ≤ 4294967295) (f64_4l : 1 ≤ q19_l4) (f64_5h : q19_l5 ≤ 23) (s_64 : im_S) (hT_64 : tI s_64) (hF_64 : fr [(19, 1)] s0 s_64) (w64_a0_0 : Nat) (w64_a0_0k : gK[w64_a0_0]? = some 20) (w64_a0_0e : s_64.1 a0 0 = ((w64_a0_0 : Nat) : Int)) (w64_a0_1 : Int) (w64_a0_1l : 0 ≤ w64_a0_1) (w64_a0_1h : w64_a0_1 ≤ 24) (w64_a0_1e : s_64.1 a0 1 = w64_a0_1) (w64_a1_0 : Nat) (w64_a1_0k : gK[w64_a1_0]? = some 20) (w64_a1_0e : s_64.1 a1 0 = ((w64_a1_0 : Nat) : Int)) (w64_a1_1 : Int) (w64_a1_1l : 0 ≤ w64_a1_1) (w64_a1_1h : w64_a1_1 ≤ 24) (w64_a1_1e : s_64.1 a1 1 = w64_a1_1), ir gG rm_P L ys (d + 1) rm_p_X1_grow (64, [(0, (2, ((a0 : Nat) : Int))), (1, (2, ((a1 : Nat) : Int))), (4, (0, q19_l4)), (5, (0, q19_l5))], [(1, q64_s2), (1, q64_s1), (1, q64_s0)], s_64) (fun r : im_Re => r.1 = none ∧ (tI r.2 ∧ fr [(19, 1)] s0 r.2)) := by
        intro q64_s0 q64_s0l q64_s0h q64_s1 q64_s1l q64_s1h q64_s2 q64_s2l q64_s2h f64_4l f64_5h s_64 hT_64 hF_64 w64_a0_0 w64_a0_0k w64_a0_0e w64_a0_1 w64_a0_1l w64_a0_1h w64_a0_1e w64_a1_0 w64_a1_0k w64_a1_0e w64_a1_1 w64_a1_1l w64_a1_1h w64_a1_1e
        refine ir_ladd (pc' := 65) rfl rfl (by omega) (by omega) ?_
        refine ir_jjA (pc' := 66) rfl rfl rfl rfl (fun z17 z17l z17h => ?_)
        refine ir_s2 (pc' := 67) rfl rfl rfl rfl rfl rfl ?_
        refine ir_l (pc' := 68) rfl rfl rfl rfl rfl rfl ?_
        refine ir_getR (pc' := 71) rfl rfl rfl (gG_at a0k) rfl w64_a0_0e ?_
        refine ir_l (pc' := 73) rfl rfl rfl rfl rfl rfl ?_
        refine ir_l (pc' := 74) rfl rfl rfl rfl rfl rfl ?_
        refine ir_j1A (pc' := 75) rfl rfl rfl rfl (fun z18 z18e z18l z18h => ?_)
        clear z18e
        refine ir_tis (pc' := 76) rfl rfl rfl rfl te_20 w64_a0_0k hT_64 (by omega) (by omega) (rfl) (by omega) (by omega) (fun s19 hT19 r19 o19 => ?_)
        have hF19 := fr_row hF_64 r19 o19
        have e20 : s19.1 a1 1 = w64_a1_1 := by rw [r19]; exact w64_a1_1e
        have e21 : s19.1 a0 0 = ((w64_a0_0 : Nat) : Int) := by rw [r19]; exact w64_a0_0e
        have e22 : s19.1 a1 0 = ((w64_a1_0 : Nat) : Int) := by rw [r19]; exact w64_a1_0e
        have e23 : s19.1 a0 1 = w64_a0_1 := by rw [r19]; exact w64_a0_1e
        refine ir_l (pc' := 77) rfl rfl rfl rfl rfl rfl ?_
        refine ir_k (pc' := 79) (v := (0, 32)) rfl rfl rfl (fun _ => rfl) ?_
        refine ir_jijA (pc' := 80) rfl rfl rfl rfl (fun z24 z24l z24h => ?_)
        refine ir_s2 (pc' := 81) rfl rfl rfl rfl rfl rfl ?_
        refine ir_inc (pc' := 84) rfl rfl rfl rfl rfl (by omega) (by omega) ?_
        refine ir_goto (pc' := 19) rfl rfl ?_
        refine ir_w [(0, (2, ((a0 : Nat) : Int))), (1, (2, ((a1 : Nat) : Int))), (2, (1, z24)), (4, (0, q19_l4)), (5, (0, (q19_l5 + 1)))] ⟨rfl, rfl, rfl, rfl, rfl, trivial⟩ ?_
        exact ih19 (z24) (by omega) (by omega) (q19_l4) (by omega) (by omega) ((q19_l5 + 1)) (by omega) (by omega) s19 hT19 hF19 w64_a0_0 w64_a0_0k e21 (w64_a1_1) (by omega) (by omega) e20 (by omega)
      refine ir_l (pc' := 21) rfl rfl rfl rfl rfl rfl ?_
      refine ir_l (pc' := 23) rfl rfl rfl rfl rfl rfl ?_
      refine ir_c_ge (pt := 87) (pc' := 26) rfl rfl rfl (fun c25 => ?_) (fun c25 => ?_)
      · refine ir_l (pc' := 88) rfl rfl rfl rfl rfl rfl ?_
        refine ir_l (pc' := 89) rfl rfl rfl rfl rfl rfl ?_
        refine ir_tgi (pc' := 92) rfl rfl rfl tf_19_1 a0k hT_19 (fun z26 z26e z26l z26h => ?_)
        refine ir_l (pc' := 94) rfl rfl rfl rfl rfl rfl ?_
        refine ir_cSI (pc' := 97) rfl rfl rfl rfl rfl rfl (Nat.le_of_ble_eq_true rfl) (sf_max L ys d s_19 (z26) (by omega) (by omega) (q19_l4) (by omega) (by omega)) (fun z27 s28 hr => ?_)
        obtain ⟨rfl, z27p0, z27p1, z27p2⟩ := hr
        refine ir_tpi (pc' := 100) rfl rfl rfl tf_19_1 rfl a0k hT_19 rfl (by omega) (by omega) (fun s29 hT29 e29 g29 r29 => ?_)
        have hF29 := fr_put (k := 19) hF_19 (by decide) a0k g29 r29
        have e30 : s29.1 a0 0 = ((w19_a0_0 : Nat) : Int) := (g29 a0 0 (fun z => absurd z.2 (by decide))).trans w19_a0_0e
        refine ir_w [(0, (2, ((a0 : Nat) : Int))), (2, (1, q19_l2)), (5, (0, q19_l5))] ⟨rfl, rfl, rfl, trivial⟩ ?_
        exact J100 _ (q19_l2) (by omega) (by omega) (q19_l5) (by omega) (by omega) s29 hT29 hF29 w19_a0_0 w19_a0_0k e30 (z27) (by omega) (by omega) e29 (Int.self_le_toNat _)
      · refine ir_l (pc' := 27) rfl rfl rfl rfl rfl rfl ?_
        refine ir_l (pc' := 28) rfl rfl rfl rfl rfl rfl ?_
        refine ir_tgr (pc' := 31) rfl rfl rfl tf_19_0 a1k hT_19 (fun b31 b31e b31k => ?_)
        refine ir_l (pc' := 33) rfl rfl rfl rfl rfl rfl ?_
        refine ir_tia (pc' := 34) rfl rfl te_20 (by decide) b31k hT_19 (by omega) (by omega) (fun z32 z32e z32l z32h => ?_)
        clear z32e
        refine ir_i2l (pc' := 35) rfl rfl (by omega) (by omega) ?_
        refine ir_k (pc' := 38) (v := (1, 4294967295)) rfl rfl rfl (fun _ => rfl) ?_
        refine ir_landm (pc' := 39) rfl rfl (by decide) (by decide) (fun z33 z33l z33h => ?_)
        refine ir_l (pc' := 41) rfl rfl rfl rfl rfl rfl ?_
        refine ir_l (pc' := 42) rfl rfl rfl rfl rfl rfl ?_
        refine ir_tgi (pc' := 45) rfl rfl rfl tf_19_1 a0k hT_19 (fun z34 z34e z34l z34h => ?_)
        refine ir_c_ge (pt := 63) (pc' := 48) rfl rfl rfl (fun c35 => ?_) (fun c35 => ?_)
        · refine ir_k (pc' := 64) (v := (1, 0)) rfl rfl rfl (fun _ => rfl) ?_
          refine ir_w [(0, (2, ((a0 : Nat) : Int))), (1, (2, ((a1 : Nat) : Int))), (4, (0, q19_l4)), (5, (0, q19_l5))] ⟨rfl, rfl, rfl, rfl, trivial⟩ ?_
          exact J64 (q19_l2) (by omega) (by omega) (z33) (by omega) (by omega) (0) (by omega) (by omega) (by omega) (by omega) s_19 hT_19 hF_19 w19_a0_0 w19_a0_0k w19_a0_0e (z34) (by omega) (by omega) z34e b31 b31k b31e (w19_a1_1) (by omega) (by omega) w19_a1_1e
        · refine ir_l (pc' := 49) rfl rfl rfl rfl rfl rfl ?_
          refine ir_getR (pc' := 52) rfl rfl rfl (gG_at a0k) rfl w19_a0_0e ?_
          refine ir_l (pc' := 54) rfl rfl rfl rfl rfl rfl ?_
          refine ir_tia (pc' := 55) rfl rfl te_20 (by decide) w19_a0_0k hT_19 (by omega) (by omega) (fun z36 z36e z36l z36h => ?_)
          clear z36e
          refine ir_i2l (pc' := 56) rfl rfl (by omega) (by omega) ?_
          refine ir_k (pc' := 59) (v := (1, 4294967295)) rfl rfl rfl (fun _ => rfl) ?_
          refine ir_landm (pc' := 60) rfl rfl (by decide) (by decide) (fun z37 z37l z37h => ?_)
          refine ir_goto (pc' := 64) rfl rfl ?_
          refine ir_w [(0, (2, ((a0 : Nat) : Int))), (1, (2, ((a1 : Nat) : Int))), (4, (0, q19_l4)), (5, (0, q19_l5))] ⟨rfl, rfl, rfl, rfl, trivial⟩ ?_
          exact J64 (q19_l2) (by omega) (by omega) (z33) (by omega) (by omega) (z37) (by omega) (by omega) (by omega) (by omega) s_19 hT_19 hF_19 w19_a0_0 w19_a0_0k w19_a0_0e (z34) (by omega) (by omega) z34e b31 b31k b31e (w19_a1_1) (by omega) (by omega) w19_a1_1e
  refine ir_k (pc' := 1) (v := (1, 0)) rfl rfl rfl (fun _ => rfl) ?_
  refine ir_s2 (pc' := 2) rfl rfl rfl rfl rfl rfl ?_
  refine ir_l (pc' := 3) rfl rfl rfl rfl rfl rfl ?_
  refine ir_tgi (pc' := 6) rfl rfl rfl tf_19_1 a1k hT0 (fun z38 z38e z38l z38h => ?_)
  refine ir_l (pc' := 7) rfl rfl rfl rfl rfl rfl ?_
  refine ir_tgr (pc' := 10) rfl rfl rfl tf_19_0 a0k hT0 (fun b39 b39e b39k => ?_)
  refine ir_tlen (pc' := 11) rfl rfl te_20 (by decide) b39k ?_
  refine ir_cSI (pc' := 14) rfl rfl rfl rfl rfl rfl (Nat.le_of_ble_eq_true rfl) (sf_min L ys d s0 (z38) (by omega) (by omega) (((24 : Nat) : Int)) (by omega) (by omega)) (fun z40 s41 hr => ?_)
  obtain ⟨rfl, z40p0, z40p1, z40p2⟩ := hr
  refine ir_s (pc' := 16) rfl rfl rfl rfl rfl rfl ?_
  refine ir_k (pc' := 17) (v := (0, 0)) rfl rfl rfl (fun _ => rfl) ?_
  refine ir_s (pc' := 19) rfl rfl rfl rfl rfl rfl ?_
  refine ir_w [(0, (2, ((a0 : Nat) : Int))), (1, (2, ((a1 : Nat) : Int))), (2, (1, 0)), (4, (0, z40)), (5, (0, 0))] ⟨rfl, rfl, rfl, rfl, rfl, trivial⟩ ?_
  exact J19 _ (0) (by omega) (by omega) (z40) (by omega) (by omega) (0) (by omega) (by omega) s0 hT0 hF0 b39 b39k b39e (z38) (by omega) (by omega) z38e (Int.self_le_toNat _)
theorem sf_shrink1_19_19 (L : Nat) (ys : Nat → Int32) (d : Nat) (s0 : im_S) (hT0 : tI s0) (a0 : Nat) (a0k : gK[a0]? = some 19) (a1 : Nat) (a1k : gK[a1]? = some 19) : icV gG rm_P L ys (d + 2) 119 [(2, (a0 : Int)), (2, (a1 : Int))] s0 (fun s => tI s ∧ fr [(19, 1), (19, 2)] s0 s) := by
  refine ic_startM (M := rm_p_X1_shrink) om_X1_shrink (Nat.le_of_ble_eq_true rfl) ?_
  refine ir_w [(0, (2, ((a0 : Nat) : Int))), (1, (2, ((a1 : Nat) : Int)))] ⟨rfl, rfl, trivial⟩ ?_
  have hF0 := fr_refl [(19, 1), (19, 2)] s0
  have J183 : ∀ (s_183 : im_S) (hT_183 : tI s_183) (hF_183 : fr [(19, 1), (19, 2)] s0 s_183) (w183_a0_0 : Nat) (w183_a0_0k : gK[w183_a0_0]? = some 20) (w183_a0_0e : s_183.1 a0 0 = ((w183_a0_0 : Nat) : Int)) (w183_a0_1 : Int) (w183_a0_1l : 0 ≤ w183_a0_1) (w183_a0_1h : w183_a0_1 ≤ 24) (w183_a0_1e : s_183.1 a0 1 = w183_a0_1), ir gG rm_P L ys (d + 1) rm_p_X1_shrink (183, [], [], s_183) (fun r : im_Re => r.1 = none ∧ (tI r.2 ∧ fr [(19, 1), (19, 2)] s0 r.2)) := by
    intro s_183 hT_183 hF_183 w183_a0_0 w183_a0_0k w183_a0_0e w183_a0_1 w183_a0_1l w183_a0_1h w183_a0_1e
    exact ir_vret rfl rfl ⟨rfl, hT_183, hF_183⟩
  have J134 : ∀ n : Nat, ∀ (q134_l4 : Int) (q134_l4l : 0 ≤ q134_l4) (q134_l4h : q134_l4 ≤ 24) (q134_l5 : Int) (q134_l5l : -9223372036854775808 ≤ q134_l5) (q134_l5h : q134_l5 ≤ 9223372036854775807) (q134_l7 : Int) (q134_l7l : 0 ≤ q134_l7) (q134_l7h : q134_l7 ≤ 24) (s_134 : im_S) (hT_134 : tI s_134) (hF_134 : fr [(19, 1), (19, 2)] s0 s_134) (w134_a0_0 : Nat) (w134_a0_0k : gK[w134_a0_0]? = some 20) (w134_a0_0e : s_134.1 a0 0 = ((w134_a0_0 : Nat) : Int)) (w134_a0_1 : Int) (w134_a0_1l : 0 ≤ w134_a0_1) (w134_a0_1h : w134_a0_1 ≤ 24) (w134_a0_1e : s_134.1 a0 1 = w134_a0_1) (w134_a0_2 : Int) (w134_a0_2l : -2147483648 ≤ w134_a0_2) (w134_a0_2h : w134_a0_2 ≤ 2147483647) (w134_a0_2e : s_134.1 a0 2 = w134_a0_2), (24 + 1 - q134_l7) ≤ (n : Int) → ir gG rm_P L ys (d + 1) rm_p_X1_shrink (134, [(0, (2, ((a0 : Nat) : Int))), (4, (0, q134_l4)), (5, (1, q134_l5)), (7, (0, q134_l7))], [], s_134) (fun r : im_Re => r.1 = none ∧ (tI r.2 ∧ fr [(19, 1), (19, 2)] s0 r.2)) := by
    intro n
    induction n with
    | zero => intro q134_l4 q134_l4l q134_l4h q134_l5 q134_l5l q134_l5h q134_l7 q134_l7l q134_l7h s_134 hT_134 hF_134 w134_a0_0 w134_a0_0k w134_a0_0e w134_a0_1 w134_a0_1l w134_a0_1h w134_a0_1e w134_a0_2 w134_a0_2l w134_a0_2h w134_a0_2e hr; exfalso; omega
    | succ n ih134 =>
      intro q134_l4 q134_l4l q134_l4h q134_l5 q134_l5l q134_l5h q134_l7 q134_l7l q134_l7h s_134 hT_134 hF_134 w134_a0_0 w134_a0_0k w134_a0_0e w134_a0_1 w134_a0_1l w134_a0_1h w134_a0_1e w134_a0_2 w134_a0_2l w134_a0_2h w134_a0_2e hr
      refine ir_l (pc' := 136) rfl rfl rfl rfl rfl rfl ?_
      refine ir_l (pc' := 138) rfl rfl rfl rfl rfl rfl ?_
      refine ir_c_ge (pt := 183) (pc' := 141) rfl rfl rfl (fun c1 => ?_) (fun c1 => ?_)
      · refine ir_w [] trivial ?_
        exact J183 s_134 hT_134 hF_134 w134_a0_0 w134_a0_0k w134_a0_0e (w134_a0_1) (by omega) (by omega) w134_a0_1e
      · refine ir_l (pc' := 143) rfl rfl rfl rfl rfl rfl ?_
        refine ir_l (pc' := 144) rfl rfl rfl rfl rfl rfl ?_
        refine ir_getR (pc' := 147) rfl rfl rfl (gG_at a0k) rfl w134_a0_0e ?_
        refine ir_l (pc' := 149) rfl rfl rfl rfl rfl rfl ?_
        refine ir_tia (pc' := 150) rfl rfl te_20 (by decide) w134_a0_0k hT_134 (by omega) (by omega) (fun z2 z2e z2l z2h => ?_)
        clear z2e
        refine ir_k (pc' := 151) (v := (0, (-1))) rfl rfl rfl (fun _ => rfl) ?_
        refine ir_iiA (pc' := 152) rfl rfl rfl rfl (fun z3 z3l z3h => ?_)
        refine ir_i2l (pc' := 153) rfl rfl (by omega) (by omega) ?_
        refine ir_k (pc' := 156) (v := (1, 4294967295)) rfl rfl rfl (fun _ => rfl) ?_
        refine ir_landm (pc' := 157) rfl rfl (by decide) (by decide) (fun z4 z4l z4h => ?_)
        refine ir_jjA (pc' := 158) rfl rfl rfl rfl (fun z5 z5l z5h => ?_)
        refine ir_s2 (pc' := 160) rfl rfl rfl rfl rfl rfl ?_
        refine ir_l (pc' := 161) rfl rfl rfl rfl rfl rfl ?_
        refine ir_getR (pc' := 164) rfl rfl rfl (gG_at a0k) rfl w134_a0_0e ?_
        refine ir_l (pc' := 166) rfl rfl rfl rfl rfl rfl ?_
        refine ir_l (pc' := 168) rfl rfl rfl rfl rfl rfl ?_
        refine ir_j1A (pc' := 169) rfl rfl rfl rfl (fun z6 z6e z6l z6h => ?_)
        clear z6e
        refine ir_tis (pc' := 170) rfl rfl rfl rfl te_20 w134_a0_0k hT_134 (by omega) (by omega) (rfl) (by omega) (by omega) (fun s7 hT7 r7 o7 => ?_)
        have hF7 := fr_row hF_134 r7 o7
        have e8 : s7.1 a0 0 = ((w134_a0_0 : Nat) : Int) := by rw [r7]; exact w134_a0_0e
        have e9 : s7.1 a0 1 = w134_a0_1 := by rw [r7]; exact w134_a0_1e
        have e10 : s7.1 a0 2 = w134_a0_2 := by rw [r7]; exact w134_a0_2e
        refine ir_l (pc' := 172) rfl rfl rfl rfl rfl rfl ?_
        refine ir_k (pc' := 174) (v := (0, 32)) rfl rfl rfl (fun _ => rfl) ?_
        refine ir_jijA (pc' := 175) rfl rfl rfl rfl (fun z11 z11l z11h => ?_)
        refine ir_s2 (pc' := 177) rfl rfl rfl rfl rfl rfl ?_
        refine ir_inc (pc' := 180) rfl rfl rfl rfl rfl (by omega) (by omega) ?_
        refine ir_goto (pc' := 134) rfl rfl ?_
        refine ir_w [(0, (2, ((a0 : Nat) : Int))), (4, (0, q134_l4)), (5, (1, z11)), (7, (0, (q134_l7 + 1)))] ⟨rfl, rfl, rfl, rfl, trivial⟩ ?_
        exact ih134 (q134_l4) (by omega) (by omega) (z11) (by omega) (by omega) ((q134_l7 + 1)) (by omega) (by omega) s7 hT7 hF7 w134_a0_0 w134_a0_0k e8 (w134_a0_1) (by omega) (by omega) e9 (w134_a0_2) (by omega) (by omega) e10 (by omega)
  have J26 : ∀ n : Nat, ∀ (q26_l2 : Int) (q26_l2l : -1 ≤ q26_l2) (q26_l2h : q26_l2 ≤ 0) (q26_l4 : Int) (q26_l4l : 0 ≤ q26_l4) (q26_l4h : q26_l4 ≤ 24) (q26_l5 : Int) (q26_l5l : 0 ≤ q26_l5) (q26_l5h : q26_l5 ≤ 24) (s_26 : im_S) (hT_26 : tI s_26) (hF_26 : fr [(19, 1), (19, 2)] s0 s_26) (w26_a0_0 : Nat) (w26_a0_0k : gK[w26_a0_0]? = some 20) (w26_a0_0e : s_26.1 a0 0 = ((w26_a0_0 : Nat) : Int)) (w26_a0_1 : Int) (w26_a0_1l : 0 ≤ w26_a0_1) (w26_a0_1h : w26_a0_1 ≤ 24) (w26_a0_1e : s_26.1 a0 1 = w26_a0_1) (w26_a1_1 : Int) (w26_a1_1l : 0 ≤ w26_a1_1) (w26_a1_1h : w26_a1_1 ≤ 24) (w26_a1_1e : s_26.1 a1 1 = w26_a1_1), (24 + 1 - q26_l5) ≤ (n : Int) → ir gG rm_P L ys (d + 1) rm_p_X1_shrink (26, [(0, (2, ((a0 : Nat) : Int))), (1, (2, ((a1 : Nat) : Int))), (2, (1, q26_l2)), (4, (0, q26_l4)), (5, (0, q26_l5))], [], s_26) (fun r : im_Re => r.1 = none ∧ (tI r.2 ∧ fr [(19, 1), (19, 2)] s0 r.2)) := by
    intro n
    induction n with
    | zero => intro q26_l2 q26_l2l q26_l2h q26_l4 q26_l4l q26_l4h q26_l5 q26_l5l q26_l5h s_26 hT_26 hF_26 w26_a0_0 w26_a0_0k w26_a0_0e w26_a0_1 w26_a0_1l w26_a0_1h w26_a0_1e w26_a1_1 w26_a1_1l w26_a1_1h w26_a1_1e hr; exfalso; omega
    | succ n ih26 =>
      intro q26_l2 q26_l2l q26_l2h q26_l4 q26_l4l q26_l4h q26_l5 q26_l5l q26_l5h s_26 hT_26 hF_26 w26_a0_0 w26_a0_0k w26_a0_0e w26_a0_1 w26_a0_1l w26_a0_1h w26_a0_1e w26_a1_1 w26_a1_1l w26_a1_1h w26_a1_1e hr
      have J84 : ∀ (q84_s0 : Int) (q84_s0l : -1 ≤ q84_s0) (q84_s0h : q84_s0 ≤ 0) (q84_s1 : Int) (q84_s1l : 0 ≤ q84_s1) (q84_s1h : q84_s1 ≤ 4294967295) (q84_s2 : Int) (q84_s2l : 0 ≤ q84_s2) (q84_s2h : q84_s2 ≤ 4294967295) (f84_4l : 1 ≤ q26_l4) (f84_5h : q26_l5 ≤ 23) (s_84 : im_S) (hT_84 : tI s_84) (hF_84 : fr [(19, 1), (19, 2)] s0 s_84) (w84_a0_0 : Nat) (w84_a0_0k : gK[w84_a0_0]? = some 20) (w84_a0_0e : s_84.1 a0 0 = ((w84_a0_0 : Nat) : Int)) (w84_a0_1 : Int) (w84_a0_1l : 0 ≤ w84_a0_1) (w84_a0_1h : w84_a0_1 ≤ 24) (w84_a0_1e : s_84.1 a0 1 = w84_a0_1) (w84_a1_1 : Int) (w84_a1_1l : 0 ≤ w84_a1_1) (w84_a1_1h : w84_a1_1 ≤ 24) (w84_a1_1e : s_84.1 a1 1 = w84_a1_1), ir gG rm_P L ys (d + 1) rm_p_X1_shrink (84, [(0, (2, ((a0 : Nat) : Int))), (1, (2, ((a1 : Nat) : Int))), (4, (0, q26_l4)), (5, (0, q26_l5))], [(1, q84_s2), (1, q84_s1), (1, q84_s0)], s_84) (fun r : im_Re => r.1 = none ∧ (tI r.2 ∧ fr [(19, 1), (19, 2)] s0 r.2)) := by
        intro q84_s0 q84_s0l q84_s0h q84_s1 q84_s1l q84_s1h q84_s2 q84_s2l q84_s2h f84_4l f84_5h s_84 hT_84 hF_84 w84_a0_0 w84_a0_0k w84_a0_0e w84_a0_1 w84_a0_1l w84_a0_1h w84_a0_1e w84_a1_1 w84_a1_1l w84_a1_1h w84_a1_1e
        refine ir_lsub (pc' := 85) rfl rfl (by omega) (by omega) ?_
        refine ir_ladd (pc' := 86) rfl rfl (by omega) (by omega) ?_
        refine ir_s2 (pc' := 87) rfl rfl rfl rfl rfl rfl ?_
        refine ir_l (pc' := 88) rfl rfl rfl rfl rfl rfl ?_
        refine ir_getR (pc' := 91) rfl rfl rfl (gG_at a0k) rfl w84_a0_0e ?_
        refine ir_l (pc' := 93) rfl rfl rfl rfl rfl rfl ?_
        refine ir_l (pc' := 94) rfl rfl rfl rfl rfl rfl ?_
        refine ir_j1A (pc' := 95) rfl rfl rfl rfl (fun z12 z12e z12l z12h => ?_)
        clear z12e
        refine ir_tis (pc' := 96) rfl rfl rfl rfl te_20 w84_a0_0k hT_84 (by omega) (by omega) (rfl) (by omega) (by omega) (fun s13 hT13 r13 o13 => ?_)
        have hF13 := fr_row hF_84 r13 o13
        have e14 : s13.1 a0 1 = w84_a0_1 := by rw [r13]; exact w84_a0_1e
        have e15 : s13.1 a1 1 = w84_a1_1 := by rw [r13]; exact w84_a1_1e
        have e16 : s13.1 a0 0 = ((w84_a0_0 : Nat) : Int) := by rw [r13]; exact w84_a0_0e
        refine ir_l (pc' := 97) rfl rfl rfl rfl rfl rfl ?_
        refine ir_k (pc' := 99) (v := (0, 32)) rfl rfl rfl (fun _ => rfl) ?_
        refine ir_lshr (pc' := 100) (y := 32) (k := 32) (m := 4294967296) rfl rfl (by decide) rfl (by decide) (by omega) (by omega) ?_
        refine ir_s2 (pc' := 101) rfl rfl rfl rfl rfl rfl ?_
        refine ir_inc (pc' := 104) rfl rfl rfl rfl rfl (by omega) (by omega) ?_
        refine ir_goto (pc' := 26) rfl rfl ?_
        refine ir_w [(0, (2, ((a0 : Nat) : Int))), (1, (2, ((a1 : Nat) : Int))), (2, (1, ((q84_s0 + (q84_s1 - q84_s2)) / 4294967296))), (4, (0, q26_l4)), (5, (0, (q26_l5 + 1)))] ⟨rfl, rfl, rfl, rfl, rfl, trivial⟩ ?_
        exact ih26 (((q84_s0 + (q84_s1 - q84_s2)) / 4294967296)) (by omega) (by omega) (q26_l4) (by omega) (by omega) ((q26_l5 + 1)) (by omega) (by omega) s13 hT13 hF13 w84_a0_0 w84_a0_0k e16 (w84_a0_1) (by omega) (by omega) e14 (w84_a1_1) (by omega) (by omega) e15 (by omega)
      have J59 : ∀ (q59_s0 : Int) (q59_s0l : -1 ≤ q59_s0) (q59_s0h : q59_s0 ≤ 0) (q59_s1 : Int) (q59_s1l : 0 ≤ q59_s1) (q59_s1h : q59_s1 ≤ 4294967295) (f59_4l : 1 ≤ q26_l4) (f59_5h : q26_l5 ≤ 23) (s_59 : im_S) (hT_59 : tI s_59) (hF_59 : fr [(19, 1), (19, 2)] s0 s_59) (w59_a0_0 : Nat) (w59_a0_0k : gK[w59_a0_0]? = some 20) (w59_a0_0e : s_59.1 a0 0 = ((w59_a0_0 : Nat) : Int)) (w59_a0_1 : Int) (w59_a0_1l : 0 ≤ w59_a0_1) (w59_a0_1h : w59_a0_1 ≤ 24) (w59_a0_1e : s_59.1 a0 1 = w59_a0_1) (w59_a1_1 : Int) (w59_a1_1l : 0 ≤ w59_a1_1) (w59_a1_1h : w59_a1_1 ≤ 24) (w59_a1_1e : s_59.1 a1 1 = w59_a1_1), ir gG rm_P L ys (d + 1) rm_p_X1_shrink (59, [(0, (2, ((a0 : Nat) : Int))), (1, (2, ((a1 : Nat) : Int))), (4, (0, q26_l4)), (5, (0, q26_l5))], [(1, q59_s1), (1, q59_s0)], s_59) (fun r : im_Re => r.1 = none ∧ (tI r.2 ∧ fr [(19, 1), (19, 2)] s0 r.2)) := by
        intro q59_s0 q59_s0l q59_s0h q59_s1 q59_s1l q59_s1h f59_4l f59_5h s_59 hT_59 hF_59 w59_a0_0 w59_a0_0k w59_a0_0e w59_a0_1 w59_a0_1l w59_a0_1h w59_a0_1e w59_a1_1 w59_a1_1l w59_a1_1h w59_a1_1e
        refine ir_l (pc' := 61) rfl rfl rfl rfl rfl rfl ?_
        refine ir_l (pc' := 62) rfl rfl rfl rfl rfl rfl ?_
        refine ir_getI (pc' := 65) rfl rfl rfl (gG_at a1k) rfl (by decide) (by decide) w59_a1_1e (by omega) (by omega) ?_
        refine ir_c_ge (pt := 83) (pc' := 68) rfl rfl rfl (fun c17 => ?_) (fun c17 => ?_)
        · refine ir_k (pc' := 84) (v := (1, 0)) rfl rfl rfl (fun _ => rfl) ?_
          refine ir_w [(0, (2, ((a0 : Nat) : Int))), (1, (2, ((a1 : Nat) : Int))), (4, (0, q26_l4)), (5, (0, q26_l5))] ⟨rfl, rfl, rfl, rfl, trivial⟩ ?_
          exact J84 (q59_s0) (by omega) (by omega) (q59_s1) (by omega) (by omega) (0) (by omega) (by omega) (by omega) (by omega) s_59 hT_59 hF_59 w59_a0_0 w59_a0_0k w59_a0_0e (w59_a0_1) (by omega) (by omega) w59_a0_1e (w59_a1_1) (by omega) (by omega) w59_a1_1e
        · refine ir_l (pc' := 69) rfl rfl rfl rfl rfl rfl ?_
          refine ir_tgr (pc' := 72) rfl rfl rfl tf_19_0 a1k hT_59 (fun b18 b18e b18k => ?_)
          refine ir_l (pc' := 74) rfl rfl rfl rfl rfl rfl ?_
          refine ir_tia (pc' := 75) rfl rfl te_20 (by decide) b18k hT_59 (by omega) (by omega) (fun z19 z19e z19l z19h => ?_)
          clear z19e
          refine ir_i2l (pc' := 76) rfl rfl (by omega) (by omega) ?_
          refine ir_k (pc' := 79) (v := (1, 4294967295)) rfl rfl rfl (fun _ => rfl) ?_
          refine ir_landm (pc' := 80) rfl rfl (by decide) (by decide) (fun z20 z20l z20h => ?_)
          refine ir_goto (pc' := 84) rfl rfl ?_
          refine ir_w [(0, (2, ((a0 : Nat) : Int))), (1, (2, ((a1 : Nat) : Int))), (4, (0, q26_l4)), (5, (0, q26_l5))] ⟨rfl, rfl, rfl, rfl, trivial⟩ ?_
          exact J84 (q59_s0) (by omega) (by omega) (q59_s1) (by omega) (by omega) (z20) (by omega) (by omega) (by omega) (by omega) s_59 hT_59 hF_59 w59_a0_0 w59_a0_0k w59_a0_0e (w59_a0_1) (by omega) (by omega) w59_a0_1e (w59_a1_1) (by omega) (by omega) w59_a1_1e
      refine ir_l (pc' := 28) rfl rfl rfl rfl rfl rfl ?_
      refine ir_l (pc' := 30) rfl rfl rfl rfl rfl rfl ?_
      refine ir_c_ge (pt := 107) (pc' := 33) rfl rfl rfl (fun c21 => ?_) (fun c21 => ?_)
      · refine ir_l (pc' := 108) rfl rfl rfl rfl rfl rfl ?_
        refine ir_l (pc' := 110) rfl rfl rfl rfl rfl rfl ?_
        refine ir_tpi (pc' := 113) rfl rfl rfl tf_19_1 rfl a0k hT_26 rfl (by omega) (by omega) (fun s22 hT22 e22 g22 r22 => ?_)
        have hF22 := fr_put (k := 19) hF_26 (by decide) a0k g22 r22
        have e23 : s22.1 a0 0 = ((w26_a0_0 : Nat) : Int) := (g22 a0 0 (fun z => absurd z.2 (by decide))).trans w26_a0_0e
        refine ir_l (pc' := 114) rfl rfl rfl rfl rfl rfl ?_
        refine ir_k (pc' := 115) (v := (1, 0)) rfl rfl rfl (fun _ => rfl) ?_
        refine ir_lcmp (pc' := 116) rfl rfl (by omega) (by omega) (by omega) (by omega) (fun z24 z24c => ?_)
        refine ir_z_eq (pt := 183) (pc' := 119) rfl rfl rfl (fun c25 => ?_) (fun c25 => ?_)
        · refine ir_w [] trivial ?_
          exact J183 s22 hT22 hF22 w26_a0_0 w26_a0_0k e23 (q26_l4) (by omega) (by omega) e22
        · refine ir_l (pc' := 120) rfl rfl rfl rfl rfl rfl ?_
          refine ir_l (pc' := 121) rfl rfl rfl rfl rfl rfl ?_
          refine ir_tgi (pc' := 124) rfl rfl rfl tf_19_2 a0k hT22 (fun z26 z26e z26l z26h => ?_)
          refine ir_i1A (pc' := 125) rfl rfl rfl rfl (fun z27 z27e z27l z27h => ?_)
          clear z27e
          refine ir_tpi (pc' := 128) rfl rfl rfl tf_19_2 rfl a0k hT22 rfl (by omega) (by omega) (fun s28 hT28 e28 g28 r28 => ?_)
          have hF28 := fr_put (k := 19) hF22 (by decide) a0k g28 r28
          have e29 : s28.1 a0 0 = ((w26_a0_0 : Nat) : Int) := (g28 a0 0 (fun z => absurd z.2 (by decide))).trans e23
          have e30 : s28.1 a0 1 = q26_l4 := (g28 a0 1 (fun z => absurd z.2 (by decide))).trans e22
          refine ir_k (pc' := 129) (v := (1, 1)) rfl rfl rfl (fun _ => rfl) ?_
          refine ir_s2 (pc' := 131) rfl rfl rfl rfl rfl rfl ?_
          refine ir_k (pc' := 132) (v := (0, 0)) rfl rfl rfl (fun _ => rfl) ?_
          refine ir_s (pc' := 134) rfl rfl rfl rfl rfl rfl ?_
          refine ir_w [(0, (2, ((a0 : Nat) : Int))), (4, (0, q26_l4)), (5, (1, 1)), (7, (0, 0))] ⟨rfl, rfl, rfl, rfl, trivial⟩ ?_
          exact J134 _ (q26_l4) (by omega) (by omega) (1) (by omega) (by omega) (0) (by omega) (by omega) s28 hT28 hF28 w26_a0_0 w26_a0_0k e29 (q26_l4) (by omega) (by omega) e30 (z27) (by omega) (by omega) e28 (Int.self_le_toNat _)
      · refine ir_l (pc' := 34) rfl rfl rfl rfl rfl rfl ?_
        refine ir_l (pc' := 36) rfl rfl rfl rfl rfl rfl ?_
        refine ir_l (pc' := 37) rfl rfl rfl rfl rfl rfl ?_
        refine ir_getI (pc' := 40) rfl rfl rfl (gG_at a0k) rfl (by decide) (by decide) w26_a0_1e (by omega) (by omega) ?_
        refine ir_c_ge (pt := 58) (pc' := 43) rfl rfl rfl (fun c31 => ?_) (fun c31 => ?_)
        · refine ir_k (pc' := 59) (v := (1, 0)) rfl rfl rfl (fun _ => rfl) ?_
          refine ir_w [(0, (2, ((a0 : Nat) : Int))), (1, (2, ((a1 : Nat) : Int))), (4, (0, q26_l4)), (5, (0, q26_l5))] ⟨rfl, rfl, rfl, rfl, trivial⟩ ?_
          exact J59 (q26_l2) (by omega) (by omega) (0) (by omega) (by omega) (by omega) (by omega) s_26 hT_26 hF_26 w26_a0_0 w26_a0_0k w26_a0_0e (w26_a0_1) (by omega) (by omega) w26_a0_1e (w26_a1_1) (by omega) (by omega) w26_a1_1e
        · refine ir_l (pc' := 44) rfl rfl rfl rfl rfl rfl ?_
          refine ir_getR (pc' := 47) rfl rfl rfl (gG_at a0k) rfl w26_a0_0e ?_
          refine ir_l (pc' := 49) rfl rfl rfl rfl rfl rfl ?_
          refine ir_tia (pc' := 50) rfl rfl te_20 (by decide) w26_a0_0k hT_26 (by omega) (by omega) (fun z32 z32e z32l z32h => ?_)
          clear z32e
          refine ir_i2l (pc' := 51) rfl rfl (by omega) (by omega) ?_
          refine ir_k (pc' := 54) (v := (1, 4294967295)) rfl rfl rfl (fun _ => rfl) ?_
          refine ir_landm (pc' := 55) rfl rfl (by decide) (by decide) (fun z33 z33l z33h => ?_)
          refine ir_goto (pc' := 59) rfl rfl ?_
          refine ir_w [(0, (2, ((a0 : Nat) : Int))), (1, (2, ((a1 : Nat) : Int))), (4, (0, q26_l4)), (5, (0, q26_l5))] ⟨rfl, rfl, rfl, rfl, trivial⟩ ?_
          exact J59 (q26_l2) (by omega) (by omega) (z33) (by omega) (by omega) (by omega) (by omega) s_26 hT_26 hF_26 w26_a0_0 w26_a0_0k w26_a0_0e (w26_a0_1) (by omega) (by omega) w26_a0_1e (w26_a1_1) (by omega) (by omega) w26_a1_1e
  refine ir_k (pc' := 1) (v := (1, 0)) rfl rfl rfl (fun _ => rfl) ?_
  refine ir_s2 (pc' := 2) rfl rfl rfl rfl rfl rfl ?_
  refine ir_l (pc' := 3) rfl rfl rfl rfl rfl rfl ?_
  refine ir_tgi (pc' := 6) rfl rfl rfl tf_19_1 a0k hT0 (fun z34 z34e z34l z34h => ?_)
  refine ir_l (pc' := 7) rfl rfl rfl rfl rfl rfl ?_
  refine ir_tgi (pc' := 10) rfl rfl rfl tf_19_1 a1k hT0 (fun z35 z35e z35l z35h => ?_)
  refine ir_cSI (pc' := 13) rfl rfl rfl rfl rfl rfl (Nat.le_of_ble_eq_true rfl) (sf_max L ys d s0 (z34) (by omega) (by omega) (z35) (by omega) (by omega)) (fun z36 s37 hr => ?_)
  obtain ⟨rfl, z36p0, z36p1, z36p2⟩ := hr
  refine ir_l (pc' := 14) rfl rfl rfl rfl rfl rfl ?_
  refine ir_tgr (pc' := 17) rfl rfl rfl tf_19_0 a0k hT0 (fun b38 b38e b38k => ?_)
  refine ir_tlen (pc' := 18) rfl rfl te_20 (by decide) b38k ?_
  refine ir_cSI (pc' := 21) rfl rfl rfl rfl rfl rfl (Nat.le_of_ble_eq_true rfl) (sf_min L ys d s0 (z36) (by omega) (by omega) (((24 : Nat) : Int)) (by omega) (by omega)) (fun z39 s40 hr => ?_)
  obtain ⟨rfl, z39p0, z39p1, z39p2⟩ := hr
  refine ir_s (pc' := 23) rfl rfl rfl rfl rfl rfl ?_
  refine ir_k (pc' := 24) (v := (0, 0)) rfl rfl rfl (fun _ => rfl) ?_
  refine ir_s (pc' := 26) rfl rfl rfl rfl rfl rfl ?_
  refine ir_w [(0, (2, ((a0 : Nat) : Int))), (1, (2, ((a1 : Nat) : Int))), (2, (1, 0)), (4, (0, z39)), (5, (0, 0))] ⟨rfl, rfl, rfl, rfl, rfl, trivial⟩ ?_
  exact J26 _ (0) (by omega) (by omega) (z39) (by omega) (by omega) (0) (by omega) (by omega) s0 hT0 hF0 b38 b38k b38e (z34) (by omega) (by omega) z34e (z35) (by omega) (by omega) z35e (Int.self_le_toNat _)
theorem sf_add1_19_19 (L : Nat) (ys : Nat → Int32) (d : Nat) (s0 : im_S) (hT0 : tI s0) (a0 : Nat) (a0k : gK[a0]? = some 19) (a1 : Nat) (a1k : gK[a1]? = some 19) (x2 : Int) (x2l : -2147483648 ≤ x2) (x2h : x2 ≤ 2147483647) : icV gG rm_P L ys (d + 3) 108 [(2, (a0 : Int)), (2, (a1 : Int)), (0, x2)] s0 (fun s => tI s ∧ fr [(19, 1), (19, 2)] s0 s) := by
  refine ic_startM (M := rm_p_X1_add) om_X1_add (Nat.le_of_ble_eq_true rfl) ?_
  refine ir_w [(0, (2, ((a0 : Nat) : Int))), (1, (2, ((a1 : Nat) : Int))), (2, (0, x2))] ⟨rfl, rfl, rfl, trivial⟩ ?_
  have hF0 := fr_refl [(19, 1), (19, 2)] s0
  have J57 : ∀ (s_57 : im_S) (hT_57 : tI s_57) (hF_57 : fr [(19, 1), (19, 2)] s0 s_57), ir gG rm_P L ys (d + 2) rm_p_X1_add (57, [], [], s_57) (fun r : im_Re => r.1 = none ∧ (tI r.2 ∧ fr [(19, 1), (19, 2)] s0 r.2)) := by
    intro s_57 hT_57 hF_57
    exact ir_vret rfl rfl ⟨rfl, hT_57, hF_57⟩
  refine ir_l (pc' := 1) rfl rfl rfl rfl rfl rfl ?_
  refine ir_tgi (pc' := 4) rfl rfl rfl tf_19_2 a1k hT0 (fun z1 z1e z1l z1h => ?_)
  refine ir_l (pc' := 5) rfl rfl rfl rfl rfl rfl ?_
  refine ir_iiA (pc' := 6) rfl rfl rfl rfl (fun z2 z2l z2h => ?_)
  refine ir_s (pc' := 7) rfl rfl rfl rfl rfl rfl ?_
  refine ir_l (pc' := 8) rfl rfl rfl rfl rfl rfl ?_
  refine ir_z_ne (pt := 12) (pc' := 11) rfl rfl rfl (fun c3 => ?_) (fun c3 => ?_)
  · refine ir_l (pc' := 13) rfl rfl rfl rfl rfl rfl ?_
    refine ir_tgi (pc' := 16) rfl rfl rfl tf_19_2 a0k hT0 (fun z4 z4e z4l z4h => ?_)
    refine ir_z_ne (pt := 32) (pc' := 19) rfl rfl rfl (fun c5 => ?_) (fun c5 => ?_)
    · refine ir_l (pc' := 33) rfl rfl rfl rfl rfl rfl ?_
      refine ir_getI (pc' := 36) rfl rfl rfl (gG_at a0k) rfl (by decide) (by decide) z4e (by omega) (by omega) ?_
      refine ir_l (pc' := 37) rfl rfl rfl rfl rfl rfl ?_
      refine ir_c_ne (pt := 48) (pc' := 40) rfl rfl rfl (fun c6 => ?_) (fun c6 => ?_)
      · refine ir_l (pc' := 49) rfl rfl rfl rfl rfl rfl ?_
        refine ir_l (pc' := 50) rfl rfl rfl rfl rfl rfl ?_
        refine ir_cVV (pc' := 53) rfl rfl rfl rfl rfl (Nat.le_of_ble_eq_true rfl) oo_X1_shrink (gG_at a0k) (sf_shrink1_19_19 L ys d s0 hT0 a0 a0k a1 a1k ) (fun s8 hr => ?_)
        obtain ⟨hT8, hG8⟩ := hr
        have hF8 := fr_trans hF0 hG8 (by decide)
        refine ir_l (pc' := 54) rfl rfl rfl rfl rfl rfl ?_
        refine ir_cVV (pc' := 57) rfl rfl rfl rfl rfl (Nat.le_of_ble_eq_true rfl) oo_X1_trim (gG_at a0k) (sf_trim1_19 L ys (d + 1) s8 hT8 a0 a0k ) (fun s10 hr => ?_)
        obtain ⟨hT10, hG10⟩ := hr
        have hF10 := fr_trans hF8 hG10 (by decide)
        refine ir_w [] trivial ?_
        exact J57 s10 hT10 hF10
      · refine ir_l (pc' := 41) rfl rfl rfl rfl rfl rfl ?_
        refine ir_l (pc' := 42) rfl rfl rfl rfl rfl rfl ?_
        refine ir_cVV (pc' := 45) rfl rfl rfl rfl rfl (Nat.le_of_ble_eq_true rfl) oo_X1_grow (gG_at a0k) (sf_grow1_19_19 L ys d s0 hT0 a0 a0k a1 a1k ) (fun s12 hr => ?_)
        obtain ⟨hT12, hG12⟩ := hr
        have hF12 := fr_trans hF0 hG12 (by decide)
        have e13 : s12.1 a1 2 = z1 := (hG12.1 _ _ a1k 2 (by decide)).trans z1e
        have e14 : s12.1 a0 2 = z4 := (hG12.1 _ _ a0k 2 (by decide)).trans z4e
        refine ir_goto (pc' := 57) rfl rfl ?_
        refine ir_w [] trivial ?_
        exact J57 s12 hT12 hF12
    · refine ir_l (pc' := 20) rfl rfl rfl rfl rfl rfl ?_
      refine ir_l (pc' := 21) rfl rfl rfl rfl rfl rfl ?_
      refine ir_cVV (pc' := 24) rfl rfl rfl rfl rfl (Nat.le_of_ble_eq_true rfl) oo_X1_copy (gG_at a0k) (sf_copy1_19_19 L ys d s0 hT0 a0 a0k a1 a1k ) (fun s16 hr => ?_)
      obtain ⟨hT16, hG16⟩ := hr
      have hF16 := fr_trans hF0 hG16 (by decide)
      refine ir_l (pc' := 25) rfl rfl rfl rfl rfl rfl ?_
      refine ir_l (pc' := 26) rfl rfl rfl rfl rfl rfl ?_
      refine ir_tpi (pc' := 29) rfl rfl rfl tf_19_2 rfl a0k hT16 rfl (by omega) (by omega) (fun s17 hT17 e17 g17 r17 => ?_)
      have hF17 := fr_put (k := 19) hF16 (by decide) a0k g17 r17
      refine ir_goto (pc' := 57) rfl rfl ?_
      refine ir_w [] trivial ?_
      exact J57 s17 hT17 hF17
  · exact ir_vret rfl rfl ⟨rfl, hT0, hF0⟩
theorem sf_width1 (L : Nat) (ys : Nat → Int32) (d : Nat) (s0 : im_S) (hT0 : tI s0) (x0 : Int) (x0l : -9223372036854775808 ≤ x0) (x0h : x0 ≤ 9223372036854775807) : icI gG rm_P L ys 0 (d + 1) 122 [(1, x0)] s0 (fun z s => tI s ∧ fr [] s0 s ∧ -2147483648 ≤ z ∧ z ≤ 2147483647) := by
  refine ic_startM (M := rm_p_X1_width) om_X1_width (Nat.le_of_ble_eq_true rfl) ?_
  refine ir_w [(0, (1, x0))] ⟨rfl, trivial⟩ ?_
  have hF0 := fr_refl [] s0
  have J58 : ∀ (q58_s0 : Int) (q58_s0l : -2147483648 ≤ q58_s0) (q58_s0h : q58_s0 ≤ 2147483647) (s_58 : im_S) (hT_58 : tI s_58) (hF_58 : fr [] s0 s_58), ir gG rm_P L ys d rm_p_X1_width (58, [], [(0, q58_s0)], s_58) (fun r : im_Re => ∃ z, r.1 = some (0, z) ∧ (tI r.2 ∧ fr [] s0 r.2 ∧ -2147483648 ≤ z ∧ z ≤ 2147483647)) := by
    intro q58_s0 q58_s0l q58_s0h s_58 hT_58 hF_58
    exact ir_iret rfl rfl ⟨_, rfl, hT_58, hF_58, by omega, by omega⟩
  have J9 : ∀ n : Nat, ∀ (q9_l2 : Int) (q9_l2l : -9223372036854775808 ≤ q9_l2) (q9_l2h : q9_l2 ≤ 9223372036854775807) (q9_l4 : Int) (q9_l4l : -2147483648 ≤ q9_l4) (q9_l4h : q9_l4 ≤ 2147483647) (q9_l5 : Int) (q9_l5l : 0 ≤ q9_l5) (q9_l5h : q9_l5 ≤ 32) (s_9 : im_S) (hT_9 : tI s_9) (hF_9 : fr [] s0 s_9), (q9_l5 + 1) ≤ (n : Int) → ir gG rm_P L ys d rm_p_X1_width (9, [(2, (1, q9_l2)), (4, (0, q9_l4)), (5, (0, q9_l5))], [], s_9) (fun r : im_Re => ∃ z, r.1 = some (0, z) ∧ (tI r.2 ∧ fr [] s0 r.2 ∧ -2147483648 ≤ z ∧ z ≤ 2147483647)) := by
    intro n
    induction n with
    | zero => intro q9_l2 q9_l2l q9_l2h q9_l4 q9_l4l q9_l4h q9_l5 q9_l5l q9_l5h s_9 hT_9 hF_9 hr; exfalso; omega
    | succ n ih9 =>
      intro q9_l2 q9_l2l q9_l2h q9_l4 q9_l4l q9_l4h q9_l5 q9_l5l q9_l5h s_9 hT_9 hF_9 hr
      have J35 : ∀ (q35_l2 : Int) (q35_l2l : -9223372036854775808 ≤ q35_l2) (q35_l2h : q35_l2 ≤ 9223372036854775807) (q35_l4 : Int) (q35_l4l : -2147483648 ≤ q35_l4) (q35_l4h : q35_l4 ≤ 2147483647) (f35_5l : 1 ≤ q9_l5) (s_35 : im_S) (hT_35 : tI s_35) (hF_35 : fr [] s0 s_35), ir gG rm_P L ys d rm_p_X1_width (35, [(2, (1, q35_l2)), (4, (0, q35_l4)), (5, (0, q9_l5))], [], s_35) (fun r : im_Re => ∃ z, r.1 = some (0, z) ∧ (tI r.2 ∧ fr [] s0 r.2 ∧ -2147483648 ≤ z ∧ z ≤ 2147483647)) := by
        intro q35_l2 q35_l2l q35_l2h q35_l4 q35_l4l q35_l4h f35_5l s_35 hT_35 hF_35
        refine ir_l (pc' := 37) rfl rfl rfl rfl rfl rfl ?_
        refine ir_k (pc' := 38) (v := (0, 1)) rfl rfl rfl (fun _ => rfl) ?_
        refine ir_shr (pc' := 39) (y := 1) (k := 1) (m := 2) rfl rfl (by decide) rfl (by decide) (by omega) (by omega) ?_
        refine ir_s (pc' := 41) rfl rfl rfl rfl rfl rfl ?_
        refine ir_goto (pc' := 9) rfl rfl ?_
        refine ir_w [(2, (1, q35_l2)), (4, (0, q35_l4)), (5, (0, (q9_l5 / 2)))] ⟨rfl, rfl, rfl, trivial⟩ ?_
        exact ih9 (q35_l2) (by omega) (by omega) (q35_l4) (by omega) (by omega) ((q9_l5 / 2)) (by omega) (by omega) s_35 hT_35 hF_35 (by omega)
      refine ir_l (pc' := 11) rfl rfl rfl rfl rfl rfl ?_
      refine ir_z_le (pt := 44) (pc' := 14) rfl rfl rfl (fun c1 => ?_) (fun c1 => ?_)
      · refine ir_l (pc' := 45) rfl rfl rfl rfl rfl rfl ?_
        refine ir_k (pc' := 46) (v := (1, 0)) rfl rfl rfl (fun _ => rfl) ?_
        refine ir_lcmp (pc' := 47) rfl rfl (by omega) (by omega) (by omega) (by omega) (fun z2 z2c => ?_)
        refine ir_z_eq (pt := 57) (pc' := 50) rfl rfl rfl (fun c3 => ?_) (fun c3 => ?_)
        · refine ir_k (pc' := 58) (v := (0, 0)) rfl rfl rfl (fun _ => rfl) ?_
          refine ir_w [] trivial ?_
          exact J58 (0) (by omega) (by omega) s_9 hT_9 hF_9
        · refine ir_l (pc' := 52) rfl rfl rfl rfl rfl rfl ?_
          refine ir_k (pc' := 53) (v := (0, 1)) rfl rfl rfl (fun _ => rfl) ?_
          refine ir_iiA (pc' := 54) rfl rfl rfl rfl (fun z4 z4l z4h => ?_)
          refine ir_goto (pc' := 58) rfl rfl ?_
          refine ir_w [] trivial ?_
          exact J58 (z4) (by omega) (by omega) s_9 hT_9 hF_9
      · refine ir_l (pc' := 15) rfl rfl rfl rfl rfl rfl ?_
        refine ir_l (pc' := 17) rfl rfl rfl rfl rfl rfl ?_
        refine ir_jijA (pc' := 18) rfl rfl rfl rfl (fun z5 z5l z5h => ?_)
        refine ir_k (pc' := 19) (v := (1, 0)) rfl rfl rfl (fun _ => rfl) ?_
        refine ir_lcmp (pc' := 20) rfl rfl (by omega) (by omega) (by omega) (by omega) (fun z6 z6c => ?_)
        refine ir_z_eq (pt := 35) (pc' := 23) rfl rfl rfl (fun c7 => ?_) (fun c7 => ?_)
        · refine ir_w [(2, (1, q9_l2)), (4, (0, q9_l4)), (5, (0, q9_l5))] ⟨rfl, rfl, rfl, trivial⟩ ?_
          exact J35 (q9_l2) (by omega) (by omega) (q9_l4) (by omega) (by omega) (by omega) s_9 hT_9 hF_9
        · refine ir_l (pc' := 24) rfl rfl rfl rfl rfl rfl ?_
          refine ir_l (pc' := 26) rfl rfl rfl rfl rfl rfl ?_
          refine ir_jijA (pc' := 27) rfl rfl rfl rfl (fun z8 z8l z8h => ?_)
          refine ir_s2 (pc' := 28) rfl rfl rfl rfl rfl rfl ?_
          refine ir_l (pc' := 30) rfl rfl rfl rfl rfl rfl ?_
          refine ir_l (pc' := 32) rfl rfl rfl rfl rfl rfl ?_
          refine ir_iiA (pc' := 33) rfl rfl rfl rfl (fun z9 z9l z9h => ?_)
          refine ir_s (pc' := 35) rfl rfl rfl rfl rfl rfl ?_
          refine ir_w [(2, (1, z8)), (4, (0, z9)), (5, (0, q9_l5))] ⟨rfl, rfl, rfl, trivial⟩ ?_
          exact J35 (z8) (by omega) (by omega) (z9) (by omega) (by omega) (by omega) s_9 hT_9 hF_9
  refine ir_l (pc' := 1) rfl rfl rfl rfl rfl rfl ?_
  refine ir_s2 (pc' := 2) rfl rfl rfl rfl rfl rfl ?_
  refine ir_k (pc' := 3) (v := (0, 0)) rfl rfl rfl (fun _ => rfl) ?_
  refine ir_s (pc' := 5) rfl rfl rfl rfl rfl rfl ?_
  refine ir_k (pc' := 7) (v := (0, 32)) rfl rfl rfl (fun _ => rfl) ?_
  refine ir_s (pc' := 9) rfl rfl rfl rfl rfl rfl ?_
  refine ir_w [(2, (1, x0)), (4, (0, 0)), (5, (0, 32))] ⟨rfl, rfl, rfl, trivial⟩ ?_
  exact J9 _ (x0) (by omega) (by omega) (0) (by omega) (by omega) (32) (by omega) (by omega) s0 hT0 hF0 (Int.self_le_toNat _)
