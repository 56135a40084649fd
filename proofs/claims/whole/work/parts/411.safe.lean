/-! WALKS OF THE CLASS'S METHODS, by program -/
theorem sf_scaledFloor3 (L : Nat) (ys : Nat → Int32) (d : Nat) (s0 : im_S) (hT0 : tI s0) (a1 : Nat) (a1k : gK[a1]? = some 23) (x2 : Int) (x2l : -9223372036854775808 ≤ x2) (x2h : x2 ≤ 9223372036854775807) (pr0 : (s0.1 a1 1 = 0 ∨ 1 ≤ s0.1 a1 3)) : icI gG rm_P L ys 1 (d + 6) 139 [(2, ((83 : Nat) : Int)), (2, (a1 : Int)), (1, x2)] s0 (fun z s => tI s ∧ fr [(19, 1), (19, 2), (25, 1), (25, 2)] s0 s ∧ -9223372036854775808 ≤ z ∧ z ≤ 9223372036854775807) := by
  refine ic_startM (M := rm_p_X3_scaledFloor) om_X3_scaledFloor (Nat.le_of_ble_eq_true rfl) ?_
  refine ir_w [(0, (2, ((83 : Nat) : Int))), (1, (2, ((a1 : Nat) : Int))), (2, (1, x2))] ⟨rfl, rfl, rfl, trivial⟩ ?_
  have hF0 := fr_refl [(19, 1), (19, 2), (25, 1), (25, 2)] s0
  have J69 : ∀ (q69_l4 : Int) (q69_l4l : -9223372036854775808 ≤ q69_l4) (q69_l4h : q69_l4 ≤ 9223372036854775807) (s_69 : im_S) (hT_69 : tI s_69) (hF_69 : fr [(19, 1), (19, 2), (25, 1), (25, 2)] s0 s_69) (w69_a1_1 : Int) (w69_a1_1l : 0 ≤ w69_a1_1) (w69_a1_1h : w69_a1_1 ≤ 0) (w69_a1_1e : s_69.1 a1 1 = w69_a1_1) (w69_a1_5 : Int) (w69_a1_5l : -9223372036854775808 ≤ w69_a1_5) (w69_a1_5h : w69_a1_5 ≤ 9223372036854775807) (w69_a1_5e : s_69.1 a1 5 = w69_a1_5), ir gG rm_P L ys (d + 5) rm_p_X3_scaledFloor (69, [(1, (2, ((a1 : Nat) : Int))), (2, (1, x2)), (4, (1, q69_l4))], [], s_69) (fun r : im_Re => ∃ z, r.1 = some (1, z) ∧ (tI r.2 ∧ fr [(19, 1), (19, 2), (25, 1), (25, 2)] s0 r.2 ∧ -9223372036854775808 ≤ z ∧ z ≤ 9223372036854775807)) := by
    intro q69_l4 q69_l4l q69_l4h s_69 hT_69 hF_69 w69_a1_1 w69_a1_1l w69_a1_1h w69_a1_1e w69_a1_5 w69_a1_5l w69_a1_5h w69_a1_5e
    refine ir_l (pc' := 70) rfl rfl rfl rfl rfl rfl ?_
    refine ir_tgj (pc' := 73) rfl rfl rfl tf_23_4 a1k hT_69 (fun z1 z1e z1l z1h => ?_)
    refine ir_l (pc' := 74) rfl rfl rfl rfl rfl rfl ?_
    refine ir_jjA (pc' := 75) rfl rfl rfl rfl (fun z2 z2l z2h => ?_)
    refine ir_l (pc' := 77) rfl rfl rfl rfl rfl rfl ?_
    refine ir_jjA (pc' := 78) rfl rfl rfl rfl (fun z3 z3l z3h => ?_)
    exact ir_lret rfl rfl ⟨_, rfl, hT_69, hF_69, by omega, by omega⟩
  refine ir_l (pc' := 1) rfl rfl rfl rfl rfl rfl ?_
  refine ir_tgi (pc' := 4) rfl rfl rfl tf_23_1 a1k hT0 (fun z4 z4e z4l z4h => ?_)
  refine ir_z_eq (pt := 26) (pc' := 7) rfl rfl rfl (fun c5 => ?_) (fun c5 => ?_)
  · refine ir_l (pc' := 27) rfl rfl rfl rfl rfl rfl ?_
    refine ir_tgj (pc' := 30) rfl rfl rfl tf_23_5 a1k hT0 (fun z6 z6e z6l z6h => ?_)
    refine ir_l (pc' := 31) rfl rfl rfl rfl rfl rfl ?_
    refine ir_jjA (pc' := 32) rfl rfl rfl rfl (fun z7 z7l z7h => ?_)
    refine ir_k (pc' := 34) (v := (0, 32)) rfl rfl rfl (fun _ => rfl) ?_
    refine ir_jijA (pc' := 35) rfl rfl rfl rfl (fun z8 z8l z8h => ?_)
    refine ir_s2 (pc' := 37) rfl rfl rfl rfl rfl rfl ?_
    refine ir_l (pc' := 39) rfl rfl rfl rfl rfl rfl ?_
    refine ir_k (pc' := 40) (v := (1, 1)) rfl rfl rfl (fun _ => rfl) ?_
    refine ir_jjA (pc' := 41) rfl rfl rfl rfl (fun z9 z9l z9h => ?_)
    refine ir_l (pc' := 42) rfl rfl rfl rfl rfl rfl ?_
    refine ir_lcmp (pc' := 43) rfl rfl (by omega) (by omega) (by omega) (by omega) (fun z10 z10c => ?_)
    refine ir_z_ge (pt := 69) (pc' := 46) rfl rfl rfl (fun c11 => ?_) (fun c11 => ?_)
    · refine ir_w [(1, (2, ((a1 : Nat) : Int))), (2, (1, x2)), (4, (1, z8))] ⟨rfl, rfl, rfl, trivial⟩ ?_
      exact J69 (z8) (by omega) (by omega) s0 hT0 hF0 (z4) (by omega) (by omega) z4e (z6) (by omega) (by omega) z6e
    · refine ir_l (pc' := 47) rfl rfl rfl rfl rfl rfl ?_
      refine ir_l (pc' := 48) rfl rfl rfl rfl rfl rfl ?_
      refine ir_l (pc' := 49) rfl rfl rfl rfl rfl rfl ?_
      refine ir_tgj (pc' := 52) rfl rfl rfl tf_23_4 a1k hT0 (fun z12 z12e z12l z12h => ?_)
      refine ir_l (pc' := 54) rfl rfl rfl rfl rfl rfl ?_
      refine ir_k (pc' := 55) (v := (1, 1)) rfl rfl rfl (fun _ => rfl) ?_
      refine ir_jjA (pc' := 56) rfl rfl rfl rfl (fun z13 z13l z13h => ?_)
      refine ir_l (pc' := 57) rfl rfl rfl rfl rfl rfl ?_
      refine ir_cVI (pc' := 60) rfl rfl rfl rfl rfl (Nat.le_of_ble_eq_true rfl) oo_X3_compareWith (gG_at tsk_10) (sf_compareWith3 L ys d s0 hT0 a1 a1k (z12) (by omega) (by omega) (z13) (by omega) (by omega) (x2) (by omega) (by omega) ) (fun z14 s15 hr => ?_)
      obtain ⟨hT15, hG15, z14l, z14h⟩ := hr
      have hF15 := fr_trans hF0 hG15 (by decide)
      have e16 : s15.1 a1 1 = z4 := (hG15.1 _ _ a1k 1 (by decide)).trans z4e
      have e17 : s15.1 a1 5 = z6 := (hG15.1 _ _ a1k 5 (by decide)).trans z6e
      have e18 : s15.1 a1 4 = z12 := (hG15.1 _ _ a1k 4 (by decide)).trans z12e
      refine ir_z_le (pt := 69) (pc' := 63) rfl rfl rfl (fun c19 => ?_) (fun c19 => ?_)
      · refine ir_w [(1, (2, ((a1 : Nat) : Int))), (2, (1, x2)), (4, (1, z8))] ⟨rfl, rfl, rfl, trivial⟩ ?_
        exact J69 (z8) (by omega) (by omega) s15 hT15 hF15 (z4) (by omega) (by omega) e16 (z6) (by omega) (by omega) e17
      · refine ir_l (pc' := 65) rfl rfl rfl rfl rfl rfl ?_
        refine ir_k (pc' := 66) (v := (1, 1)) rfl rfl rfl (fun _ => rfl) ?_
        refine ir_jjA (pc' := 67) rfl rfl rfl rfl (fun z20 z20l z20h => ?_)
        refine ir_s2 (pc' := 69) rfl rfl rfl rfl rfl rfl ?_
        refine ir_w [(1, (2, ((a1 : Nat) : Int))), (2, (1, x2)), (4, (1, z20))] ⟨rfl, rfl, rfl, trivial⟩ ?_
        exact J69 (z20) (by omega) (by omega) s15 hT15 hF15 (z4) (by omega) (by omega) e16 (z6) (by omega) (by omega) e17
  · refine ir_l (pc' := 8) rfl rfl rfl rfl rfl rfl ?_
    refine ir_tgj (pc' := 11) rfl rfl rfl tf_23_4 a1k hT0 (fun z21 z21e z21l z21h => ?_)
    refine ir_l (pc' := 12) rfl rfl rfl rfl rfl rfl ?_
    refine ir_jjA (pc' := 13) rfl rfl rfl rfl (fun z22 z22l z22h => ?_)
    refine ir_l (pc' := 14) rfl rfl rfl rfl rfl rfl ?_
    refine ir_tgj (pc' := 17) rfl rfl rfl tf_23_5 a1k hT0 (fun z23 z23e z23l z23h => ?_)
    refine ir_l (pc' := 18) rfl rfl rfl rfl rfl rfl ?_
    refine ir_jjA (pc' := 19) rfl rfl rfl rfl (fun z24 z24l z24h => ?_)
    refine ir_l (pc' := 20) rfl rfl rfl rfl rfl rfl ?_
    refine ir_tgj (pc' := 23) rfl rfl rfl tf_23_3 a1k hT0 (fun z25 z25e z25l z25h => ?_)
    refine ir_jzA (pc' := 24) rfl rfl rfl rfl (by omega) (fun z26 z26l z26h => ?_)
    refine ir_jjA (pc' := 25) rfl rfl rfl rfl (fun z27 z27l z27h => ?_)
    exact ir_lret rfl rfl ⟨_, rfl, hT0, hF0, by omega, by omega⟩
theorem sf_setSigns3 (L : Nat) (ys : Nat → Int32) (d : Nat) (s0 : im_S) (hT0 : tI s0) (x1 : Int) (x1l : 0 ≤ x1) (x1h : x1 ≤ 80) : icV gG rm_P L ys (d + 1) 140 [(2, ((83 : Nat) : Int)), (0, x1)] s0 (fun s => tI s ∧ fr [(23, 9)] s0 s) := by
  refine ic_startM (M := rm_p_X3_setSigns) om_X3_setSigns (Nat.le_of_ble_eq_true rfl) ?_
  refine ir_w [(0, (2, ((83 : Nat) : Int))), (1, (0, x1))] ⟨rfl, rfl, trivial⟩ ?_
  have hF0 := fr_refl [(23, 9)] s0
  have J9 : ∀ n : Nat, ∀ (q9_l2 : Int) (q9_l2l : -1 ≤ q9_l2) (q9_l2h : q9_l2 ≤ 1) (q9_l3 : Int) (q9_l3l : -1 ≤ q9_l3) (q9_l3h : q9_l3 ≤ 79) (s_9 : im_S) (hT_9 : tI s_9) (hF_9 : fr [(23, 9)] s0 s_9) (w9_83_3 : Int) (w9_83_3l : 0 ≤ w9_83_3) (w9_83_3h : w9_83_3 ≤ 80) (w9_83_3e : s_9.1 83 3 = w9_83_3), (q9_l3 - -1 + 1) ≤ (n : Int) → ir gG rm_P L ys d rm_p_X3_setSigns (9, [(0, (2, ((83 : Nat) : Int))), (1, (0, x1)), (2, (0, q9_l2)), (3, (0, q9_l3))], [], s_9) (fun r : im_Re => r.1 = none ∧ (tI r.2 ∧ fr [(23, 9)] s0 r.2)) := by
    intro n
    induction n with
    | zero => intro q9_l2 q9_l2l q9_l2h q9_l3 q9_l3l q9_l3h s_9 hT_9 hF_9 w9_83_3 w9_83_3l w9_83_3h w9_83_3e hr; exfalso; omega
    | succ n ih9 =>
      intro q9_l2 q9_l2l q9_l2h q9_l3 q9_l3l q9_l3h s_9 hT_9 hF_9 w9_83_3 w9_83_3l w9_83_3h w9_83_3e hr
      have J39 : ∀ (q39_l2 : Int) (q39_l2l : -1 ≤ q39_l2) (q39_l2h : q39_l2 ≤ 1) (f39_1h : x1 ≤ 79) (f39_3l : 0 ≤ q9_l3) (s_39 : im_S) (hT_39 : tI s_39) (hF_39 : fr [(23, 9)] s0 s_39) (w39_83_2e : s_39.1 83 2 = ((310 : Nat) : Int)) (w39_83_3 : Int) (w39_83_3l : 0 ≤ w39_83_3) (w39_83_3h : w39_83_3 ≤ 80) (w39_83_3e : s_39.1 83 3 = w39_83_3), ir gG rm_P L ys d rm_p_X3_setSigns (39, [(0, (2, ((83 : Nat) : Int))), (1, (0, x1)), (2, (0, q39_l2)), (3, (0, q9_l3))], [], s_39) (fun r : im_Re => r.1 = none ∧ (tI r.2 ∧ fr [(23, 9)] s0 r.2)) := by
        intro q39_l2 q39_l2l q39_l2h f39_1h f39_3l s_39 hT_39 hF_39 w39_83_2e w39_83_3 w39_83_3l w39_83_3h w39_83_3e
        refine ir_inc (pc' := 42) rfl rfl rfl rfl rfl (by omega) (by omega) ?_
        refine ir_goto (pc' := 9) rfl rfl ?_
        refine ir_w [(0, (2, ((83 : Nat) : Int))), (1, (0, x1)), (2, (0, q39_l2)), (3, (0, (q9_l3 + (-1))))] ⟨rfl, rfl, rfl, rfl, trivial⟩ ?_
        exact ih9 (q39_l2) (by omega) (by omega) ((q9_l3 + (-1))) (by omega) (by omega) s_39 hT_39 hF_39 (w39_83_3) (by omega) (by omega) w39_83_3e (by omega)
      refine ir_l (pc' := 10) rfl rfl rfl rfl rfl rfl ?_
      refine ir_l (pc' := 11) rfl rfl rfl rfl rfl rfl ?_
      refine ir_c_lt (pt := 45) (pc' := 14) rfl rfl rfl (fun c1 => ?_) (fun c1 => ?_)
      · exact ir_vret rfl rfl ⟨rfl, hT_9, hF_9⟩
      · refine ir_l (pc' := 15) rfl rfl rfl rfl rfl rfl ?_
        refine ir_tgr (pc' := 18) rfl rfl rfl tf_10_2 tsk_10 hT_9 (fun b2 b2e b2k => ?_)
        obtain rfl := tsg_24 b2k
        refine ir_l (pc' := 19) rfl rfl rfl rfl rfl rfl ?_
        refine ir_taa (pc' := 20) (k2 := 23) rfl rfl te_24 (by decide) tsk_24 hT_9 (by omega) (by omega) (fun b3 b3k => ?_)
        refine ir_tgi (pc' := 23) rfl rfl rfl tf_23_1 b3k hT_9 (fun z4 z4e z4l z4h => ?_)
        refine ir_z_ne (pt := 39) (pc' := 26) rfl rfl rfl (fun c5 => ?_) (fun c5 => ?_)
        · refine ir_w [(0, (2, ((83 : Nat) : Int))), (1, (0, x1)), (2, (0, q9_l2)), (3, (0, q9_l3))] ⟨rfl, rfl, rfl, rfl, trivial⟩ ?_
          exact J39 (q9_l2) (by omega) (by omega) (by omega) (by omega) s_9 hT_9 hF_9 b2e (w9_83_3) (by omega) (by omega) w9_83_3e
        · refine ir_l (pc' := 27) rfl rfl rfl rfl rfl rfl ?_
          refine ir_ineg (pc' := 28) rfl rfl (by omega) (by omega) ?_
          refine ir_s (pc' := 29) rfl rfl rfl rfl rfl rfl ?_
          refine ir_l (pc' := 30) rfl rfl rfl rfl rfl rfl ?_
          refine ir_getR (pc' := 33) rfl rfl rfl (gG_at tsk_10) rfl b2e ?_
          refine ir_l (pc' := 34) rfl rfl rfl rfl rfl rfl ?_
          refine ir_taa (pc' := 35) (k2 := 23) rfl rfl te_24 (by decide) tsk_24 hT_9 (by omega) (by omega) (fun b6 b6k => ?_)
          refine ir_l (pc' := 36) rfl rfl rfl rfl rfl rfl ?_
          refine ir_tpi (pc' := 39) rfl rfl rfl tf_23_9 rfl b6k hT_9 rfl (by omega) (by omega) (fun s7 hT7 e7 g7 r7 => ?_)
          have hF7 := fr_put (k := 23) hF_9 (by decide) b6k g7 r7
          have e8 : s7.1 83 3 = w9_83_3 := (g7 83 3 (fun z => absurd z.2 (by decide))).trans w9_83_3e
          have e9 : s7.1 83 2 = ((310 : Nat) : Int) := (g7 83 2 (fun z => absurd z.2 (by decide))).trans b2e
          have e10 : s7.1 b3 1 = z4 := (g7 b3 1 (fun z => absurd z.2 (by decide))).trans z4e
          refine ir_w [(0, (2, ((83 : Nat) : Int))), (1, (0, x1)), (2, (0, (-q9_l2))), (3, (0, q9_l3))] ⟨rfl, rfl, rfl, rfl, trivial⟩ ?_
          exact J39 ((-q9_l2)) (by omega) (by omega) (by omega) (by omega) s7 hT7 hF7 e9 (w9_83_3) (by omega) (by omega) e8
  refine ir_k (pc' := 1) (v := (0, 1)) rfl rfl rfl (fun _ => rfl) ?_
  refine ir_s (pc' := 2) rfl rfl rfl rfl rfl rfl ?_
  refine ir_l (pc' := 3) rfl rfl rfl rfl rfl rfl ?_
  refine ir_tgi (pc' := 6) rfl rfl rfl tf_10_3 tsk_10 hT0 (fun z11 z11e z11l z11h => ?_)
  refine ir_k (pc' := 7) (v := (0, 1)) rfl rfl rfl (fun _ => rfl) ?_
  refine ir_sub (pc' := 8) rfl rfl (by omega) (by omega) ?_
  refine ir_s (pc' := 9) rfl rfl rfl rfl rfl rfl ?_
  refine ir_w [(0, (2, ((83 : Nat) : Int))), (1, (0, x1)), (2, (0, 1)), (3, (0, (z11 - 1)))] ⟨rfl, rfl, rfl, rfl, trivial⟩ ?_
  exact J9 _ (1) (by omega) (by omega) ((z11 - 1)) (by omega) (by omega) s0 hT0 hF0 (z11) (by omega) (by omega) z11e (Int.self_le_toNat _)
theorem sf_tryFraction3 (L : Nat) (ys : Nat → Int32) (d : Nat) (s0 : im_S) (hT0 : tI s0) (a1 : Nat) (a1k : gK[a1]? = some 23) (a2 : Nat) (a2k : gK[a2]? = some 4) : icV gG rm_P L ys (d + 5) 148 [(2, ((83 : Nat) : Int)), (2, (a1 : Int)), (2, (a2 : Int))] s0 (fun s => tI s ∧ fr [(4, 0), (19, 1), (19, 2), (23, 1), (23, 2), (23, 3), (23, 4), (23, 5), (25, 1), (25, 2)] s0 s) := by
  refine ic_startM (M := rm_p_X3_tryFraction) om_X3_tryFraction (Nat.le_of_ble_eq_true rfl) ?_
  refine ir_w [(0, (2, ((83 : Nat) : Int))), (1, (2, ((a1 : Nat) : Int))), (2, (2, ((a2 : Nat) : Int)))] ⟨rfl, rfl, rfl, trivial⟩ ?_
  have hF0 := fr_refl [(4, 0), (19, 1), (19, 2), (23, 1), (23, 2), (23, 3), (23, 4), (23, 5), (25, 1), (25, 2)] s0
  have J116 : ∀ (s_116 : im_S) (hT_116 : tI s_116) (hF_116 : fr [(4, 0), (19, 1), (19, 2), (23, 1), (23, 2), (23, 3), (23, 4), (23, 5), (25, 1), (25, 2)] s0 s_116) (w116_83_4 : Nat) (w116_83_4k : gK[w116_83_4]? = some 4) (w116_83_4e : s_116.1 83 4 = ((w116_83_4 : Nat) : Int)), ir gG rm_P L ys (d + 4) rm_p_X3_tryFraction (116, [], [], s_116) (fun r : im_Re => r.1 = none ∧ (tI r.2 ∧ fr [(4, 0), (19, 1), (19, 2), (23, 1), (23, 2), (23, 3), (23, 4), (23, 5), (25, 1), (25, 2)] s0 r.2)) := by
    intro s_116 hT_116 hF_116 w116_83_4 w116_83_4k w116_83_4e
    exact ir_vret rfl rfl ⟨rfl, hT_116, hF_116⟩
  refine ir_l (pc' := 1) rfl rfl rfl rfl rfl rfl ?_
  refine ir_cVI (pc' := 4) rfl rfl rfl rfl rfl (Nat.le_of_ble_eq_true rfl) oo_X6_lead (gG_at a2k) (sf_lead6 L ys (d + 3) s0 hT0 a2 a2k ) (fun z1 s2 hr => ?_)
  obtain ⟨hT2, hG2, z1l, z1h, p2_0⟩ := hr
  have hF2 := fr_trans hF0 hG2 (by decide)
  refine ir_s2 (pc' := 5) rfl rfl rfl rfl rfl rfl ?_
  refine ir_l (pc' := 6) rfl rfl rfl rfl rfl rfl ?_
  refine ir_l (pc' := 7) rfl rfl rfl rfl rfl rfl ?_
  refine ir_tgj (pc' := 10) rfl rfl rfl tf_23_4 a1k hT2 (fun z3 z3e z3l z3h => ?_)
  refine ir_jjA (pc' := 11) rfl rfl rfl rfl (fun z4 z4l z4h => ?_)
  refine ir_l (pc' := 12) rfl rfl rfl rfl rfl rfl ?_
  refine ir_l (pc' := 13) rfl rfl rfl rfl rfl rfl ?_
  refine ir_tgj (pc' := 16) rfl rfl rfl tf_23_5 a1k hT2 (fun z5 z5e z5l z5h => ?_)
  refine ir_k (pc' := 17) (v := (1, 1)) rfl rfl rfl (fun _ => rfl) ?_
  refine ir_jjA (pc' := 18) rfl rfl rfl rfl (fun z6 z6l z6h => ?_)
  refine ir_jjA (pc' := 19) rfl rfl rfl rfl (fun z7 z7l z7h => ?_)
  refine ir_k (pc' := 21) (v := (0, 32)) rfl rfl rfl (fun _ => rfl) ?_
  refine ir_jijA (pc' := 22) rfl rfl rfl rfl (fun z8 z8l z8h => ?_)
  refine ir_jjA (pc' := 23) rfl rfl rfl rfl (fun z9 z9l z9h => ?_)
  refine ir_s2 (pc' := 25) rfl rfl rfl rfl rfl rfl ?_
  refine ir_l (pc' := 27) rfl rfl rfl rfl rfl rfl ?_
  refine ir_l (pc' := 28) rfl rfl rfl rfl rfl rfl ?_
  refine ir_cSI (pc' := 31) rfl rfl rfl rfl rfl rfl (Nat.le_of_ble_eq_true rfl) (sf_gcd6 L ys (d + 2) s2 hT2 (z9) (by omega) (by omega) (z1) (by omega) (by omega) ) (fun z10 s11 hr => ?_)
  obtain ⟨hT11, hG11, z10l, z10h⟩ := hr
  have hF11 := fr_trans hF2 hG11 (by decide)
  have e12 : s11.1 a1 4 = z3 := (hG11.1 _ _ a1k 4 (by decide)).trans z3e
  have e13 : s11.1 a1 5 = z5 := (hG11.1 _ _ a1k 5 (by decide)).trans z5e
  refine ir_s2 (pc' := 33) rfl rfl rfl rfl rfl rfl ?_
  refine ir_l (pc' := 35) rfl rfl rfl rfl rfl rfl ?_
  refine ir_k (pc' := 36) (v := (1, 0)) rfl rfl rfl (fun _ => rfl) ?_
  refine ir_lcmp (pc' := 37) rfl rfl (by omega) (by omega) (by omega) (by omega) (fun z14 z14c => ?_)
  refine ir_z_ne (pt := 41) (pc' := 40) rfl rfl rfl (fun c15 => ?_) (fun c15 => ?_)
  · refine ir_l (pc' := 43) rfl rfl rfl rfl rfl rfl ?_
    refine ir_l (pc' := 45) rfl rfl rfl rfl rfl rfl ?_
    refine ir_jzA (pc' := 46) rfl rfl rfl rfl (by omega) (fun z16 z16l z16h => ?_)
    refine ir_s2 (pc' := 48) rfl rfl rfl rfl rfl rfl ?_
    refine ir_l (pc' := 49) rfl rfl rfl rfl rfl rfl ?_
    refine ir_l (pc' := 51) rfl rfl rfl rfl rfl rfl ?_
    refine ir_jzA (pc' := 52) rfl rfl rfl rfl (by omega) (fun z17 z17l z17h => ?_)
    refine ir_s2 (pc' := 54) rfl rfl rfl rfl rfl rfl ?_
    refine ir_l (pc' := 55) rfl rfl rfl rfl rfl rfl ?_
    refine ir_tgr (pc' := 58) rfl rfl rfl tf_10_4 tsk_10 hT11 (fun b18 b18e b18k => ?_)
    refine ir_l (pc' := 60) rfl rfl rfl rfl rfl rfl ?_
    refine ir_l (pc' := 62) rfl rfl rfl rfl rfl rfl ?_
    refine ir_lnegA (pc' := 63) rfl rfl (fun z19 z19l z19h => ?_)
    refine ir_cVV (pc' := 66) rfl rfl rfl rfl rfl (Nat.le_of_ble_eq_true rfl) oo_X6_setLinear (gG_at b18k) (sf_setLinear6 L ys (d + 2) s11 hT11 b18 b18k (z17) (by omega) (by omega) (z19) (by omega) (by omega) ) (fun s21 hr => ?_)
    obtain ⟨hT21, hG21⟩ := hr
    have hF21 := fr_trans hF11 hG21 (by decide)
    have e22 : s21.1 a1 4 = z3 := (hG21.1 _ _ a1k 4 (by decide)).trans e12
    have e23 : s21.1 a1 5 = z5 := (hG21.1 _ _ a1k 5 (by decide)).trans e13
    have e24 : s21.1 83 4 = ((b18 : Nat) : Int) := (hG21.1 _ _ tsk_10 4 (by decide)).trans b18e
    refine ir_l (pc' := 68) rfl rfl rfl rfl rfl rfl ?_
    refine ir_cSI (pc' := 71) rfl rfl rfl rfl rfl rfl (Nat.le_of_ble_eq_true rfl) (sf_absJ L ys (d + 3) s21 (z16) (by omega) (by omega)) (fun z25 s26 hr => ?_)
    obtain ⟨rfl, z25p0, z25p1, z25p2⟩ := hr
    refine ir_k (pc' := 74) (v := (1, 1000000000)) rfl rfl rfl (fun _ => rfl) ?_
    refine ir_lcmp (pc' := 75) rfl rfl (by omega) (by omega) (by omega) (by omega) (fun z27 z27c => ?_)
    refine ir_z_gt (pt := 116) (pc' := 78) rfl rfl rfl (fun c28 => ?_) (fun c28 => ?_)
    · refine ir_w [] trivial ?_
      exact J116 s21 hT21 hF21 b18 b18k e24
    · refine ir_l (pc' := 79) rfl rfl rfl rfl rfl rfl ?_
      refine ir_tgr (pc' := 82) rfl rfl rfl tf_10_0 tsk_10 hT21 (fun b29 b29e b29k => ?_)
      obtain rfl := tsg_11 b29k
      refine ir_tgr (pc' := 85) rfl rfl rfl tf_11_3 tsk_11 hT21 (fun b30 b30e b30k => ?_)
      obtain rfl := tsg_14 b30k
      refine ir_l (pc' := 86) rfl rfl rfl rfl rfl rfl ?_
      refine ir_l (pc' := 87) rfl rfl rfl rfl rfl rfl ?_
      refine ir_getR (pc' := 90) rfl rfl rfl (gG_at tsk_10) rfl e24 ?_
      refine ir_cVI (pc' := 93) rfl rfl rfl rfl rfl (Nat.le_of_ble_eq_true rfl) oo_X2_divide (gG_at tsk_14) (sf_divide2 L ys (d + 2) s21 hT21 a2 a2k b18 b18k ) (fun z31 s32 hr => ?_)
      obtain ⟨hT32, hG32, z31l, z31h⟩ := hr
      have hF32 := fr_trans hF21 hG32 (by decide)
      have e33 : s32.1 a1 4 = z3 := (hG32.1 _ _ a1k 4 (by decide)).trans e22
      have e34 : s32.1 a1 5 = z5 := (hG32.1 _ _ a1k 5 (by decide)).trans e23
      have e35 : s32.1 83 4 = ((b18 : Nat) : Int) := (hG32.1 _ _ tsk_10 4 (by decide)).trans e24
      have e36 : s32.1 83 0 = ((84 : Nat) : Int) := (hG32.1 _ _ tsk_10 0 (by decide)).trans b29e
      have e37 : s32.1 84 3 = ((247 : Nat) : Int) := (hG32.1 _ _ tsk_11 3 (by decide)).trans b30e
      refine ir_z_eq (pt := 116) (pc' := 96) rfl rfl rfl (fun c38 => ?_) (fun c38 => ?_)
      · refine ir_w [] trivial ?_
        exact J116 s32 hT32 hF32 b18 b18k e35
      · refine ir_l (pc' := 97) rfl rfl rfl rfl rfl rfl ?_
        refine ir_l (pc' := 98) rfl rfl rfl rfl rfl rfl ?_
        refine ir_l (pc' := 100) rfl rfl rfl rfl rfl rfl ?_
        refine ir_l (pc' := 102) rfl rfl rfl rfl rfl rfl ?_
        refine ir_cVI (pc' := 105) rfl rfl rfl rfl rfl (Nat.le_of_ble_eq_true rfl) oo_X3_sideOf (gG_at tsk_10) (sf_sideOf3 L ys d s32 hT32 a1 a1k (z16) (by omega) (by omega) (z17) (by omega) (by omega) ) (fun z39 s40 hr => ?_)
        obtain ⟨hT40, hG40, z39l, z39h⟩ := hr
        have hF40 := fr_trans hF32 hG40 (by decide)
        have e41 : s40.1 a1 4 = z3 := (hG40.1 _ _ a1k 4 (by decide)).trans e33
        have e42 : s40.1 a1 5 = z5 := (hG40.1 _ _ a1k 5 (by decide)).trans e34
        have e43 : s40.1 83 4 = ((b18 : Nat) : Int) := (hG40.1 _ _ tsk_10 4 (by decide)).trans e35
        have e44 : s40.1 83 0 = ((84 : Nat) : Int) := (hG40.1 _ _ tsk_10 0 (by decide)).trans e36
        have e45 : s40.1 84 3 = ((247 : Nat) : Int) := (hG40.1 _ _ tsk_11 3 (by decide)).trans e37
        refine ir_z_ne (pt := 116) (pc' := 108) rfl rfl rfl (fun c46 => ?_) (fun c46 => ?_)
        · refine ir_w [] trivial ?_
          exact J116 s40 hT40 hF40 b18 b18k e43
        · refine ir_l (pc' := 109) rfl rfl rfl rfl rfl rfl ?_
          refine ir_l (pc' := 111) rfl rfl rfl rfl rfl rfl ?_
          refine ir_l (pc' := 113) rfl rfl rfl rfl rfl rfl ?_
          refine ir_cVV (pc' := 116) rfl rfl rfl rfl rfl (Nat.le_of_ble_eq_true rfl) oo_X8_setFraction (gG_at a1k) (sf_setFraction8 L ys (d + 2) s40 hT40 a1 a1k (z16) (by omega) (by omega) (z17) (by omega) (by omega) ) (fun s48 hr => ?_)
          obtain ⟨hT48, hG48⟩ := hr
          have hF48 := fr_trans hF40 hG48 (by decide)
          have e49 : s48.1 83 4 = ((b18 : Nat) : Int) := (hG48.1 _ _ tsk_10 4 (by decide)).trans e43
          have e50 : s48.1 83 0 = ((84 : Nat) : Int) := (hG48.1 _ _ tsk_10 0 (by decide)).trans e44
          have e51 : s48.1 84 3 = ((247 : Nat) : Int) := (hG48.1 _ _ tsk_11 3 (by decide)).trans e45
          refine ir_w [] trivial ?_
          exact J116 s48 hT48 hF48 b18 b18k e49
  · exact ir_vret rfl rfl ⟨rfl, hT11, hF11⟩
theorem sf_settle3 (L : Nat) (ys : Nat → Int32) (d : Nat) (s0 : im_S) (hT0 : tI s0) (a1 : Nat) (a1k : gK[a1]? = some 23) (x2 : Int) (x2l : 0 ≤ x2) (x2h : x2 ≤ 79) : icV gG rm_P L ys (d + 6) 142 [(2, ((83 : Nat) : Int)), (2, (a1 : Int)), (0, x2)] s0 (fun s => tI s ∧ fr [(4, 0), (10, 13), (10, 14), (10, 15), (10, 16), (11, 2), (19, 1), (19, 2), (23, 0), (23, 1), (23, 2), (23, 3), (23, 4), (23, 5), (23, 7), (23, 8), (25, 1), (25, 2)] s0 s) := by
  refine ic_startM (M := rm_p_X3_settle) om_X3_settle (Nat.le_of_ble_eq_true rfl) ?_
  refine ir_w [(0, (2, ((83 : Nat) : Int))), (1, (2, ((a1 : Nat) : Int))), (2, (0, x2))] ⟨rfl, rfl, rfl, trivial⟩ ?_
  have hF0 := fr_refl [(4, 0), (10, 13), (10, 14), (10, 15), (10, 16), (11, 2), (19, 1), (19, 2), (23, 0), (23, 1), (23, 2), (23, 3), (23, 4), (23, 5), (23, 7), (23, 8), (25, 1), (25, 2)] s0
  have J68 : ∀ (s_68 : im_S) (hT_68 : tI s_68) (hF_68 : fr [(4, 0), (10, 13), (10, 14), (10, 15), (10, 16), (11, 2), (19, 1), (19, 2), (23, 0), (23, 1), (23, 2), (23, 3), (23, 4), (23, 5), (23, 7), (23, 8), (25, 1), (25, 2)] s0 s_68) (w68_83_0e : s_68.1 83 0 = ((84 : Nat) : Int)) (w68_84_0e : s_68.1 84 0 = ((85 : Nat) : Int)) (w68_a1_1 : Int) (w68_a1_1l : 0 ≤ w68_a1_1) (w68_a1_1h : w68_a1_1 ≤ 1) (w68_a1_1e : s_68.1 a1 1 = w68_a1_1), ir gG rm_P L ys (d + 5) rm_p_X3_settle (68, [], [], s_68) (fun r : im_Re => r.1 = none ∧ (tI r.2 ∧ fr [(4, 0), (10, 13), (10, 14), (10, 15), (10, 16), (11, 2), (19, 1), (19, 2), (23, 0), (23, 1), (23, 2), (23, 3), (23, 4), (23, 5), (23, 7), (23, 8), (25, 1), (25, 2)] s0 r.2)) := by
    intro s_68 hT_68 hF_68 w68_83_0e w68_84_0e w68_a1_1 w68_a1_1l w68_a1_1h w68_a1_1e
    exact ir_vret rfl rfl ⟨rfl, hT_68, hF_68⟩
  have J55 : ∀ (s_55 : im_S) (hT_55 : tI s_55) (hF_55 : fr [(4, 0), (10, 13), (10, 14), (10, 15), (10, 16), (11, 2), (19, 1), (19, 2), (23, 0), (23, 1), (23, 2), (23, 3), (23, 4), (23, 5), (23, 7), (23, 8), (25, 1), (25, 2)] s0 s_55) (w55_83_0e : s_55.1 83 0 = ((84 : Nat) : Int)) (w55_84_0e : s_55.1 84 0 = ((85 : Nat) : Int)) (w55_a1_0 : Int) (w55_a1_0l : 0 ≤ w55_a1_0) (w55_a1_0h : w55_a1_0 ≤ 79) (w55_a1_0e : s_55.1 a1 0 = w55_a1_0), ir gG rm_P L ys (d + 5) rm_p_X3_settle (55, [(0, (2, ((83 : Nat) : Int))), (1, (2, ((a1 : Nat) : Int))), (2, (0, x2))], [], s_55) (fun r : im_Re => r.1 = none ∧ (tI r.2 ∧ fr [(4, 0), (10, 13), (10, 14), (10, 15), (10, 16), (11, 2), (19, 1), (19, 2), (23, 0), (23, 1), (23, 2), (23, 3), (23, 4), (23, 5), (23, 7), (23, 8), (25, 1), (25, 2)] s0 r.2)) := by
    intro s_55 hT_55 hF_55 w55_83_0e w55_84_0e w55_a1_0 w55_a1_0l w55_a1_0h w55_a1_0e
    refine ir_l (pc' := 56) rfl rfl rfl rfl rfl rfl ?_
    refine ir_tgi (pc' := 59) rfl rfl rfl tf_23_1 a1k hT_55 (fun z1 z1e z1l z1h => ?_)
    refine ir_z_eq (pt := 68) (pc' := 62) rfl rfl rfl (fun c2 => ?_) (fun c2 => ?_)
    · refine ir_w [] trivial ?_
      exact J68 s_55 hT_55 hF_55 w55_83_0e w55_84_0e (z1) (by omega) (by omega) z1e
    · refine ir_l (pc' := 63) rfl rfl rfl rfl rfl rfl ?_
      refine ir_l (pc' := 64) rfl rfl rfl rfl rfl rfl ?_
      refine ir_l (pc' := 65) rfl rfl rfl rfl rfl rfl ?_
      refine ir_cVV (pc' := 68) rfl rfl rfl rfl rfl (Nat.le_of_ble_eq_true rfl) oo_X3_giveOwnPiece (gG_at tsk_10) (sf_giveOwnPiece3 L ys (d + 1) s_55 hT_55 a1 a1k (x2) (by omega) (by omega) ) (fun s4 hr => ?_)
      obtain ⟨hT4, hG4⟩ := hr
      have hF4 := fr_trans hF_55 hG4 (by decide)
      have e5 : s4.1 83 0 = ((84 : Nat) : Int) := (hG4.1 _ _ tsk_10 0 (by decide)).trans w55_83_0e
      have e6 : s4.1 84 0 = ((85 : Nat) : Int) := (hG4.1 _ _ tsk_11 0 (by decide)).trans w55_84_0e
      have e7 : s4.1 a1 1 = z1 := (hG4.1 _ _ a1k 1 (by decide)).trans z1e
      refine ir_w [] trivial ?_
      exact J68 s4 hT4 hF4 e5 e6 (z1) (by omega) (by omega) e7
  refine ir_l (pc' := 1) rfl rfl rfl rfl rfl rfl ?_
  refine ir_l (pc' := 2) rfl rfl rfl rfl rfl rfl ?_
  refine ir_tpi (pc' := 5) rfl rfl rfl tf_23_0 rfl a1k hT0 rfl (by omega) (by omega) (fun s8 hT8 e8 g8 r8 => ?_)
  have hF8 := fr_put (k := 23) hF0 (by decide) a1k g8 r8
  refine ir_l (pc' := 6) rfl rfl rfl rfl rfl rfl ?_
  refine ir_l (pc' := 7) rfl rfl rfl rfl rfl rfl ?_
  refine ir_l (pc' := 8) rfl rfl rfl rfl rfl rfl ?_
  refine ir_tgr (pc' := 11) rfl rfl rfl tf_10_0 tsk_10 hT8 (fun b9 b9e b9k => ?_)
  obtain rfl := tsg_11 b9k
  refine ir_tgr (pc' := 14) rfl rfl rfl tf_11_0 tsk_11 hT8 (fun b10 b10e b10k => ?_)
  obtain rfl := tsg_12 b10k
  refine ir_l (pc' := 15) rfl rfl rfl rfl rfl rfl ?_
  refine ir_taa (pc' := 16) (k2 := 4) rfl rfl te_12 (by decide) tsk_12 hT8 (by omega) (by omega) (fun b11 b11k => ?_)
  refine ir_k (pc' := 18) (v := (0, 32)) rfl rfl rfl (fun _ => rfl) ?_
  refine ir_cVV (pc' := 21) rfl rfl rfl rfl rfl (Nat.le_of_ble_eq_true rfl) oo_X3_tighten (gG_at tsk_10) (sf_tighten3 L ys d s8 hT8 a1 a1k b11 b11k (32) (by omega) (by omega) ) (fun s13 hr => ?_)
  obtain ⟨hT13, hG13⟩ := hr
  have hF13 := fr_trans hF8 hG13 (by decide)
  have e14 : s13.1 a1 0 = x2 := (hG13.1 _ _ a1k 0 (by decide)).trans e8
  have e15 : s13.1 83 0 = ((84 : Nat) : Int) := (hG13.1 _ _ tsk_10 0 (by decide)).trans b9e
  have e16 : s13.1 84 0 = ((85 : Nat) : Int) := (hG13.1 _ _ tsk_11 0 (by decide)).trans b10e
  refine ir_l (pc' := 22) rfl rfl rfl rfl rfl rfl ?_
  refine ir_tgi (pc' := 25) rfl rfl rfl tf_23_1 a1k hT13 (fun z17 z17e z17l z17h => ?_)
  refine ir_z_eq (pt := 36) (pc' := 28) rfl rfl rfl (fun c18 => ?_) (fun c18 => ?_)
  · refine ir_l (pc' := 37) rfl rfl rfl rfl rfl rfl ?_
    refine ir_l (pc' := 38) rfl rfl rfl rfl rfl rfl ?_
    refine ir_cVV (pc' := 41) rfl rfl rfl rfl rfl (Nat.le_of_ble_eq_true rfl) oo_X3_readParts (gG_at tsk_10) (sf_readParts3 L ys (d + 1) s13 hT13 a1 a1k ) (fun s20 hr => ?_)
    obtain ⟨hT20, hG20⟩ := hr
    have hF20 := fr_trans hF13 hG20 (by decide)
    have e21 : s20.1 a1 0 = x2 := (hG20.1 _ _ a1k 0 (by decide)).trans e14
    have e22 : s20.1 83 0 = ((84 : Nat) : Int) := (hG20.1 _ _ tsk_10 0 (by decide)).trans e15
    have e23 : s20.1 84 0 = ((85 : Nat) : Int) := (hG20.1 _ _ tsk_11 0 (by decide)).trans e16
    have e24 : s20.1 a1 1 = z17 := (hG20.1 _ _ a1k 1 (by decide)).trans z17e
    refine ir_l (pc' := 42) rfl rfl rfl rfl rfl rfl ?_
    refine ir_l (pc' := 43) rfl rfl rfl rfl rfl rfl ?_
    refine ir_l (pc' := 44) rfl rfl rfl rfl rfl rfl ?_
    refine ir_getR (pc' := 47) rfl rfl rfl (gG_at tsk_10) rfl e22 ?_
    refine ir_getR (pc' := 50) rfl rfl rfl (gG_at tsk_11) rfl e23 ?_
    refine ir_l (pc' := 51) rfl rfl rfl rfl rfl rfl ?_
    refine ir_taa (pc' := 52) (k2 := 4) rfl rfl te_12 (by decide) tsk_12 hT20 (by omega) (by omega) (fun b25 b25k => ?_)
    refine ir_cVV (pc' := 55) rfl rfl rfl rfl rfl (Nat.le_of_ble_eq_true rfl) oo_X3_tryFraction (gG_at tsk_10) (sf_tryFraction3 L ys d s20 hT20 a1 a1k b25 b25k ) (fun s27 hr => ?_)
    obtain ⟨hT27, hG27⟩ := hr
    have hF27 := fr_trans hF20 hG27 (by decide)
    have e28 : s27.1 a1 0 = x2 := (hG27.1 _ _ a1k 0 (by decide)).trans e21
    have e29 : s27.1 83 0 = ((84 : Nat) : Int) := (hG27.1 _ _ tsk_10 0 (by decide)).trans e22
    have e30 : s27.1 84 0 = ((85 : Nat) : Int) := (hG27.1 _ _ tsk_11 0 (by decide)).trans e23
    refine ir_w [(0, (2, ((83 : Nat) : Int))), (1, (2, ((a1 : Nat) : Int))), (2, (0, x2))] ⟨rfl, rfl, rfl, trivial⟩ ?_
    exact J55 s27 hT27 hF27 e29 e30 (x2) (by omega) (by omega) e28
  · refine ir_l (pc' := 29) rfl rfl rfl rfl rfl rfl ?_
    refine ir_l (pc' := 30) rfl rfl rfl rfl rfl rfl ?_
    refine ir_cVV (pc' := 33) rfl rfl rfl rfl rfl (Nat.le_of_ble_eq_true rfl) oo_X3_readBinary (gG_at tsk_10) (sf_readBinary3 L ys (d + 2) s13 hT13 a1 a1k ) (fun s32 hr => ?_)
    obtain ⟨hT32, hG32⟩ := hr
    have hF32 := fr_trans hF13 hG32 (by decide)
    have e33 : s32.1 a1 0 = x2 := (hG32.1 _ _ a1k 0 (by decide)).trans e14
    have e34 : s32.1 83 0 = ((84 : Nat) : Int) := (hG32.1 _ _ tsk_10 0 (by decide)).trans e15
    have e35 : s32.1 84 0 = ((85 : Nat) : Int) := (hG32.1 _ _ tsk_11 0 (by decide)).trans e16
    refine ir_goto (pc' := 55) rfl rfl ?_
    refine ir_w [(0, (2, ((83 : Nat) : Int))), (1, (2, ((a1 : Nat) : Int))), (2, (0, x2))] ⟨rfl, rfl, rfl, trivial⟩ ?_
    exact J55 s32 hT32 hF32 e34 e35 (x2) (by omega) (by omega) e33
theorem sf_reach5 (L : Nat) (ys : Nat → Int32) (d : Nat) (s0 : im_S) (hT0 : tI s0) (a0 : Nat) (a0k : gK[a0]? = some 4) : icI gG rm_P L ys 0 (d + 2) 168 [(2, (a0 : Int))] s0 (fun z s => tI s ∧ fr [] s0 s ∧ -32 ≤ z ∧ z ≤ 30) := by
  refine ic_startM (M := rm_p_X5_reach) om_X5_reach (Nat.le_of_ble_eq_true rfl) ?_
  refine ir_w [(0, (2, ((a0 : Nat) : Int)))] ⟨rfl, trivial⟩ ?_
  have hF0 := fr_refl [] s0
  have J16 : ∀ n : Nat, ∀ (q16_l1 : Int) (q16_l1l : -32 ≤ q16_l1) (q16_l1h : q16_l1 ≤ 2147483647) (q16_l2 : Int) (q16_l2l : -2147483648 ≤ q16_l2) (q16_l2h : q16_l2 ≤ 2147483647) (q16_l3 : Int) (q16_l3l : 1 ≤ q16_l3) (q16_l3h : q16_l3 ≤ 9) (s_16 : im_S) (hT_16 : tI s_16) (hF_16 : fr [] s0 s_16), (9 + 1 - q16_l3) ≤ (n : Int) → ir gG rm_P L ys (d + 1) rm_p_X5_reach (16, [(0, (2, ((a0 : Nat) : Int))), (1, (0, q16_l1)), (2, (0, q16_l2)), (3, (0, q16_l3))], [], s_16) (fun r : im_Re => ∃ z, r.1 = some (0, z) ∧ (tI r.2 ∧ fr [] s0 r.2 ∧ -32 ≤ z ∧ z ≤ 30)) := by
    intro n
    induction n with
    | zero => intro q16_l1 q16_l1l q16_l1h q16_l2 q16_l2l q16_l2h q16_l3 q16_l3l q16_l3h s_16 hT_16 hF_16 hr; exfalso; omega
    | succ n ih16 =>
      intro q16_l1 q16_l1l q16_l1h q16_l2 q16_l2l q16_l2h q16_l3 q16_l3l q16_l3h s_16 hT_16 hF_16 hr
      have J75 : ∀ (q75_l1 : Int) (q75_l1l : -32 ≤ q75_l1) (q75_l1h : q75_l1 ≤ 2147483647) (f75_3h : q16_l3 ≤ 8) (s_75 : im_S) (hT_75 : tI s_75) (hF_75 : fr [] s0 s_75) (w75_a0_0 : Int) (w75_a0_0l : 1 ≤ w75_a0_0) (w75_a0_0h : w75_a0_0 ≤ 8) (w75_a0_0e : s_75.1 a0 0 = w75_a0_0) (w75_a0_1 : Nat) (w75_a0_1k : gK[w75_a0_1]? = some 6) (w75_a0_1e : s_75.1 a0 1 = ((w75_a0_1 : Nat) : Int)), ir gG rm_P L ys (d + 1) rm_p_X5_reach (75, [(0, (2, ((a0 : Nat) : Int))), (1, (0, q75_l1)), (2, (0, q16_l2)), (3, (0, q16_l3))], [], s_75) (fun r : im_Re => ∃ z, r.1 = some (0, z) ∧ (tI r.2 ∧ fr [] s0 r.2 ∧ -32 ≤ z ∧ z ≤ 30)) := by
        intro q75_l1 q75_l1l q75_l1h f75_3h s_75 hT_75 hF_75 w75_a0_0 w75_a0_0l w75_a0_0h w75_a0_0e w75_a0_1 w75_a0_1k w75_a0_1e
        refine ir_inc (pc' := 78) rfl rfl rfl rfl rfl (by omega) (by omega) ?_
        refine ir_goto (pc' := 16) rfl rfl ?_
        refine ir_w [(0, (2, ((a0 : Nat) : Int))), (1, (0, q75_l1)), (2, (0, q16_l2)), (3, (0, (q16_l3 + 1)))] ⟨rfl, rfl, rfl, rfl, trivial⟩ ?_
        exact ih16 (q75_l1) (by omega) (by omega) (q16_l2) (by omega) (by omega) ((q16_l3 + 1)) (by omega) (by omega) s_75 hT_75 hF_75 (by omega)
      refine ir_l (pc' := 17) rfl rfl rfl rfl rfl rfl ?_
      refine ir_l (pc' := 18) rfl rfl rfl rfl rfl rfl ?_
      refine ir_tgi (pc' := 21) rfl rfl rfl tf_4_0 a0k hT_16 (fun z1 z1e z1l z1h => ?_)
      refine ir_c_gt (pt := 81) (pc' := 24) rfl rfl rfl (fun c2 => ?_) (fun c2 => ?_)
      · refine ir_l (pc' := 82) rfl rfl rfl rfl rfl rfl ?_
        refine ir_k (pc' := 84) (v := (0, 30)) rfl rfl rfl (fun _ => rfl) ?_
        refine ir_cSI (pc' := 87) rfl rfl rfl rfl rfl rfl (Nat.le_of_ble_eq_true rfl) (sf_min L ys d s_16 (q16_l1) (by omega) (by omega) (30) (by omega) (by omega)) (fun z3 s4 hr => ?_)
        obtain ⟨rfl, z3p0, z3p1, z3p2⟩ := hr
        exact ir_iret rfl rfl ⟨_, rfl, hT_16, hF_16, by omega, by omega⟩
      · refine ir_l (pc' := 25) rfl rfl rfl rfl rfl rfl ?_
        refine ir_tgr (pc' := 28) rfl rfl rfl tf_4_1 a0k hT_16 (fun b5 b5e b5k => ?_)
        refine ir_l (pc' := 29) rfl rfl rfl rfl rfl rfl ?_
        refine ir_getI (pc' := 32) rfl rfl rfl (gG_at a0k) rfl (by decide) (by decide) z1e (by omega) (by omega) ?_
        refine ir_l (pc' := 33) rfl rfl rfl rfl rfl rfl ?_
        refine ir_sub (pc' := 34) rfl rfl (by omega) (by omega) ?_
        refine ir_tla (pc' := 35) rfl rfl te_6 (by decide) b5k hT_16 (by omega) (by omega) (fun z6 z6e z6l z6h => ?_)
        clear z6e
        refine ir_cSI (pc' := 38) rfl rfl rfl rfl rfl rfl (Nat.le_of_ble_eq_true rfl) (sf_absJ L ys d s_16 (z6) (by omega) (by omega)) (fun z7 s8 hr => ?_)
        obtain ⟨rfl, z7p0, z7p1, z7p2⟩ := hr
        refine ir_s2 (pc' := 40) rfl rfl rfl rfl rfl rfl ?_
        refine ir_l (pc' := 42) rfl rfl rfl rfl rfl rfl ?_
        refine ir_k (pc' := 43) (v := (1, 0)) rfl rfl rfl (fun _ => rfl) ?_
        refine ir_lcmp (pc' := 44) rfl rfl (by omega) (by omega) (by omega) (by omega) (fun z9 z9c => ?_)
        refine ir_z_eq (pt := 75) (pc' := 47) rfl rfl rfl (fun c10 => ?_) (fun c10 => ?_)
        · refine ir_w [(0, (2, ((a0 : Nat) : Int))), (1, (0, q16_l1)), (2, (0, q16_l2)), (3, (0, q16_l3))] ⟨rfl, rfl, rfl, rfl, trivial⟩ ?_
          exact J75 (q16_l1) (by omega) (by omega) (by omega) s_16 hT_16 hF_16 (z1) (by omega) (by omega) z1e b5 b5k b5e
        · refine ir_l (pc' := 49) rfl rfl rfl rfl rfl rfl ?_
          refine ir_cSI (pc' := 52) rfl rfl rfl rfl rfl rfl (Nat.le_of_ble_eq_true rfl) (sf_width1 L ys d s_16 hT_16 (z7) (by omega) (by omega) ) (fun z11 s12 hr => ?_)
          obtain ⟨hT12, hG12, z11l, z11h⟩ := hr
          have hF12 := fr_trans hF_16 hG12 (by decide)
          have e13 : s12.1 a0 0 = z1 := (hG12.1 _ _ a0k 0 (by decide)).trans z1e
          have e14 : s12.1 a0 1 = ((b5 : Nat) : Int) := (hG12.1 _ _ a0k 1 (by decide)).trans b5e
          refine ir_l (pc' := 53) rfl rfl rfl rfl rfl rfl ?_
          refine ir_iiA (pc' := 54) rfl rfl rfl rfl (fun z15 z15l z15h => ?_)
          refine ir_k (pc' := 55) (v := (0, 1)) rfl rfl rfl (fun _ => rfl) ?_
          refine ir_iiA (pc' := 56) rfl rfl rfl rfl (fun z16 z16l z16h => ?_)
          refine ir_s (pc' := 58) rfl rfl rfl rfl rfl rfl ?_
          refine ir_l (pc' := 59) rfl rfl rfl rfl rfl rfl ?_
          refine ir_l (pc' := 61) rfl rfl rfl rfl rfl rfl ?_
          refine ir_l (pc' := 62) rfl rfl rfl rfl rfl rfl ?_
          refine ir_iiA (pc' := 63) rfl rfl rfl rfl (fun z17 z17l z17h => ?_)
          refine ir_k (pc' := 64) (v := (0, 1)) rfl rfl rfl (fun _ => rfl) ?_
          refine ir_iiA (pc' := 65) rfl rfl rfl rfl (fun z18 z18l z18h => ?_)
          refine ir_l (pc' := 66) rfl rfl rfl rfl rfl rfl ?_
          refine ir_cSI (pc' := 69) rfl rfl rfl rfl rfl rfl (Nat.le_of_ble_eq_true rfl) (sf_fdI L ys d s12 (z18) (by omega) (by omega) (q16_l3) (by omega) (by omega)) (fun z19 s20 hr => ?_)
          obtain ⟨rfl, z19p0, z19p1⟩ := hr
          refine ir_k (pc' := 70) (v := (0, 1)) rfl rfl rfl (fun _ => rfl) ?_
          refine ir_iiA (pc' := 71) rfl rfl rfl rfl (fun z21 z21l z21h => ?_)
          refine ir_cSI (pc' := 74) rfl rfl rfl rfl rfl rfl (Nat.le_of_ble_eq_true rfl) (sf_max L ys d s12 (q16_l1) (by omega) (by omega) (z21) (by omega) (by omega)) (fun z22 s23 hr => ?_)
          obtain ⟨rfl, z22p0, z22p1, z22p2⟩ := hr
          refine ir_s (pc' := 75) rfl rfl rfl rfl rfl rfl ?_
          refine ir_w [(0, (2, ((a0 : Nat) : Int))), (1, (0, z22)), (2, (0, q16_l2)), (3, (0, q16_l3))] ⟨rfl, rfl, rfl, rfl, trivial⟩ ?_
          exact J75 (z22) (by omega) (by omega) (by omega) s12 hT12 hF12 (z1) (by omega) (by omega) e13 b5 b5k e14
  refine ir_k (pc' := 2) (v := (0, (-32))) rfl rfl rfl (fun _ => rfl) ?_
  refine ir_s (pc' := 3) rfl rfl rfl rfl rfl rfl ?_
  refine ir_l (pc' := 4) rfl rfl rfl rfl rfl rfl ?_
  refine ir_cVI (pc' := 7) rfl rfl rfl rfl rfl (Nat.le_of_ble_eq_true rfl) oo_X6_lead (gG_at a0k) (sf_lead6 L ys d s0 hT0 a0 a0k ) (fun z24 s25 hr => ?_)
  obtain ⟨hT25, hG25, z24l, z24h, p25_0⟩ := hr
  have hF25 := fr_trans hF0 hG25 (by decide)
  refine ir_cSI (pc' := 10) rfl rfl rfl rfl rfl rfl (Nat.le_of_ble_eq_true rfl) (sf_absJ L ys d s25 (z24) (by omega) (by omega)) (fun z26 s27 hr => ?_)
  obtain ⟨rfl, z26p0, z26p1, z26p2⟩ := hr
  refine ir_cSI (pc' := 13) rfl rfl rfl rfl rfl rfl (Nat.le_of_ble_eq_true rfl) (sf_width1 L ys d s25 hT25 (z26) (by omega) (by omega) ) (fun z28 s29 hr => ?_)
  obtain ⟨hT29, hG29, z28l, z28h⟩ := hr
  have hF29 := fr_trans hF25 hG29 (by decide)
  refine ir_s (pc' := 14) rfl rfl rfl rfl rfl rfl ?_
  refine ir_k (pc' := 15) (v := (0, 1)) rfl rfl rfl (fun _ => rfl) ?_
  refine ir_s (pc' := 16) rfl rfl rfl rfl rfl rfl ?_
  refine ir_w [(0, (2, ((a0 : Nat) : Int))), (1, (0, (-32))), (2, (0, z28)), (3, (0, 1))] ⟨rfl, rfl, rfl, rfl, trivial⟩ ?_
  exact J16 _ ((-32)) (by omega) (by omega) (z28) (by omega) (by omega) (1) (by omega) (by omega) s29 hT29 hF29 (Int.self_le_toNat _)
theorem sf_set1_16 (L : Nat) (ys : Nat → Int32) (d : Nat) (s0 : im_S) (hT0 : tI s0) (a0 : Nat) (a0k : gK[a0]? = some 16) (x1 : Int) (x1l : -9223372036854775808 ≤ x1) (x1h : x1 ≤ 9223372036854775807) : icV gG rm_P L ys (d + 2) 115 [(2, (a0 : Int)), (1, x1)] s0 (fun s => tI s ∧ fr [(16, 1), (16, 2)] s0 s) := by
  refine ic_startM (M := rm_p_X1_set) om_X1_set (Nat.le_of_ble_eq_true rfl) ?_
  refine ir_w [(0, (2, ((a0 : Nat) : Int))), (1, (1, x1))] ⟨rfl, rfl, trivial⟩ ?_
  have hF0 := fr_refl [(16, 1), (16, 2)] s0
  have J62 : ∀ (s_62 : im_S) (hT_62 : tI s_62) (hF_62 : fr [(16, 1), (16, 2)] s0 s_62) (w62_a0_1 : Int) (w62_a0_1l : 0 ≤ w62_a0_1) (w62_a0_1h : w62_a0_1 ≤ 2) (w62_a0_1e : s_62.1 a0 1 = w62_a0_1) (w62_a0_2 : Int) (w62_a0_2l : -1 ≤ w62_a0_2) (w62_a0_2h : w62_a0_2 ≤ 1) (w62_a0_2e : s_62.1 a0 2 = w62_a0_2), ir gG rm_P L ys (d + 1) rm_p_X1_set (62, [], [], s_62) (fun r : im_Re => r.1 = none ∧ (tI r.2 ∧ fr [(16, 1), (16, 2)] s0 r.2)) := by
    intro s_62 hT_62 hF_62 w62_a0_1 w62_a0_1l w62_a0_1h w62_a0_1e w62_a0_2 w62_a0_2l w62_a0_2h w62_a0_2e
    exact ir_vret rfl rfl ⟨rfl, hT_62, hF_62⟩
  have J19 : ∀ n : Nat, ∀ (q19_l3 : Int) (q19_l3l : -9223372036854775808 ≤ q19_l3) (q19_l3h : q19_l3 ≤ 9223372036854775807) (s_19 : im_S) (hT_19 : tI s_19) (hF_19 : fr [(16, 1), (16, 2)] s0 s_19) (w19_a0_1 : Int) (w19_a0_1l : 0 ≤ w19_a0_1) (w19_a0_1h : w19_a0_1 ≤ 2) (w19_a0_1e : s_19.1 a0 1 = w19_a0_1) (w19_a0_2 : Int) (w19_a0_2l : -1 ≤ w19_a0_2) (w19_a0_2h : w19_a0_2 ≤ 1) (w19_a0_2e : s_19.1 a0 2 = w19_a0_2), (3 - w19_a0_1) ≤ (n : Int) → ir gG rm_P L ys (d + 1) rm_p_X1_set (19, [(0, (2, ((a0 : Nat) : Int))), (3, (1, q19_l3))], [], s_19) (fun r : im_Re => r.1 = none ∧ (tI r.2 ∧ fr [(16, 1), (16, 2)] s0 r.2)) := by
    intro n
    induction n with
    | zero => intro q19_l3 q19_l3l q19_l3h s_19 hT_19 hF_19 w19_a0_1 w19_a0_1l w19_a0_1h w19_a0_1e w19_a0_2 w19_a0_2l w19_a0_2h w19_a0_2e hr; exfalso; omega
    | succ n ih19 =>
      intro q19_l3 q19_l3l q19_l3h s_19 hT_19 hF_19 w19_a0_1 w19_a0_1l w19_a0_1h w19_a0_1e w19_a0_2 w19_a0_2l w19_a0_2h w19_a0_2e hr
      refine ir_l (pc' := 20) rfl rfl rfl rfl rfl rfl ?_
      refine ir_k (pc' := 21) (v := (1, 0)) rfl rfl rfl (fun _ => rfl) ?_
      refine ir_lcmp (pc' := 22) rfl rfl (by omega) (by omega) (by omega) (by omega) (fun z1 z1c => ?_)
      refine ir_z_eq (pt := 62) (pc' := 25) rfl rfl rfl (fun c2 => ?_) (fun c2 => ?_)
      · refine ir_w [] trivial ?_
        exact J62 s_19 hT_19 hF_19 (w19_a0_1) (by omega) (by omega) w19_a0_1e (w19_a0_2) (by omega) (by omega) w19_a0_2e
      · refine ir_l (pc' := 26) rfl rfl rfl rfl rfl rfl ?_
        refine ir_getI (pc' := 29) rfl rfl rfl (gG_at a0k) rfl (by decide) (by decide) w19_a0_1e (by omega) (by omega) ?_
        refine ir_k (pc' := 30) (v := (0, 2)) rfl rfl rfl (fun _ => rfl) ?_
        refine ir_c_ge (pt := 62) (pc' := 33) rfl rfl rfl (fun c3 => ?_) (fun c3 => ?_)
        · refine ir_w [] trivial ?_
          exact J62 s_19 hT_19 hF_19 (w19_a0_1) (by omega) (by omega) w19_a0_1e (w19_a0_2) (by omega) (by omega) w19_a0_2e
        · refine ir_l (pc' := 34) rfl rfl rfl rfl rfl rfl ?_
          refine ir_tgr (pc' := 37) rfl rfl rfl tf_16_0 a0k hT_19 (fun b4 b4e b4k => ?_)
          refine ir_l (pc' := 38) rfl rfl rfl rfl rfl rfl ?_
          refine ir_getI (pc' := 41) rfl rfl rfl (gG_at a0k) rfl (by decide) (by decide) w19_a0_1e (by omega) (by omega) ?_
          refine ir_l (pc' := 42) rfl rfl rfl rfl rfl rfl ?_
          refine ir_j1A (pc' := 43) rfl rfl rfl rfl (fun z5 z5e z5l z5h => ?_)
          clear z5e
          refine ir_tis (pc' := 44) rfl rfl rfl rfl te_18 b4k hT_19 (by omega) (by omega) (rfl) (by omega) (by omega) (fun s6 hT6 r6 o6 => ?_)
          have hF6 := fr_row hF_19 r6 o6
          have e7 : s6.1 a0 2 = w19_a0_2 := by rw [r6]; exact w19_a0_2e
          have e8 : s6.1 a0 1 = w19_a0_1 := by rw [r6]; exact w19_a0_1e
          have e9 : s6.1 a0 0 = ((b4 : Nat) : Int) := by rw [r6]; exact b4e
          refine ir_l (pc' := 45) rfl rfl rfl rfl rfl rfl ?_
          refine ir_x (pc' := 46) rfl rfl rfl (fun _ => rfl) ?_
          refine ir_getI (pc' := 49) rfl rfl rfl (gG_at a0k) rfl (by decide) (by decide) e8 (by omega) (by omega) ?_
          refine ir_k (pc' := 50) (v := (0, 1)) rfl rfl rfl (fun _ => rfl) ?_
          refine ir_add (pc' := 51) rfl rfl (by omega) (by omega) ?_
          refine ir_tpi (pc' := 54) rfl rfl rfl tf_16_1 rfl a0k hT6 rfl (by omega) (by omega) (fun s10 hT10 e10 g10 r10 => ?_)
          have hF10 := fr_put (k := 16) hF6 (by decide) a0k g10 r10
          have e11 : s10.1 a0 2 = w19_a0_2 := (g10 a0 2 (fun z => absurd z.2 (by decide))).trans e7
          have e12 : s10.1 a0 0 = ((b4 : Nat) : Int) := (g10 a0 0 (fun z => absurd z.2 (by decide))).trans e9
          refine ir_l (pc' := 55) rfl rfl rfl rfl rfl rfl ?_
          refine ir_k (pc' := 57) (v := (0, 32)) rfl rfl rfl (fun _ => rfl) ?_
          refine ir_jijA (pc' := 58) rfl rfl rfl rfl (fun z13 z13l z13h => ?_)
          refine ir_s2 (pc' := 59) rfl rfl rfl rfl rfl rfl ?_
          refine ir_goto (pc' := 19) rfl rfl ?_
          refine ir_w [(0, (2, ((a0 : Nat) : Int))), (3, (1, z13))] ⟨rfl, rfl, trivial⟩ ?_
          exact ih19 (z13) (by omega) (by omega) s10 hT10 hF10 ((w19_a0_1 + 1)) (by omega) (by omega) e10 (w19_a0_2) (by omega) (by omega) e11 (by omega)
  refine ir_l (pc' := 1) rfl rfl rfl rfl rfl rfl ?_
  refine ir_l (pc' := 2) rfl rfl rfl rfl rfl rfl ?_
  refine ir_k (pc' := 3) (v := (1, 0)) rfl rfl rfl (fun _ => rfl) ?_
  refine ir_cSI (pc' := 6) rfl rfl rfl rfl rfl rfl (Nat.le_of_ble_eq_true rfl) (sf_cmpJ L ys d s0 (x1) (by omega) (by omega) (0) (by omega) (by omega)) (fun z14 s15 hr => ?_)
  obtain ⟨rfl, z14p0, z14p1⟩ := hr
  refine ir_tpi (pc' := 9) rfl rfl rfl tf_16_2 rfl a0k hT0 rfl (by omega) (by omega) (fun s16 hT16 e16 g16 r16 => ?_)
  have hF16 := fr_put (k := 16) hF0 (by decide) a0k g16 r16
  refine ir_l (pc' := 10) rfl rfl rfl rfl rfl rfl ?_
  refine ir_k (pc' := 11) (v := (0, 0)) rfl rfl rfl (fun _ => rfl) ?_
  refine ir_tpi (pc' := 14) rfl rfl rfl tf_16_1 rfl a0k hT16 rfl (by omega) (by omega) (fun s17 hT17 e17 g17 r17 => ?_)
  have hF17 := fr_put (k := 16) hF16 (by decide) a0k g17 r17
  have e18 : s17.1 a0 2 = z14 := (g17 a0 2 (fun z => absurd z.2 (by decide))).trans e16
  refine ir_l (pc' := 15) rfl rfl rfl rfl rfl rfl ?_
  refine ir_cSI (pc' := 18) rfl rfl rfl rfl rfl rfl (Nat.le_of_ble_eq_true rfl) (sf_absJ L ys d s17 (x1) (by omega) (by omega)) (fun z19 s20 hr => ?_)
  obtain ⟨rfl, z19p0, z19p1, z19p2⟩ := hr
  refine ir_s2 (pc' := 19) rfl rfl rfl rfl rfl rfl ?_
  refine ir_w [(0, (2, ((a0 : Nat) : Int))), (3, (1, z19))] ⟨rfl, rfl, trivial⟩ ?_
  exact J19 _ (z19) (by omega) (by omega) s17 hT17 hF17 (0) (by omega) (by omega) e17 (z14) (by omega) (by omega) e18 (Int.self_le_toNat _)
theorem sf_copy1_16_16 (L : Nat) (ys : Nat → Int32) (d : Nat) (s0 : im_S) (hT0 : tI s0) (a0 : Nat) (a0k : gK[a0]? = some 16) (a1 : Nat) (a1k : gK[a1]? = some 16) : icV gG rm_P L ys (d + 2) 111 [(2, (a0 : Int)), (2, (a1 : Int))] s0 (fun s => tI s ∧ fr [(16, 1), (16, 2)] s0 s) := by
  refine ic_startM (M := rm_p_X1_copy) om_X1_copy (Nat.le_of_ble_eq_true rfl) ?_
  refine ir_w [(0, (2, ((a0 : Nat) : Int))), (1, (2, ((a1 : Nat) : Int)))] ⟨rfl, rfl, trivial⟩ ?_
  have hF0 := fr_refl [(16, 1), (16, 2)] s0
  refine ir_l (pc' := 1) rfl rfl rfl rfl rfl rfl ?_
  refine ir_l (pc' := 2) rfl rfl rfl rfl rfl rfl ?_
  refine ir_tgi (pc' := 5) rfl rfl rfl tf_16_1 a1k hT0 (fun z1 z1e z1l z1h => ?_)
  refine ir_l (pc' := 6) rfl rfl rfl rfl rfl rfl ?_
  refine ir_tgr (pc' := 9) rfl rfl rfl tf_16_0 a0k hT0 (fun b2 b2e b2k => ?_)
  refine ir_tlen (pc' := 10) rfl rfl te_18 (by decide) b2k ?_
  refine ir_cSI (pc' := 13) rfl rfl rfl rfl rfl rfl (Nat.le_of_ble_eq_true rfl) (sf_min L ys d s0 (z1) (by omega) (by omega) (((80 : Nat) : Int)) (by omega) (by omega)) (fun z3 s4 hr => ?_)
  obtain ⟨rfl, z3p0, z3p1, z3p2⟩ := hr
  refine ir_tpi (pc' := 16) rfl rfl rfl tf_16_1 rfl a0k hT0 rfl (by omega) (by omega) (fun s5 hT5 e5 g5 r5 => ?_)
  have hF5 := fr_put (k := 16) hF0 (by decide) a0k g5 r5
  have e6 : s5.1 a0 0 = ((b2 : Nat) : Int) := (g5 a0 0 (fun z => absurd z.2 (by decide))).trans b2e
  refine ir_l (pc' := 17) rfl rfl rfl rfl rfl rfl ?_
  refine ir_tgr (pc' := 20) rfl rfl rfl tf_16_0 a1k hT5 (fun b7 b7e b7k => ?_)
  refine ir_k (pc' := 21) (v := (0, 0)) rfl rfl rfl (fun _ => rfl) ?_
  refine ir_l (pc' := 22) rfl rfl rfl rfl rfl rfl ?_
  refine ir_getR (pc' := 25) rfl rfl rfl (gG_at a0k) rfl e6 ?_
  refine ir_k (pc' := 26) (v := (0, 0)) rfl rfl rfl (fun _ => rfl) ?_
  refine ir_l (pc' := 27) rfl rfl rfl rfl rfl rfl ?_
  refine ir_getI (pc' := 30) rfl rfl rfl (gG_at a0k) rfl (by decide) (by decide) e5 (by omega) (by omega) ?_
  refine ir_tcp (pc' := 33) rfl rfl rfl te_18 te_18 b7k b2k hT5 (by omega) (by omega) (by omega) (by omega) (by omega) (Nat.le_of_ble_eq_true rfl) (fun s8 hT8 r8 o8 => ?_)
  have hF8 := fr_row hF5 r8 o8
  have e9 : s8.1 a0 0 = ((b2 : Nat) : Int) := by rw [r8]; exact e6
  have e10 : s8.1 a0 1 = z3 := by rw [r8]; exact e5
  have e11 : s8.1 a1 0 = ((b7 : Nat) : Int) := by rw [r8]; exact b7e
  refine ir_l (pc' := 34) rfl rfl rfl rfl rfl rfl ?_
  refine ir_l (pc' := 35) rfl rfl rfl rfl rfl rfl ?_
  refine ir_tgi (pc' := 38) rfl rfl rfl tf_16_2 a1k hT8 (fun z12 z12e z12l z12h => ?_)
  refine ir_tpi (pc' := 41) rfl rfl rfl tf_16_2 rfl a0k hT8 rfl (by omega) (by omega) (fun s13 hT13 e13 g13 r13 => ?_)
  have hF13 := fr_put (k := 16) hF8 (by decide) a0k g13 r13
  have e14 : s13.1 a0 0 = ((b2 : Nat) : Int) := (g13 a0 0 (fun z => absurd z.2 (by decide))).trans e9
  have e15 : s13.1 a0 1 = z3 := (g13 a0 1 (fun z => absurd z.2 (by decide))).trans e10
  have e16 : s13.1 a1 0 = ((b7 : Nat) : Int) := (g13 a1 0 (fun z => absurd z.2 (by decide))).trans e11
  exact ir_vret rfl rfl ⟨rfl, hT13, hF13⟩
theorem sf_grow1_16_16 (L : Nat) (ys : Nat → Int32) (d : Nat) (s0 : im_S) (hT0 : tI s0) (a0 : Nat) (a0k : gK[a0]? = some 16) (a1 : Nat) (a1k : gK[a1]? = some 16) : icV gG rm_P L ys (d + 2) 112 [(2, (a0 : Int)), (2, (a1 : Int))] s0 (fun s => tI s ∧ fr [(16, 1)] s0 s) := by
  refine ic_startM (M := rm_p_X1_grow) om_X1_grow (Nat.le_of_ble_eq_true rfl) ?_
  refine ir_w [(0, (2, ((a0 : Nat) : Int))), (1, (2, ((a1 : Nat) : Int)))] ⟨rfl, rfl, trivial⟩ ?_
  have hF0 := fr_refl [(16, 1)] s0
  have J179 : ∀ (s_179 : im_S) (hT_179 : tI s_179) (hF_179 : fr [(16, 1)] s0 s_179) (w179_a0_0 : Nat) (w179_a0_0k : gK[w179_a0_0]? = some 18) (w179_a0_0e : s_179.1 a0 0 = ((w179_a0_0 : Nat) : Int)) (w179_a0_1 : Int) (w179_a0_1l : 0 ≤ w179_a0_1) (w179_a0_1h : w179_a0_1 ≤ 80) (w179_a0_1e : s_179.1 a0 1 = w179_a0_1), ir gG rm_P L ys (d + 1) rm_p_X1_grow (179, [], [], s_179) (fun r : im_Re => r.1 = none ∧ (tI r.2 ∧ fr [(16, 1)] s0 r.2)) := by
    intro s_179 hT_179 hF_179 w179_a0_0 w179_a0_0k w179_a0_0e w179_a0_1 w179_a0_1l w179_a0_1h w179_a0_1e
    exact ir_vret rfl rfl ⟨rfl, hT_179, hF_179⟩
  have J100 : ∀ n : Nat, ∀ (q100_l2 : Int) (q100_l2l : -9223372036854775808 ≤ q100_l2) (q100_l2h : q100_l2 ≤ 9223372036854775807) (q100_l5 : Int) (q100_l5l : 0 ≤ q100_l5) (q100_l5h : q100_l5 ≤ 80) (s_100 : im_S) (hT_100 : tI s_100) (hF_100 : fr [(16, 1)] s0 s_100) (w100_a0_0 : Nat) (w100_a0_0k : gK[w100_a0_0]? = some 18) (w100_a0_0e : s_100.1 a0 0 = ((w100_a0_0 : Nat) : Int)) (w100_a0_1 : Int) (w100_a0_1l : 0 ≤ w100_a0_1) (w100_a0_1h : w100_a0_1 ≤ 80) (w100_a0_1e : s_100.1 a0 1 = w100_a0_1), (80 + 1 - q100_l5) ≤ (n : Int) → ir gG rm_P L ys (d + 1) rm_p_X1_grow (100, [(0, (2, ((a0 : Nat) : Int))), (2, (1, q100_l2)), (5, (0, q100_l5))], [], s_100) (fun r : im_Re => r.1 = none ∧ (tI r.2 ∧ fr [(16, 1)] s0 r.2)) := by
    intro n
    induction n with
    | zero => intro q100_l2 q100_l2l q100_l2h q100_l5 q100_l5l q100_l5h s_100 hT_100 hF_100 w100_a0_0 w100_a0_0k w100_a0_0e w100_a0_1 w100_a0_1l w100_a0_1h w100_a0_1e hr; exfalso; omega
    | succ n ih100 =>
      intro q100_l2 q100_l2l q100_l2h q100_l5 q100_l5l q100_l5h s_100 hT_100 hF_100 w100_a0_0 w100_a0_0k w100_a0_0e w100_a0_1 w100_a0_1l w100_a0_1h w100_a0_1e hr
      have J142 : ∀ (q142_s0 : Int) (q142_s0l : -9223372036854775808 ≤ q142_s0) (q142_s0h : q142_s0 ≤ 9223372036854775807) (q142_s0n : q142_s0 ≠ 0) (q142_s1 : Int) (q142_s1l : 0 ≤ q142_s1) (q142_s1h : q142_s1 ≤ 4294967295) (f142_5h : q100_l5 ≤ 79) (s_142 : im_S) (hT_142 : tI s_142) (hF_142 : fr [(16, 1)] s0 s_142) (w142_a0_0 : Nat) (w142_a0_0k : gK[w142_a0_0]? = some 18) (w142_a0_0e : s_142.1 a0 0 = ((w142_a0_0 : Nat) : Int)) (w142_a0_1 : Int) (w142_a0_1l : 0 ≤ w142_a0_1) (w142_a0_1h : w142_a0_1 ≤ 80) (w142_a0_1e : s_142.1 a0 1 = w142_a0_1), ir gG rm_P L ys (d + 1) rm_p_X1_grow (142, [(0, (2, ((a0 : Nat) : Int))), (5, (0, q100_l5))], [(1, q142_s1), (1, q142_s0)], s_142) (fun r : im_Re => r.1 = none ∧ (tI r.2 ∧ fr [(16, 1)] s0 r.2)) := by
        intro q142_s0 q142_s0l q142_s0h q142_s0n q142_s1 q142_s1l q142_s1h f142_5h s_142 hT_142 hF_142 w142_a0_0 w142_a0_0k w142_a0_0e w142_a0_1 w142_a0_1l w142_a0_1h w142_a0_1e
        refine ir_jjA (pc' := 143) rfl rfl rfl rfl (fun z1 z1l z1h => ?_)
        refine ir_s2 (pc' := 144) rfl rfl rfl rfl rfl rfl ?_
        refine ir_l (pc' := 145) rfl rfl rfl rfl rfl rfl ?_
        refine ir_getR (pc' := 148) rfl rfl rfl (gG_at a0k) rfl w142_a0_0e ?_
        refine ir_l (pc' := 150) rfl rfl rfl rfl rfl rfl ?_
        refine ir_l (pc' := 151) rfl rfl rfl rfl rfl rfl ?_
        refine ir_j1A (pc' := 152) rfl rfl rfl rfl (fun z2 z2e z2l z2h => ?_)
        clear z2e
        refine ir_tis (pc' := 153) rfl rfl rfl rfl te_18 w142_a0_0k hT_142 (by omega) (by omega) (rfl) (by omega) (by omega) (fun s3 hT3 r3 o3 => ?_)
        have hF3 := fr_row hF_142 r3 o3
        have e4 : s3.1 a0 0 = ((w142_a0_0 : Nat) : Int) := by rw [r3]; exact w142_a0_0e
        have e5 : s3.1 a0 1 = w142_a0_1 := by rw [r3]; exact w142_a0_1e
        refine ir_l (pc' := 154) rfl rfl rfl rfl rfl rfl ?_
        refine ir_k (pc' := 156) (v := (0, 32)) rfl rfl rfl (fun _ => rfl) ?_
        refine ir_jijA (pc' := 157) rfl rfl rfl rfl (fun z6 z6l z6h => ?_)
        refine ir_s2 (pc' := 158) rfl rfl rfl rfl rfl rfl ?_
        refine ir_l (pc' := 159) rfl rfl rfl rfl rfl rfl ?_
        refine ir_l (pc' := 160) rfl rfl rfl rfl rfl rfl ?_
        refine ir_getI (pc' := 163) rfl rfl rfl (gG_at a0k) rfl (by decide) (by decide) e5 (by omega) (by omega) ?_
        refine ir_l (pc' := 165) rfl rfl rfl rfl rfl rfl ?_
        refine ir_k (pc' := 166) (v := (0, 1)) rfl rfl rfl (fun _ => rfl) ?_
        refine ir_add (pc' := 167) rfl rfl (by omega) (by omega) ?_
        refine ir_cSI (pc' := 170) rfl rfl rfl rfl rfl rfl (Nat.le_of_ble_eq_true rfl) (sf_max L ys d s3 (w142_a0_1) (by omega) (by omega) ((q100_l5 + 1)) (by omega) (by omega)) (fun z7 s8 hr => ?_)
        obtain ⟨rfl, z7p0, z7p1, z7p2⟩ := hr
        refine ir_tpi (pc' := 173) rfl rfl rfl tf_16_1 rfl a0k hT3 rfl (by omega) (by omega) (fun s9 hT9 e9 g9 r9 => ?_)
        have hF9 := fr_put (k := 16) hF3 (by decide) a0k g9 r9
        have e10 : s9.1 a0 0 = ((w142_a0_0 : Nat) : Int) := (g9 a0 0 (fun z => absurd z.2 (by decide))).trans e4
        refine ir_inc (pc' := 176) rfl rfl rfl rfl rfl (by omega) (by omega) ?_
        refine ir_goto (pc' := 100) rfl rfl ?_
        refine ir_w [(0, (2, ((a0 : Nat) : Int))), (2, (1, z6)), (5, (0, (q100_l5 + 1)))] ⟨rfl, rfl, rfl, trivial⟩ ?_
        exact ih100 (z6) (by omega) (by omega) ((q100_l5 + 1)) (by omega) (by omega) s9 hT9 hF9 w142_a0_0 w142_a0_0k e10 (z7) (by omega) (by omega) e9 (by omega)
      refine ir_l (pc' := 101) rfl rfl rfl rfl rfl rfl ?_
      refine ir_k (pc' := 102) (v := (1, 0)) rfl rfl rfl (fun _ => rfl) ?_
      refine ir_lcmp (pc' := 103) rfl rfl (by omega) (by omega) (by omega) (by omega) (fun z11 z11c => ?_)
      refine ir_z_eq (pt := 179) (pc' := 106) rfl rfl rfl (fun c12 => ?_) (fun c12 => ?_)
      · refine ir_w [] trivial ?_
        exact J179 s_100 hT_100 hF_100 w100_a0_0 w100_a0_0k w100_a0_0e (w100_a0_1) (by omega) (by omega) w100_a0_1e
      · refine ir_l (pc' := 108) rfl rfl rfl rfl rfl rfl ?_
        refine ir_l (pc' := 109) rfl rfl rfl rfl rfl rfl ?_
        refine ir_getR (pc' := 112) rfl rfl rfl (gG_at a0k) rfl w100_a0_0e ?_
        refine ir_tlen (pc' := 113) rfl rfl te_18 (by decide) w100_a0_0k ?_
        refine ir_c_ge (pt := 179) (pc' := 116) rfl rfl rfl (fun c13 => ?_) (fun c13 => ?_)
        · refine ir_w [] trivial ?_
          exact J179 s_100 hT_100 hF_100 w100_a0_0 w100_a0_0k w100_a0_0e (w100_a0_1) (by omega) (by omega) w100_a0_1e
        · refine ir_l (pc' := 117) rfl rfl rfl rfl rfl rfl ?_
          refine ir_l (pc' := 119) rfl rfl rfl rfl rfl rfl ?_
          refine ir_l (pc' := 120) rfl rfl rfl rfl rfl rfl ?_
          refine ir_getI (pc' := 123) rfl rfl rfl (gG_at a0k) rfl (by decide) (by decide) w100_a0_1e (by omega) (by omega) ?_
          refine ir_c_ge (pt := 141) (pc' := 126) rfl rfl rfl (fun c14 => ?_) (fun c14 => ?_)
          · refine ir_k (pc' := 142) (v := (1, 0)) rfl rfl rfl (fun _ => rfl) ?_
            refine ir_w [(0, (2, ((a0 : Nat) : Int))), (5, (0, q100_l5))] ⟨rfl, rfl, trivial⟩ ?_
            exact J142 (q100_l2) (by omega) (by omega) (by omega) (0) (by omega) (by omega) (by omega) s_100 hT_100 hF_100 w100_a0_0 w100_a0_0k w100_a0_0e (w100_a0_1) (by omega) (by omega) w100_a0_1e
          · refine ir_l (pc' := 127) rfl rfl rfl rfl rfl rfl ?_
            refine ir_getR (pc' := 130) rfl rfl rfl (gG_at a0k) rfl w100_a0_0e ?_
            refine ir_l (pc' := 132) rfl rfl rfl rfl rfl rfl ?_
            refine ir_tia (pc' := 133) rfl rfl te_18 (by decide) w100_a0_0k hT_100 (by omega) (by omega) (fun z15 z15e z15l z15h => ?_)
            clear z15e
            refine ir_i2l (pc' := 134) rfl rfl (by omega) (by omega) ?_
            refine ir_k (pc' := 137) (v := (1, 4294967295)) rfl rfl rfl (fun _ => rfl) ?_
            refine ir_landm (pc' := 138) rfl rfl (by decide) (by decide) (fun z16 z16l z16h => ?_)
            refine ir_goto (pc' := 142) rfl rfl ?_
            refine ir_w [(0, (2, ((a0 : Nat) : Int))), (5, (0, q100_l5))] ⟨rfl, rfl, trivial⟩ ?_
            exact J142 (q100_l2) (by omega) (by omega) (by omega) (z16) (by omega) (by omega) (by omega) s_100 hT_100 hF_100 w100_a0_0 w100_a0_0k w100_a0_0e (w100_a0_1) (by omega) (by omega) w100_a0_1e
  have J19 : ∀ n : Nat, ∀ (q19_l2 : Int) (q19_l2l : -9223372036854775808 ≤ q19_l2) (q19_l2h : q19_l2 ≤ 9223372036854775807) (q19_l4 : Int) (q19_l4l : 0 ≤ q19_l4) (q19_l4h : q19_l4 ≤ 80) (q19_l5 : Int) (q19_l5l : 0 ≤ q19_l5) (q19_l5h : q19_l5 ≤ 80) (s_19 : im_S) (hT_19 : tI s_19) (hF_19 : fr [(16, 1)] s0 s_19) (w19_a0_0 : Nat) (w19_a0_0k : gK[w19_a0_0]? = some 18) (w19_a0_0e : s_19.1 a0 0 = ((w19_a0_0 : Nat) : Int)) (w19_a1_1 : Int) (w19_a1_1l : 0 ≤ w19_a1_1) (w19_a1_1h : w19_a1_1 ≤ 80) (w19_a1_1e : s_19.1 a1 1 = w19_a1_1), (80 + 1 - q19_l5) ≤ (n : Int) → ir gG rm_P L ys (d + 1) rm_p_X1_grow (19, [(0, (2, ((a0 : Nat) : Int))), (1, (2, ((a1 : Nat) : Int))), (2, (1, q19_l2)), (4, (0, q19_l4)), (5, (0, q19_l5))], [], s_19) (fun r : im_Re => r.1 = none ∧ (tI r.2 ∧ fr [(16, 1)] s0 r.2)) := by
    intro n
    induction n with
    | zero => intro q19_l2 q19_l2l q19_l2h q19_l4 q19_l4l q19_l4h q19_l5 q19_l5l q19_l5h s_19 hT_19 hF_19 w19_a0_0 w19_a0_0k w19_a0_0e w19_a1_1 w19_a1_1l w19_a1_1h w19_a1_1e hr; exfalso; omega
    | succ n ih19 =>
      intro q19_l2 q19_l2l q19_l2h q19_l4 q19_l4l q19_l4h q19_l5 q19_l5l q19_l5h s_19 hT_19 hF_19 w19_a0_0 w19_a0_0k w19_a0_0e w19_a1_1 w19_a1_1l w19_a1_1h w19_a1_1e hr
      have J64 : ∀ (q64_s0 : Int) (q64_s0l : -9223372036854775808 ≤ q64_s0) (q64_s0h : q64_s0 ≤ 9223372036854775807) (q64_s1 : Int) (q64_s1l : 0 ≤ q64_s1) (q64_s1h : q64_s1 ≤ 4294967295) (q64_s2 : Int) (q64_s2l : 0 ≤ q64_s2) (q64_s2h : q64_s2 ≤ 4294967295) (f64_4l : 1 ≤ q19_l4) (f64_5h : q19_l5 ≤ 79) (s_64 : im_S) (hT_64 : tI s_64) (hF_64 : fr [(16, 1)] s0 s_64) (w64_a0_0 : Nat) (w64_a0_0k : gK[w64_a0_0]? = some 18) (w64_a0_0e : s_64.1 a0 0 = ((w64_a0_0 : Nat) : Int)) (w64_a0_1 : Int) (w64_a0_1l : 0 ≤ w64_a0_1) (w64_a0_1h : w64_a0_1 ≤ 80) (w64_a0_1e : s_64.1 a0 1 = w64_a0_1) (w64_a1_0 : Nat) (w64_a1_0k : gK[w64_a1_0]? = some 18) (w64_a1_0e : s_64.1 a1 0 = ((w64_a1_0 : Nat) : Int)) (w64_a1_1 : Int) (w64_a1_1l : 0 ≤ w64_a1_1) (w64_a1_1h : w64_a1_1 ≤ 80) (w64_a1_1e : s_64.1 a1 1 = w64_a1_1), ir gG rm_P L ys (d + 1) rm_p_X1_grow (64, [(0, (2, ((a0 : Nat) : Int))), (1, (2, ((a1 : Nat) : Int))), (4, (0, q19_l4)), (5, (0, q19_l5))], [(1, q64_s2), (1, q64_s1), (1, q64_s0)], s_64) (fun r : im_Re => r.1 = none ∧ (tI r.2 ∧ fr [(16, 1)] s0 r.2)) := by
        intro q64_s0 q64_s0l q64_s0h q64_s1 q64_s1l q64_s1h q64_s2 q64_s2l q64_s2h f64_4l f64_5h s_64 hT_64 hF_64 w64_a0_0 w64_a0_0k w64_a0_0e w64_a0_1 w64_a0_1l w64_a0_1h w64_a0_1e w64_a1_0 w64_a1_0k w64_a1_0e w64_a1_1 w64_a1_1l w64_a1_1h w64_a1_1e
        refine ir_ladd (pc' := 65) rfl rfl (by omega) (by omega) ?_
        refine ir_jjA (pc' := 66) rfl rfl rfl rfl (fun z17 z17l z17h => ?_)
        refine ir_s2 (pc' := 67) rfl rfl rfl rfl rfl rfl ?_
        refine ir_l (pc' := 68) rfl rfl rfl rfl rfl rfl ?_
        refine ir_getR (pc' := 71) rfl rfl rfl (gG_at a0k) rfl w64_a0_0e ?_
        refine ir_l (pc' := 73) rfl rfl rfl rfl rfl rfl ?_
        refine ir_l (pc' := 74) rfl rfl rfl rfl rfl rfl ?_
        refine ir_j1A (pc' := 75) rfl rfl rfl rfl (fun z18 z18e z18l z18h => ?_)
        clear z18e
        refine ir_tis (pc' := 76) rfl rfl rfl rfl te_18 w64_a0_0k hT_64 (by omega) (by omega) (rfl) (by omega) (by omega) (fun s19 hT19 r19 o19 => ?_)
        have hF19 := fr_row hF_64 r19 o19
        have e20 : s19.1 a1 1 = w64_a1_1 := by rw [r19]; exact w64_a1_1e
        have e21 : s19.1 a0 0 = ((w64_a0_0 : Nat) : Int) := by rw [r19]; exact w64_a0_0e
        have e22 : s19.1 a1 0 = ((w64_a1_0 : Nat) : Int) := by rw [r19]; exact w64_a1_0e
        have e23 : s19.1 a0 1 = w64_a0_1 := by rw [r19]; exact w64_a0_1e
        refine ir_l (pc' := 77) rfl rfl rfl rfl rfl rfl ?_
        refine ir_k (pc' := 79) (v := (0, 32)) rfl rfl rfl (fun _ => rfl) ?_
        refine ir_jijA (pc' := 80) rfl rfl rfl rfl (fun z24 z24l z24h => ?_)
        refine ir_s2 (pc' := 81) rfl rfl rfl rfl rfl rfl ?_
        refine ir_inc (pc' := 84) rfl rfl rfl rfl rfl (by omega) (by omega) ?_
        refine ir_goto (pc' := 19) rfl rfl ?_
        refine ir_w [(0, (2, ((a0 : Nat) : Int))), (1, (2, ((a1 : Nat) : Int))), (2, (1, z24)), (4, (0, q19_l4)), (5, (0, (q19_l5 + 1)))] ⟨rfl, rfl, rfl, rfl, rfl, trivial⟩ ?_
        exact ih19 (z24) (by omega) (by omega) (q19_l4) (by omega) (by omega) ((q19_l5 + 1)) (by omega) (by omega) s19 hT19 hF19 w64_a0_0 w64_a0_0k e21 (w64_a1_1) (by omega) (by omega) e20 (by omega)
      refine ir_l (pc' := 21) rfl rfl rfl rfl rfl rfl ?_
      refine ir_l (pc' := 23) rfl rfl rfl rfl rfl rfl ?_
      refine ir_c_ge (pt := 87) (pc' := 26) rfl rfl rfl (fun c25 => ?_) (fun c25 => ?_)
      · refine ir_l (pc' := 88) rfl rfl rfl rfl rfl rfl ?_
        refine ir_l (pc' := 89) rfl rfl rfl rfl rfl rfl ?_
        refine ir_tgi (pc' := 92) rfl rfl rfl tf_16_1 a0k hT_19 (fun z26 z26e z26l z26h => ?_)
        refine ir_l (pc' := 94) rfl rfl rfl rfl rfl rfl ?_
        refine ir_cSI (pc' := 97) rfl rfl rfl rfl rfl rfl (Nat.le_of_ble_eq_true rfl) (sf_max L ys d s_19 (z26) (by omega) (by omega) (q19_l4) (by omega) (by omega)) (fun z27 s28 hr => ?_)
        obtain ⟨rfl, z27p0, z27p1, z27p2⟩ := hr
        refine ir_tpi (pc' := 100) rfl rfl rfl tf_16_1 rfl a0k hT_19 rfl (by omega) (by omega) (fun s29 hT29 e29 g29 r29 => ?_)
        have hF29 := fr_put (k := 16) hF_19 (by decide) a0k g29 r29
        have e30 : s29.1 a0 0 = ((w19_a0_0 : Nat) : Int) := (g29 a0 0 (fun z => absurd z.2 (by decide))).trans w19_a0_0e
        refine ir_w [(0, (2, ((a0 : Nat) : Int))), (2, (1, q19_l2)), (5, (0, q19_l5))] ⟨rfl, rfl, rfl, trivial⟩ ?_
        exact J100 _ (q19_l2) (by omega) (by omega) (q19_l5) (by omega) (by omega) s29 hT29 hF29 w19_a0_0 w19_a0_0k e30 (z27) (by omega) (by omega) e29 (Int.self_le_toNat _)
      · refine ir_l (pc' := 27) rfl rfl rfl rfl rfl rfl ?_
        refine ir_l (pc' := 28) rfl rfl rfl rfl rfl rfl ?_
        refine ir_tgr (pc' := 31) rfl rfl rfl tf_16_0 a1k hT_19 (fun b31 b31e b31k => ?_)
        refine ir_l (pc' := 33) rfl rfl rfl rfl rfl rfl ?_
        refine ir_tia (pc' := 34) rfl rfl te_18 (by decide) b31k hT_19 (by omega) (by omega) (fun z32 z32e z32l z32h => ?_)
        clear z32e
        refine ir_i2l (pc' := 35) rfl rfl (by omega) (by omega) ?_
        refine ir_k (pc' := 38) (v := (1, 4294967295)) rfl rfl rfl (fun _ => rfl) ?_
        refine ir_landm (pc' := 39) rfl rfl (by decide) (by decide) (fun z33 z33l z33h => ?_)
        refine ir_l (pc' := 41) rfl rfl rfl rfl rfl rfl ?_
        refine ir_l (pc' := 42) rfl rfl rfl rfl rfl rfl ?_
        refine ir_tgi (pc' := 45) rfl rfl rfl tf_16_1 a0k hT_19 (fun z34 z34e z34l z34h => ?_)
        refine ir_c_ge (pt := 63) (pc' := 48) rfl rfl rfl (fun c35 => ?_) (fun c35 => ?_)
        · refine ir_k (pc' := 64) (v := (1, 0)) rfl rfl rfl (fun _ => rfl) ?_
          refine ir_w [(0, (2, ((a0 : Nat) : Int))), (1, (2, ((a1 : Nat) : Int))), (4, (0, q19_l4)), (5, (0, q19_l5))] ⟨rfl, rfl, rfl, rfl, trivial⟩ ?_
          exact J64 (q19_l2) (by omega) (by omega) (z33) (by omega) (by omega) (0) (by omega) (by omega) (by omega) (by omega) s_19 hT_19 hF_19 w19_a0_0 w19_a0_0k w19_a0_0e (z34) (by omega) (by omega) z34e b31 b31k b31e (w19_a1_1) (by omega) (by omega) w19_a1_1e
        · refine ir_l (pc' := 49) rfl rfl rfl rfl rfl rfl ?_
          refine ir_getR (pc' := 52) rfl rfl rfl (gG_at a0k) rfl w19_a0_0e ?_
          refine ir_l (pc' := 54) rfl rfl rfl rfl rfl rfl ?_
          refine ir_tia (pc' := 55) rfl rfl te_18 (by decide) w19_a0_0k hT_19 (by omega) (by omega) (fun z36 z36e z36l z36h => ?_)
          clear z36e
          refine ir_i2l (pc' := 56) rfl rfl (by omega) (by omega) ?_
          refine ir_k (pc' := 59) (v := (1, 4294967295)) rfl rfl rfl (fun _ => rfl) ?_
          refine ir_landm (pc' := 60) rfl rfl (by decide) (by decide) (fun z37 z37l z37h => ?_)
          refine ir_goto (pc' := 64) rfl rfl ?_
          refine ir_w [(0, (2, ((a0 : Nat) : Int))), (1, (2, ((a1 : Nat) : Int))), (4, (0, q19_l4)), (5, (0, q19_l5))] ⟨rfl, rfl, rfl, rfl, trivial⟩ ?_
          exact J64 (q19_l2) (by omega) (by omega) (z33) (by omega) (by omega) (z37) (by omega) (by omega) (by omega) (by omega) s_19 hT_19 hF_19 w19_a0_0 w19_a0_0k w19_a0_0e (z34) (by omega) (by omega) z34e b31 b31k b31e (w19_a1_1) (by omega) (by omega) w19_a1_1e
  refine ir_k (pc' := 1) (v := (1, 0)) rfl rfl rfl (fun _ => rfl) ?_
  refine ir_s2 (pc' := 2) rfl rfl rfl rfl rfl rfl ?_
  refine ir_l (pc' := 3) rfl rfl rfl rfl rfl rfl ?_
  refine ir_tgi (pc' := 6) rfl rfl rfl tf_16_1 a1k hT0 (fun z38 z38e z38l z38h => ?_)
  refine ir_l (pc' := 7) rfl rfl rfl rfl rfl rfl ?_
  refine ir_tgr (pc' := 10) rfl rfl rfl tf_16_0 a0k hT0 (fun b39 b39e b39k => ?_)
  refine ir_tlen (pc' := 11) rfl rfl te_18 (by decide) b39k ?_
  refine ir_cSI (pc' := 14) rfl rfl rfl rfl rfl rfl (Nat.le_of_ble_eq_true rfl) (sf_min L ys d s0 (z38) (by omega) (by omega) (((80 : Nat) : Int)) (by omega) (by omega)) (fun z40 s41 hr => ?_)
  obtain ⟨rfl, z40p0, z40p1, z40p2⟩ := hr
  refine ir_s (pc' := 16) rfl rfl rfl rfl rfl rfl ?_
  refine ir_k (pc' := 17) (v := (0, 0)) rfl rfl rfl (fun _ => rfl) ?_
  refine ir_s (pc' := 19) rfl rfl rfl rfl rfl rfl ?_
  refine ir_w [(0, (2, ((a0 : Nat) : Int))), (1, (2, ((a1 : Nat) : Int))), (2, (1, 0)), (4, (0, z40)), (5, (0, 0))] ⟨rfl, rfl, rfl, rfl, rfl, trivial⟩ ?_
  exact J19 _ (0) (by omega) (by omega) (z40) (by omega) (by omega) (0) (by omega) (by omega) s0 hT0 hF0 b39 b39k b39e (z38) (by omega) (by omega) z38e (Int.self_le_toNat _)
