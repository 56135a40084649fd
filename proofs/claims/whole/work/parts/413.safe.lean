/-! WALKS OF THE CLASS'S METHODS, by program -/
theorem sf_start8 (L : Nat) (ys : Nat → Int32) (d : Nat) (s0 : im_S) (hT0 : tI s0) (a0 : Nat) (a0k : gK[a0]? = some 23) (a1 : Nat) (a1k : gK[a1]? = some 19) (x2 : Int) (x2l : -2147483648 ≤ x2) (x2h : x2 ≤ 2147483647) (x3 : Int) (x3l : 0 ≤ x3) (x3h : x3 ≤ 1) : icV gG rm_P L ys (d + 3) 205 [(2, (a0 : Int)), (2, (a1 : Int)), (0, x2), (0, x3)] s0 (fun s => tI s ∧ fr [(19, 1), (19, 2), (23, 1), (23, 7), (23, 8)] s0 s) := by
  refine ic_startM (M := rm_p_X8_start) om_X8_start (Nat.le_of_ble_eq_true rfl) ?_
  refine ir_w [(0, (2, ((a0 : Nat) : Int))), (1, (2, ((a1 : Nat) : Int))), (2, (0, x2)), (3, (0, x3))] ⟨rfl, rfl, rfl, rfl, trivial⟩ ?_
  have hF0 := fr_refl [(19, 1), (19, 2), (23, 1), (23, 7), (23, 8)] s0
  refine ir_l (pc' := 1) rfl rfl rfl rfl rfl rfl ?_
  refine ir_tgr (pc' := 4) rfl rfl rfl tf_23_6 a0k hT0 (fun b1 b1e b1k => ?_)
  refine ir_l (pc' := 5) rfl rfl rfl rfl rfl rfl ?_
  refine ir_cVV (pc' := 8) rfl rfl rfl rfl rfl (Nat.le_of_ble_eq_true rfl) oo_X1_copy (gG_at b1k) (sf_copy1_19_19 L ys d s0 hT0 b1 b1k a1 a1k ) (fun s3 hr => ?_)
  obtain ⟨hT3, hG3⟩ := hr
  have hF3 := fr_trans hF0 hG3 (by decide)
  have e4 : s3.1 a0 6 = ((b1 : Nat) : Int) := (hG3.1 _ _ a0k 6 (by decide)).trans b1e
  refine ir_l (pc' := 9) rfl rfl rfl rfl rfl rfl ?_
  refine ir_l (pc' := 10) rfl rfl rfl rfl rfl rfl ?_
  refine ir_tpi (pc' := 13) rfl rfl rfl tf_23_7 rfl a0k hT3 rfl (by omega) (by omega) (fun s5 hT5 e5 g5 r5 => ?_)
  have hF5 := fr_put (k := 23) hF3 (by decide) a0k g5 r5
  have e6 : s5.1 a0 6 = ((b1 : Nat) : Int) := (g5 a0 6 (fun z => absurd z.2 (by decide))).trans e4
  refine ir_l (pc' := 14) rfl rfl rfl rfl rfl rfl ?_
  refine ir_l (pc' := 15) rfl rfl rfl rfl rfl rfl ?_
  refine ir_tpi (pc' := 18) rfl rfl rfl tf_23_1 rfl a0k hT5 (by first | rfl | exact im_fitZ rfl (by omega)) (by omega) (by omega) (fun s7 hT7 e7 g7 r7 => ?_)
  have hF7 := fr_put (k := 23) hF5 (by decide) a0k g7 r7
  have e8 : s7.1 a0 6 = ((b1 : Nat) : Int) := (g7 a0 6 (fun z => absurd z.2 (by decide))).trans e6
  have e9 : s7.1 a0 7 = x2 := (g7 a0 7 (fun z => absurd z.2 (by decide))).trans e5
  refine ir_l (pc' := 19) rfl rfl rfl rfl rfl rfl ?_
  refine ir_k (pc' := 20) (v := (0, 1)) rfl rfl rfl (fun _ => rfl) ?_
  refine ir_tpi (pc' := 23) rfl rfl rfl tf_23_8 rfl a0k hT7 rfl (by omega) (by omega) (fun s10 hT10 e10 g10 r10 => ?_)
  have hF10 := fr_put (k := 23) hF7 (by decide) a0k g10 r10
  have e11 : s10.1 a0 6 = ((b1 : Nat) : Int) := (g10 a0 6 (fun z => absurd z.2 (by decide))).trans e8
  have e12 : s10.1 a0 7 = x2 := (g10 a0 7 (fun z => absurd z.2 (by decide))).trans e9
  have e13 : s10.1 a0 1 = x3 := (g10 a0 1 (fun z => absurd z.2 (by decide))).trans e7
  exact ir_vret rfl rfl ⟨rfl, hT10, hF10⟩
theorem sf_dropZero5 (L : Nat) (ys : Nat → Int32) (d : Nat) (s0 : im_S) (hT0 : tI s0) (pr0 : 1 ≤ s0.1 267 4) : icV gG rm_P L ys (d + 3) 162 [(2, ((267 : Nat) : Int))] s0 (fun s => tI s ∧ fr [(15, 4), (16, 1), (16, 2)] s0 s) := by
  refine ic_startM (M := rm_p_X5_dropZero) om_X5_dropZero (Nat.le_of_ble_eq_true rfl) ?_
  refine ir_w [(0, (2, ((267 : Nat) : Int)))] ⟨rfl, trivial⟩ ?_
  have hF0 := fr_refl [(15, 4), (16, 1), (16, 2)] s0
  have J2 : ∀ n : Nat, ∀ (q2_l1 : Int) (q2_l1l : 0 ≤ q2_l1) (q2_l1h : q2_l1 ≤ 8) (s_2 : im_S) (hT_2 : tI s_2) (hF_2 : fr [(15, 4), (16, 1), (16, 2)] s0 s_2) (w2_267_4 : Int) (w2_267_4l : 1 ≤ w2_267_4) (w2_267_4h : w2_267_4 ≤ 8) (w2_267_4e : s_2.1 267 4 = w2_267_4), (8 + 1 - q2_l1) ≤ (n : Int) → ir gG rm_P L ys (d + 2) rm_p_X5_dropZero (2, [(0, (2, ((267 : Nat) : Int))), (1, (0, q2_l1))], [], s_2) (fun r : im_Re => r.1 = none ∧ (tI r.2 ∧ fr [(15, 4), (16, 1), (16, 2)] s0 r.2)) := by
    intro n
    induction n with
    | zero => intro q2_l1 q2_l1l q2_l1h s_2 hT_2 hF_2 w2_267_4 w2_267_4l w2_267_4h w2_267_4e hr; exfalso; omega
    | succ n ih2 =>
      intro q2_l1 q2_l1l q2_l1h s_2 hT_2 hF_2 w2_267_4 w2_267_4l w2_267_4h w2_267_4e hr
      refine ir_l (pc' := 3) rfl rfl rfl rfl rfl rfl ?_
      refine ir_l (pc' := 4) rfl rfl rfl rfl rfl rfl ?_
      refine ir_getI (pc' := 7) rfl rfl rfl (gG_at tsk_15) rfl (by decide) (by decide) w2_267_4e (by omega) (by omega) ?_
      refine ir_c_ge (pt := 33) (pc' := 10) rfl rfl rfl (fun c1 => ?_) (fun c1 => ?_)
      · refine ir_l (pc' := 34) rfl rfl rfl rfl rfl rfl ?_
        refine ir_x (pc' := 35) rfl rfl rfl (fun _ => rfl) ?_
        refine ir_getI (pc' := 38) rfl rfl rfl (gG_at tsk_15) rfl (by decide) (by decide) w2_267_4e (by omega) (by omega) ?_
        refine ir_k (pc' := 39) (v := (0, 1)) rfl rfl rfl (fun _ => rfl) ?_
        refine ir_sub (pc' := 40) rfl rfl (by omega) (by omega) ?_
        refine ir_tpi (pc' := 43) rfl rfl rfl tf_15_4 rfl tsk_15 hT_2 rfl (by omega) (by omega) (fun s2 hT2 e2 g2 r2 => ?_)
        have hF2 := fr_put (k := 15) hF_2 (by decide) tsk_15 g2 r2
        exact ir_vret rfl rfl ⟨rfl, hT2, hF2⟩
      · refine ir_l (pc' := 11) rfl rfl rfl rfl rfl rfl ?_
        refine ir_tgr (pc' := 14) rfl rfl rfl tf_15_0 tsk_15 hT_2 (fun b3 b3e b3k => ?_)
        refine ir_l (pc' := 15) rfl rfl rfl rfl rfl rfl ?_
        refine ir_taa (pc' := 16) (k2 := 16) rfl rfl te_17 (by decide) b3k hT_2 (by omega) (by omega) (fun b4 b4k => ?_)
        refine ir_l (pc' := 17) rfl rfl rfl rfl rfl rfl ?_
        refine ir_getR (pc' := 20) rfl rfl rfl (gG_at tsk_15) rfl b3e ?_
        refine ir_l (pc' := 21) rfl rfl rfl rfl rfl rfl ?_
        refine ir_k (pc' := 22) (v := (0, 1)) rfl rfl rfl (fun _ => rfl) ?_
        refine ir_add (pc' := 23) rfl rfl (by omega) (by omega) ?_
        refine ir_taa (pc' := 24) (k2 := 16) rfl rfl te_17 (by decide) b3k hT_2 (by omega) (by omega) (fun b5 b5k => ?_)
        refine ir_cVV (pc' := 27) rfl rfl rfl rfl rfl (Nat.le_of_ble_eq_true rfl) oo_X1_copy (gG_at b4k) (sf_copy1_16_16 L ys d s_2 hT_2 b4 b4k b5 b5k ) (fun s7 hr => ?_)
        obtain ⟨hT7, hG7⟩ := hr
        have hF7 := fr_trans hF_2 hG7 (by decide)
        have e8 : s7.1 267 4 = w2_267_4 := (hG7.1 _ _ tsk_15 4 (by decide)).trans w2_267_4e
        have e9 : s7.1 267 0 = ((b3 : Nat) : Int) := (hG7.1 _ _ tsk_15 0 (by decide)).trans b3e
        refine ir_inc (pc' := 30) rfl rfl rfl rfl rfl (by omega) (by omega) ?_
        refine ir_goto (pc' := 2) rfl rfl ?_
        refine ir_w [(0, (2, ((267 : Nat) : Int))), (1, (0, (q2_l1 + 1)))] ⟨rfl, rfl, trivial⟩ ?_
        exact ih2 ((q2_l1 + 1)) (by omega) (by omega) s7 hT7 hF7 (w2_267_4) (by omega) (by omega) e8 (by omega)
  obtain ⟨z10, z10e, z10l, z10h⟩ := tI_i tf_15_4 tsk_15 hT0
  refine ir_k (pc' := 1) (v := (0, 0)) rfl rfl rfl (fun _ => rfl) ?_
  refine ir_s (pc' := 2) rfl rfl rfl rfl rfl rfl ?_
  refine ir_w [(0, (2, ((267 : Nat) : Int))), (1, (0, 0))] ⟨rfl, rfl, trivial⟩ ?_
  exact J2 _ (0) (by omega) (by omega) s0 hT0 hF0 (z10) (by omega) (by omega) z10e (Int.self_le_toNat _)
theorem sf_mixed5 (L : Nat) (ys : Nat → Int32) (d : Nat) (s0 : im_S) (hT0 : tI s0) (a1 : Nat) (a1k : gK[a1]? = some 17) : icI gG rm_P L ys 0 (d + 1) 165 [(2, ((267 : Nat) : Int)), (2, (a1 : Int))] s0 (fun z s => tI s ∧ fr [] s0 s ∧ 0 ≤ z ∧ z ≤ 1) := by
  refine ic_startM (M := rm_p_X5_mixed) om_X5_mixed (Nat.le_of_ble_eq_true rfl) ?_
  refine ir_w [(0, (2, ((267 : Nat) : Int))), (1, (2, ((a1 : Nat) : Int)))] ⟨rfl, rfl, trivial⟩ ?_
  have hF0 := fr_refl [] s0
  have J75 : ∀ (q75_s0 : Int) (q75_s0l : 0 ≤ q75_s0) (q75_s0h : q75_s0 ≤ 1) (s_75 : im_S) (hT_75 : tI s_75) (hF_75 : fr [] s0 s_75) (w75_267_4 : Int) (w75_267_4l : -1 ≤ w75_267_4) (w75_267_4h : w75_267_4 ≤ 8) (w75_267_4e : s_75.1 267 4 = w75_267_4), ir gG rm_P L ys d rm_p_X5_mixed (75, [], [(0, q75_s0)], s_75) (fun r : im_Re => ∃ z, r.1 = some (0, z) ∧ (tI r.2 ∧ fr [] s0 r.2 ∧ 0 ≤ z ∧ z ≤ 1)) := by
    intro q75_s0 q75_s0l q75_s0h s_75 hT_75 hF_75 w75_267_4 w75_267_4l w75_267_4h w75_267_4e
    exact ir_zret rfl rfl (by omega) ⟨_, rfl, hT_75, hF_75, by omega, by omega⟩
  have J74 : ∀ (s_74 : im_S) (hT_74 : tI s_74) (hF_74 : fr [] s0 s_74) (w74_267_4 : Int) (w74_267_4l : -1 ≤ w74_267_4) (w74_267_4h : w74_267_4 ≤ 8) (w74_267_4e : s_74.1 267 4 = w74_267_4), ir gG rm_P L ys d rm_p_X5_mixed (74, [], [], s_74) (fun r : im_Re => ∃ z, r.1 = some (0, z) ∧ (tI r.2 ∧ fr [] s0 r.2 ∧ 0 ≤ z ∧ z ≤ 1)) := by
    intro s_74 hT_74 hF_74 w74_267_4 w74_267_4l w74_267_4h w74_267_4e
    refine ir_k (pc' := 75) (v := (0, 0)) rfl rfl rfl (fun _ => rfl) ?_
    refine ir_w [] trivial ?_
    exact J75 (0) (by omega) (by omega) s_74 hT_74 hF_74 (w74_267_4) (by omega) (by omega) w74_267_4e
  have J7 : ∀ n : Nat, ∀ (q7_l2 : Int) (q7_l2l : 0 ≤ q7_l2) (q7_l2h : q7_l2 ≤ 1) (q7_l3 : Int) (q7_l3l : 0 ≤ q7_l3) (q7_l3h : q7_l3 ≤ 1) (q7_l4 : Int) (q7_l4l : 0 ≤ q7_l4) (q7_l4h : q7_l4 ≤ 9) (s_7 : im_S) (hT_7 : tI s_7) (hF_7 : fr [] s0 s_7), (9 + 1 - q7_l4) ≤ (n : Int) → ir gG rm_P L ys d rm_p_X5_mixed (7, [(0, (2, ((267 : Nat) : Int))), (1, (2, ((a1 : Nat) : Int))), (2, (0, q7_l2)), (3, (0, q7_l3)), (4, (0, q7_l4))], [], s_7) (fun r : im_Re => ∃ z, r.1 = some (0, z) ∧ (tI r.2 ∧ fr [] s0 r.2 ∧ 0 ≤ z ∧ z ≤ 1)) := by
    intro n
    induction n with
    | zero => intro q7_l2 q7_l2l q7_l2h q7_l3 q7_l3l q7_l3h q7_l4 q7_l4l q7_l4h s_7 hT_7 hF_7 hr; exfalso; omega
    | succ n ih7 =>
      intro q7_l2 q7_l2l q7_l2h q7_l3 q7_l3l q7_l3h q7_l4 q7_l4l q7_l4h s_7 hT_7 hF_7 hr
      have J55 : ∀ (q55_l2 : Int) (q55_l2l : 0 ≤ q55_l2) (q55_l2h : q55_l2 ≤ 1) (q55_s0 : Int) (q55_s0l : 0 ≤ q55_s0) (q55_s0h : q55_s0 ≤ 1) (f55_4h : q7_l4 ≤ 8) (s_55 : im_S) (hT_55 : tI s_55) (hF_55 : fr [] s0 s_55) (w55_267_4 : Int) (w55_267_4l : 0 ≤ w55_267_4) (w55_267_4h : w55_267_4 ≤ 8) (w55_267_4e : s_55.1 267 4 = w55_267_4), ir gG rm_P L ys d rm_p_X5_mixed (55, [(0, (2, ((267 : Nat) : Int))), (1, (2, ((a1 : Nat) : Int))), (2, (0, q55_l2)), (4, (0, q7_l4))], [(0, q55_s0)], s_55) (fun r : im_Re => ∃ z, r.1 = some (0, z) ∧ (tI r.2 ∧ fr [] s0 r.2 ∧ 0 ≤ z ∧ z ≤ 1)) := by
        intro q55_l2 q55_l2l q55_l2h q55_s0 q55_s0l q55_s0h f55_4h s_55 hT_55 hF_55 w55_267_4 w55_267_4l w55_267_4h w55_267_4e
        refine ir_s (pc' := 56) rfl rfl rfl rfl rfl rfl ?_
        refine ir_inc (pc' := 59) rfl rfl rfl rfl rfl (by omega) (by omega) ?_
        refine ir_goto (pc' := 7) rfl rfl ?_
        refine ir_w [(0, (2, ((267 : Nat) : Int))), (1, (2, ((a1 : Nat) : Int))), (2, (0, q55_l2)), (3, (0, q55_s0)), (4, (0, (q7_l4 + 1)))] ⟨rfl, rfl, rfl, rfl, rfl, trivial⟩ ?_
        exact ih7 (q55_l2) (by omega) (by omega) (q55_s0) (by omega) (by omega) ((q7_l4 + 1)) (by omega) (by omega) s_55 hT_55 hF_55 (by omega)
      have J50 : ∀ (q50_l2 : Int) (q50_l2l : 0 ≤ q50_l2) (q50_l2h : q50_l2 ≤ 1) (f50_4h : q7_l4 ≤ 8) (s_50 : im_S) (hT_50 : tI s_50) (hF_50 : fr [] s0 s_50) (w50_267_4 : Int) (w50_267_4l : 0 ≤ w50_267_4) (w50_267_4h : w50_267_4 ≤ 8) (w50_267_4e : s_50.1 267 4 = w50_267_4), ir gG rm_P L ys d rm_p_X5_mixed (50, [(0, (2, ((267 : Nat) : Int))), (1, (2, ((a1 : Nat) : Int))), (2, (0, q50_l2)), (4, (0, q7_l4))], [], s_50) (fun r : im_Re => ∃ z, r.1 = some (0, z) ∧ (tI r.2 ∧ fr [] s0 r.2 ∧ 0 ≤ z ∧ z ≤ 1)) := by
        intro q50_l2 q50_l2l q50_l2h f50_4h s_50 hT_50 hF_50 w50_267_4 w50_267_4l w50_267_4h w50_267_4e
        refine ir_k (pc' := 51) (v := (0, 1)) rfl rfl rfl (fun _ => rfl) ?_
        refine ir_goto (pc' := 55) rfl rfl ?_
        refine ir_w [(0, (2, ((267 : Nat) : Int))), (1, (2, ((a1 : Nat) : Int))), (2, (0, q50_l2)), (4, (0, q7_l4))] ⟨rfl, rfl, rfl, rfl, trivial⟩ ?_
        exact J55 (q50_l2) (by omega) (by omega) (1) (by omega) (by omega) (by omega) s_50 hT_50 hF_50 (w50_267_4) (by omega) (by omega) w50_267_4e
      have J35 : ∀ (q35_s0 : Int) (q35_s0l : 0 ≤ q35_s0) (q35_s0h : q35_s0 ≤ 1) (f35_4h : q7_l4 ≤ 8) (s_35 : im_S) (hT_35 : tI s_35) (hF_35 : fr [] s0 s_35) (w35_267_4 : Int) (w35_267_4l : 0 ≤ w35_267_4) (w35_267_4h : w35_267_4 ≤ 8) (w35_267_4e : s_35.1 267 4 = w35_267_4), ir gG rm_P L ys d rm_p_X5_mixed (35, [(0, (2, ((267 : Nat) : Int))), (1, (2, ((a1 : Nat) : Int))), (3, (0, q7_l3)), (4, (0, q7_l4))], [(0, q35_s0)], s_35) (fun r : im_Re => ∃ z, r.1 = some (0, z) ∧ (tI r.2 ∧ fr [] s0 r.2 ∧ 0 ≤ z ∧ z ≤ 1)) := by
        intro q35_s0 q35_s0l q35_s0h f35_4h s_35 hT_35 hF_35 w35_267_4 w35_267_4l w35_267_4h w35_267_4e
        refine ir_s (pc' := 36) rfl rfl rfl rfl rfl rfl ?_
        refine ir_l (pc' := 37) rfl rfl rfl rfl rfl rfl ?_
        refine ir_z_ne (pt := 50) (pc' := 40) rfl rfl rfl (fun c1 => ?_) (fun c1 => ?_)
        · refine ir_w [(0, (2, ((267 : Nat) : Int))), (1, (2, ((a1 : Nat) : Int))), (2, (0, q35_s0)), (4, (0, q7_l4))] ⟨rfl, rfl, rfl, rfl, trivial⟩ ?_
          exact J50 (q35_s0) (by omega) (by omega) (by omega) s_35 hT_35 hF_35 (w35_267_4) (by omega) (by omega) w35_267_4e
        · refine ir_l (pc' := 41) rfl rfl rfl rfl rfl rfl ?_
          refine ir_l (pc' := 43) rfl rfl rfl rfl rfl rfl ?_
          refine ir_taa (pc' := 44) (k2 := 16) rfl rfl te_17 (by decide) a1k hT_35 (by omega) (by omega) (fun b2 b2k => ?_)
          refine ir_tgi (pc' := 47) rfl rfl rfl tf_16_2 b2k hT_35 (fun z3 z3e z3l z3h => ?_)
          refine ir_z_ge (pt := 54) (pc' := 50) rfl rfl rfl (fun c4 => ?_) (fun c4 => ?_)
          · refine ir_k (pc' := 55) (v := (0, 0)) rfl rfl rfl (fun _ => rfl) ?_
            refine ir_w [(0, (2, ((267 : Nat) : Int))), (1, (2, ((a1 : Nat) : Int))), (2, (0, q35_s0)), (4, (0, q7_l4))] ⟨rfl, rfl, rfl, rfl, trivial⟩ ?_
            exact J55 (q35_s0) (by omega) (by omega) (0) (by omega) (by omega) (by omega) s_35 hT_35 hF_35 (w35_267_4) (by omega) (by omega) w35_267_4e
          · refine ir_w [(0, (2, ((267 : Nat) : Int))), (1, (2, ((a1 : Nat) : Int))), (2, (0, q35_s0)), (4, (0, q7_l4))] ⟨rfl, rfl, rfl, rfl, trivial⟩ ?_
            exact J50 (q35_s0) (by omega) (by omega) (by omega) s_35 hT_35 hF_35 (w35_267_4) (by omega) (by omega) w35_267_4e
      have J30 : ∀ (f30_4h : q7_l4 ≤ 8) (s_30 : im_S) (hT_30 : tI s_30) (hF_30 : fr [] s0 s_30) (w30_267_4 : Int) (w30_267_4l : 0 ≤ w30_267_4) (w30_267_4h : w30_267_4 ≤ 8) (w30_267_4e : s_30.1 267 4 = w30_267_4), ir gG rm_P L ys d rm_p_X5_mixed (30, [(0, (2, ((267 : Nat) : Int))), (1, (2, ((a1 : Nat) : Int))), (3, (0, q7_l3)), (4, (0, q7_l4))], [], s_30) (fun r : im_Re => ∃ z, r.1 = some (0, z) ∧ (tI r.2 ∧ fr [] s0 r.2 ∧ 0 ≤ z ∧ z ≤ 1)) := by
        intro f30_4h s_30 hT_30 hF_30 w30_267_4 w30_267_4l w30_267_4h w30_267_4e
        refine ir_k (pc' := 31) (v := (0, 1)) rfl rfl rfl (fun _ => rfl) ?_
        refine ir_goto (pc' := 35) rfl rfl ?_
        refine ir_w [(0, (2, ((267 : Nat) : Int))), (1, (2, ((a1 : Nat) : Int))), (3, (0, q7_l3)), (4, (0, q7_l4))] ⟨rfl, rfl, rfl, rfl, trivial⟩ ?_
        exact J35 (1) (by omega) (by omega) (by omega) s_30 hT_30 hF_30 (w30_267_4) (by omega) (by omega) w30_267_4e
      refine ir_l (pc' := 9) rfl rfl rfl rfl rfl rfl ?_
      refine ir_l (pc' := 10) rfl rfl rfl rfl rfl rfl ?_
      refine ir_tgi (pc' := 13) rfl rfl rfl tf_15_4 tsk_15 hT_7 (fun z5 z5e z5l z5h => ?_)
      refine ir_c_gt (pt := 62) (pc' := 16) rfl rfl rfl (fun c6 => ?_) (fun c6 => ?_)
      · refine ir_l (pc' := 63) rfl rfl rfl rfl rfl rfl ?_
        refine ir_z_eq (pt := 74) (pc' := 66) rfl rfl rfl (fun c7 => ?_) (fun c7 => ?_)
        · refine ir_w [] trivial ?_
          exact J74 s_7 hT_7 hF_7 (z5) (by omega) (by omega) z5e
        · refine ir_l (pc' := 67) rfl rfl rfl rfl rfl rfl ?_
          refine ir_z_eq (pt := 74) (pc' := 70) rfl rfl rfl (fun c8 => ?_) (fun c8 => ?_)
          · refine ir_w [] trivial ?_
            exact J74 s_7 hT_7 hF_7 (z5) (by omega) (by omega) z5e
          · refine ir_k (pc' := 71) (v := (0, 1)) rfl rfl rfl (fun _ => rfl) ?_
            refine ir_goto (pc' := 75) rfl rfl ?_
            refine ir_w [] trivial ?_
            exact J75 (1) (by omega) (by omega) s_7 hT_7 hF_7 (z5) (by omega) (by omega) z5e
      · refine ir_l (pc' := 17) rfl rfl rfl rfl rfl rfl ?_
        refine ir_z_ne (pt := 30) (pc' := 20) rfl rfl rfl (fun c9 => ?_) (fun c9 => ?_)
        · refine ir_w [(0, (2, ((267 : Nat) : Int))), (1, (2, ((a1 : Nat) : Int))), (3, (0, q7_l3)), (4, (0, q7_l4))] ⟨rfl, rfl, rfl, rfl, trivial⟩ ?_
          exact J30 (by omega) s_7 hT_7 hF_7 (z5) (by omega) (by omega) z5e
        · refine ir_l (pc' := 21) rfl rfl rfl rfl rfl rfl ?_
          refine ir_l (pc' := 23) rfl rfl rfl rfl rfl rfl ?_
          refine ir_taa (pc' := 24) (k2 := 16) rfl rfl te_17 (by decide) a1k hT_7 (by omega) (by omega) (fun b10 b10k => ?_)
          refine ir_tgi (pc' := 27) rfl rfl rfl tf_16_2 b10k hT_7 (fun z11 z11e z11l z11h => ?_)
          refine ir_z_le (pt := 34) (pc' := 30) rfl rfl rfl (fun c12 => ?_) (fun c12 => ?_)
          · refine ir_k (pc' := 35) (v := (0, 0)) rfl rfl rfl (fun _ => rfl) ?_
            refine ir_w [(0, (2, ((267 : Nat) : Int))), (1, (2, ((a1 : Nat) : Int))), (3, (0, q7_l3)), (4, (0, q7_l4))] ⟨rfl, rfl, rfl, rfl, trivial⟩ ?_
            exact J35 (0) (by omega) (by omega) (by omega) s_7 hT_7 hF_7 (z5) (by omega) (by omega) z5e
          · refine ir_w [(0, (2, ((267 : Nat) : Int))), (1, (2, ((a1 : Nat) : Int))), (3, (0, q7_l3)), (4, (0, q7_l4))] ⟨rfl, rfl, rfl, rfl, trivial⟩ ?_
            exact J30 (by omega) s_7 hT_7 hF_7 (z5) (by omega) (by omega) z5e
  refine ir_k (pc' := 1) (v := (0, 0)) rfl rfl rfl (fun _ => rfl) ?_
  refine ir_s (pc' := 2) rfl rfl rfl rfl rfl rfl ?_
  refine ir_k (pc' := 3) (v := (0, 0)) rfl rfl rfl (fun _ => rfl) ?_
  refine ir_s (pc' := 4) rfl rfl rfl rfl rfl rfl ?_
  refine ir_k (pc' := 5) (v := (0, 0)) rfl rfl rfl (fun _ => rfl) ?_
  refine ir_s (pc' := 7) rfl rfl rfl rfl rfl rfl ?_
  refine ir_w [(0, (2, ((267 : Nat) : Int))), (1, (2, ((a1 : Nat) : Int))), (2, (0, 0)), (3, (0, 0)), (4, (0, 0))] ⟨rfl, rfl, rfl, rfl, rfl, trivial⟩ ?_
  exact J7 _ (0) (by omega) (by omega) (0) (by omega) (by omega) (0) (by omega) (by omega) s0 hT0 hF0 (Int.self_le_toNat _)
theorem sf_changes5 (L : Nat) (ys : Nat → Int32) (d : Nat) (s0 : im_S) (hT0 : tI s0)  : icI gG rm_P L ys 0 (d + 4) 161 [(2, ((267 : Nat) : Int))] s0 (fun z s => tI s ∧ fr [(16, 1), (16, 2)] s0 s ∧ 0 ≤ z ∧ z ≤ 2) := by
  refine ic_startM (M := rm_p_X5_changes) om_X5_changes (Nat.le_of_ble_eq_true rfl) ?_
  refine ir_w [(0, (2, ((267 : Nat) : Int)))] ⟨rfl, trivial⟩ ?_
  have hF0 := fr_refl [(16, 1), (16, 2)] s0
  have J152 : ∀ (q152_l1 : Int) (q152_l1l : 0 ≤ q152_l1) (q152_l1h : q152_l1 ≤ 2) (s_152 : im_S) (hT_152 : tI s_152) (hF_152 : fr [(16, 1), (16, 2)] s0 s_152) (w152_267_0 : Nat) (w152_267_0k : gK[w152_267_0]? = some 17) (w152_267_0e : s_152.1 267 0 = ((w152_267_0 : Nat) : Int)) (w152_267_4 : Int) (w152_267_4l : -1 ≤ w152_267_4) (w152_267_4h : w152_267_4 ≤ 8) (w152_267_4e : s_152.1 267 4 = w152_267_4), ir gG rm_P L ys (d + 3) rm_p_X5_changes (152, [(1, (0, q152_l1))], [], s_152) (fun r : im_Re => ∃ z, r.1 = some (0, z) ∧ (tI r.2 ∧ fr [(16, 1), (16, 2)] s0 r.2 ∧ 0 ≤ z ∧ z ≤ 2)) := by
    intro q152_l1 q152_l1l q152_l1h s_152 hT_152 hF_152 w152_267_0 w152_267_0k w152_267_0e w152_267_4 w152_267_4l w152_267_4h w152_267_4e
    refine ir_l (pc' := 153) rfl rfl rfl rfl rfl rfl ?_
    exact ir_iret rfl rfl ⟨_, rfl, hT_152, hF_152, by omega, by omega⟩
  have J55 : ∀ n : Nat, ∀ (q55_l1 : Int) (q55_l1l : 0 ≤ q55_l1) (q55_l1h : q55_l1 ≤ 2) (q55_l2 : Int) (q55_l2l : -2147483648 ≤ q55_l2) (q55_l2h : q55_l2 ≤ 2147483647) (q55_l3 : Int) (q55_l3l : 0 ≤ q55_l3) (q55_l3h : q55_l3 ≤ 9) (s_55 : im_S) (hT_55 : tI s_55) (hF_55 : fr [(16, 1), (16, 2)] s0 s_55) (w55_267_0 : Nat) (w55_267_0k : gK[w55_267_0]? = some 17) (w55_267_0e : s_55.1 267 0 = ((w55_267_0 : Nat) : Int)) (w55_267_4 : Int) (w55_267_4l : -1 ≤ w55_267_4) (w55_267_4h : w55_267_4 ≤ 8) (w55_267_4e : s_55.1 267 4 = w55_267_4), (9 + 1 - q55_l3) ≤ (n : Int) → ir gG rm_P L ys (d + 3) rm_p_X5_changes (55, [(0, (2, ((267 : Nat) : Int))), (1, (0, q55_l1)), (2, (0, q55_l2)), (3, (0, q55_l3))], [], s_55) (fun r : im_Re => ∃ z, r.1 = some (0, z) ∧ (tI r.2 ∧ fr [(16, 1), (16, 2)] s0 r.2 ∧ 0 ≤ z ∧ z ≤ 2)) := by
    intro n
    induction n with
    | zero => intro q55_l1 q55_l1l q55_l1h q55_l2 q55_l2l q55_l2h q55_l3 q55_l3l q55_l3h s_55 hT_55 hF_55 w55_267_0 w55_267_0k w55_267_0e w55_267_4 w55_267_4l w55_267_4h w55_267_4e hr; exfalso; omega
    | succ n ih55 =>
      intro q55_l1 q55_l1l q55_l1h q55_l2 q55_l2l q55_l2h q55_l3 q55_l3l q55_l3h s_55 hT_55 hF_55 w55_267_0 w55_267_0k w55_267_0e w55_267_4 w55_267_4l w55_267_4h w55_267_4e hr
      have J145 : ∀ (q145_l1 : Int) (q145_l1l : 0 ≤ q145_l1) (q145_l1h : q145_l1 ≤ 2) (q145_s0 : Int) (q145_s0l : -2147483648 ≤ q145_s0) (q145_s0h : q145_s0 ≤ 2147483647) (f145_3h : q55_l3 ≤ 8) (s_145 : im_S) (hT_145 : tI s_145) (hF_145 : fr [(16, 1), (16, 2)] s0 s_145) (w145_267_0 : Nat) (w145_267_0k : gK[w145_267_0]? = some 17) (w145_267_0e : s_145.1 267 0 = ((w145_267_0 : Nat) : Int)) (w145_267_1 : Nat) (w145_267_1k : gK[w145_267_1]? = some 17) (w145_267_1e : s_145.1 267 1 = ((w145_267_1 : Nat) : Int)) (w145_267_4 : Int) (w145_267_4l : 0 ≤ w145_267_4) (w145_267_4h : w145_267_4 ≤ 8) (w145_267_4e : s_145.1 267 4 = w145_267_4), ir gG rm_P L ys (d + 3) rm_p_X5_changes (145, [(0, (2, ((267 : Nat) : Int))), (1, (0, q145_l1)), (3, (0, q55_l3))], [(0, q145_s0)], s_145) (fun r : im_Re => ∃ z, r.1 = some (0, z) ∧ (tI r.2 ∧ fr [(16, 1), (16, 2)] s0 r.2 ∧ 0 ≤ z ∧ z ≤ 2)) := by
        intro q145_l1 q145_l1l q145_l1h q145_s0 q145_s0l q145_s0h f145_3h s_145 hT_145 hF_145 w145_267_0 w145_267_0k w145_267_0e w145_267_1 w145_267_1k w145_267_1e w145_267_4 w145_267_4l w145_267_4h w145_267_4e
        refine ir_s (pc' := 146) rfl rfl rfl rfl rfl rfl ?_
        refine ir_inc (pc' := 149) rfl rfl rfl rfl rfl (by omega) (by omega) ?_
        refine ir_goto (pc' := 55) rfl rfl ?_
        refine ir_w [(0, (2, ((267 : Nat) : Int))), (1, (0, q145_l1)), (2, (0, q145_s0)), (3, (0, (q55_l3 + 1)))] ⟨rfl, rfl, rfl, rfl, trivial⟩ ?_
        exact ih55 (q145_l1) (by omega) (by omega) (q145_s0) (by omega) (by omega) ((q55_l3 + 1)) (by omega) (by omega) s_145 hT_145 hF_145 w145_267_0 w145_267_0k w145_267_0e (w145_267_4) (by omega) (by omega) w145_267_4e (by omega)
      have J132 : ∀ (q132_l4 : Int) (q132_l4l : -2147483648 ≤ q132_l4) (q132_l4h : q132_l4 ≤ 2147483647) (q132_s0 : Int) (q132_s0l : 0 ≤ q132_s0) (q132_s0h : q132_s0 ≤ 1) (q132_s1 : Int) (q132_s1l : 0 ≤ q132_s1) (q132_s1h : q132_s1 ≤ 1) (f132_3h : q55_l3 ≤ 8) (s_132 : im_S) (hT_132 : tI s_132) (hF_132 : fr [(16, 1), (16, 2)] s0 s_132) (w132_267_0 : Nat) (w132_267_0k : gK[w132_267_0]? = some 17) (w132_267_0e : s_132.1 267 0 = ((w132_267_0 : Nat) : Int)) (w132_267_1 : Nat) (w132_267_1k : gK[w132_267_1]? = some 17) (w132_267_1e : s_132.1 267 1 = ((w132_267_1 : Nat) : Int)) (w132_267_4 : Int) (w132_267_4l : 0 ≤ w132_267_4) (w132_267_4h : w132_267_4 ≤ 8) (w132_267_4e : s_132.1 267 4 = w132_267_4), ir gG rm_P L ys (d + 3) rm_p_X5_changes (132, [(0, (2, ((267 : Nat) : Int))), (2, (0, q55_l2)), (3, (0, q55_l3)), (4, (0, q132_l4))], [(0, q132_s1), (0, q132_s0)], s_132) (fun r : im_Re => ∃ z, r.1 = some (0, z) ∧ (tI r.2 ∧ fr [(16, 1), (16, 2)] s0 r.2 ∧ 0 ≤ z ∧ z ≤ 2)) := by
        intro q132_l4 q132_l4l q132_l4h q132_s0 q132_s0l q132_s0h q132_s1 q132_s1l q132_s1h f132_3h s_132 hT_132 hF_132 w132_267_0 w132_267_0k w132_267_0e w132_267_1 w132_267_1k w132_267_1e w132_267_4 w132_267_4l w132_267_4h w132_267_4e
        refine ir_add (pc' := 133) rfl rfl (by omega) (by omega) ?_
        refine ir_s (pc' := 134) rfl rfl rfl rfl rfl rfl ?_
        refine ir_l (pc' := 136) rfl rfl rfl rfl rfl rfl ?_
        refine ir_z_eq (pt := 144) (pc' := 139) rfl rfl rfl (fun c1 => ?_) (fun c1 => ?_)
        · refine ir_l (pc' := 145) rfl rfl rfl rfl rfl rfl ?_
          refine ir_w [(0, (2, ((267 : Nat) : Int))), (1, (0, (q132_s0 + q132_s1))), (3, (0, q55_l3))] ⟨rfl, rfl, rfl, trivial⟩ ?_
          exact J145 ((q132_s0 + q132_s1)) (by omega) (by omega) (q55_l2) (by omega) (by omega) (by omega) s_132 hT_132 hF_132 w132_267_0 w132_267_0k w132_267_0e w132_267_1 w132_267_1k w132_267_1e (w132_267_4) (by omega) (by omega) w132_267_4e
        · refine ir_l (pc' := 141) rfl rfl rfl rfl rfl rfl ?_
          refine ir_goto (pc' := 145) rfl rfl ?_
          refine ir_w [(0, (2, ((267 : Nat) : Int))), (1, (0, (q132_s0 + q132_s1))), (3, (0, q55_l3))] ⟨rfl, rfl, rfl, trivial⟩ ?_
          exact J145 ((q132_s0 + q132_s1)) (by omega) (by omega) (q132_l4) (by omega) (by omega) (by omega) s_132 hT_132 hF_132 w132_267_0 w132_267_0k w132_267_0e w132_267_1 w132_267_1k w132_267_1e (w132_267_4) (by omega) (by omega) w132_267_4e
      have J76 : ∀ n : Nat, ∀ (q76_l4 : Int) (q76_l4l : -1 ≤ q76_l4) (q76_l4h : q76_l4 ≤ 7) (f76_1h : q55_l1 ≤ 1) (f76_3h : q55_l3 ≤ 8) (s_76 : im_S) (hT_76 : tI s_76) (hF_76 : fr [(16, 1), (16, 2)] s0 s_76) (w76_267_0 : Nat) (w76_267_0k : gK[w76_267_0]? = some 17) (w76_267_0e : s_76.1 267 0 = ((w76_267_0 : Nat) : Int)) (w76_267_4 : Int) (w76_267_4l : 0 ≤ w76_267_4) (w76_267_4h : w76_267_4 ≤ 8) (w76_267_4e : s_76.1 267 4 = w76_267_4), (q76_l4 - -1 + 1) ≤ (n : Int) → ir gG rm_P L ys (d + 3) rm_p_X5_changes (76, [(0, (2, ((267 : Nat) : Int))), (1, (0, q55_l1)), (2, (0, q55_l2)), (3, (0, q55_l3)), (4, (0, q76_l4))], [], s_76) (fun r : im_Re => ∃ z, r.1 = some (0, z) ∧ (tI r.2 ∧ fr [(16, 1), (16, 2)] s0 r.2 ∧ 0 ≤ z ∧ z ≤ 2)) := by
        intro n
        induction n with
        | zero => intro q76_l4 q76_l4l q76_l4h f76_1h f76_3h s_76 hT_76 hF_76 w76_267_0 w76_267_0k w76_267_0e w76_267_4 w76_267_4l w76_267_4h w76_267_4e hr; exfalso; omega
        | succ n ih76 =>
          intro q76_l4 q76_l4l q76_l4h f76_1h f76_3h s_76 hT_76 hF_76 w76_267_0 w76_267_0k w76_267_0e w76_267_4 w76_267_4l w76_267_4h w76_267_4e hr
          refine ir_l (pc' := 78) rfl rfl rfl rfl rfl rfl ?_
          refine ir_l (pc' := 79) rfl rfl rfl rfl rfl rfl ?_
          refine ir_c_lt (pt := 108) (pc' := 82) rfl rfl rfl (fun c2 => ?_) (fun c2 => ?_)
          · refine ir_l (pc' := 109) rfl rfl rfl rfl rfl rfl ?_
            refine ir_tgr (pc' := 112) rfl rfl rfl tf_15_1 tsk_15 hT_76 (fun b3 b3e b3k => ?_)
            refine ir_l (pc' := 113) rfl rfl rfl rfl rfl rfl ?_
            refine ir_taa (pc' := 114) (k2 := 16) rfl rfl te_17 (by decide) b3k hT_76 (by omega) (by omega) (fun b4 b4k => ?_)
            refine ir_tgi (pc' := 117) rfl rfl rfl tf_16_2 b4k hT_76 (fun z5 z5e z5l z5h => ?_)
            refine ir_s (pc' := 119) rfl rfl rfl rfl rfl rfl ?_
            refine ir_l (pc' := 120) rfl rfl rfl rfl rfl rfl ?_
            refine ir_l (pc' := 122) rfl rfl rfl rfl rfl rfl ?_
            refine ir_l (pc' := 123) rfl rfl rfl rfl rfl rfl ?_
            refine ir_iiA (pc' := 124) rfl rfl rfl rfl (fun z6 z6l z6h => ?_)
            refine ir_z_ge (pt := 131) (pc' := 127) rfl rfl rfl (fun c7 => ?_) (fun c7 => ?_)
            · refine ir_k (pc' := 132) (v := (0, 0)) rfl rfl rfl (fun _ => rfl) ?_
              refine ir_w [(0, (2, ((267 : Nat) : Int))), (2, (0, q55_l2)), (3, (0, q55_l3)), (4, (0, z5))] ⟨rfl, rfl, rfl, rfl, trivial⟩ ?_
              exact J132 (z5) (by omega) (by omega) (q55_l1) (by omega) (by omega) (0) (by omega) (by omega) (by omega) s_76 hT_76 hF_76 w76_267_0 w76_267_0k w76_267_0e b3 b3k b3e (w76_267_4) (by omega) (by omega) w76_267_4e
            · refine ir_k (pc' := 128) (v := (0, 1)) rfl rfl rfl (fun _ => rfl) ?_
              refine ir_goto (pc' := 132) rfl rfl ?_
              refine ir_w [(0, (2, ((267 : Nat) : Int))), (2, (0, q55_l2)), (3, (0, q55_l3)), (4, (0, z5))] ⟨rfl, rfl, rfl, rfl, trivial⟩ ?_
              exact J132 (z5) (by omega) (by omega) (q55_l1) (by omega) (by omega) (1) (by omega) (by omega) (by omega) s_76 hT_76 hF_76 w76_267_0 w76_267_0k w76_267_0e b3 b3k b3e (w76_267_4) (by omega) (by omega) w76_267_4e
          · refine ir_l (pc' := 83) rfl rfl rfl rfl rfl rfl ?_
            refine ir_tgr (pc' := 86) rfl rfl rfl tf_15_1 tsk_15 hT_76 (fun b8 b8e b8k => ?_)
            refine ir_l (pc' := 88) rfl rfl rfl rfl rfl rfl ?_
            refine ir_taa (pc' := 89) (k2 := 16) rfl rfl te_17 (by decide) b8k hT_76 (by omega) (by omega) (fun b9 b9k => ?_)
            refine ir_l (pc' := 90) rfl rfl rfl rfl rfl rfl ?_
            refine ir_getR (pc' := 93) rfl rfl rfl (gG_at tsk_15) rfl b8e ?_
            refine ir_l (pc' := 95) rfl rfl rfl rfl rfl rfl ?_
            refine ir_k (pc' := 96) (v := (0, 1)) rfl rfl rfl (fun _ => rfl) ?_
            refine ir_add (pc' := 97) rfl rfl (by omega) (by omega) ?_
            refine ir_taa (pc' := 98) (k2 := 16) rfl rfl te_17 (by decide) b8k hT_76 (by omega) (by omega) (fun b10 b10k => ?_)
            refine ir_k (pc' := 99) (v := (0, 1)) rfl rfl rfl (fun _ => rfl) ?_
            refine ir_cVV (pc' := 102) rfl rfl rfl rfl rfl (Nat.le_of_ble_eq_true rfl) oo_X1_add (gG_at b9k) (sf_add1_16_16 L ys d s_76 hT_76 b9 b9k b10 b10k (1) (by omega) (by omega) ) (fun s12 hr => ?_)
            obtain ⟨hT12, hG12⟩ := hr
            have hF12 := fr_trans hF_76 hG12 (by decide)
            have e13 : s12.1 267 0 = ((w76_267_0 : Nat) : Int) := (hG12.1 _ _ tsk_15 0 (by decide)).trans w76_267_0e
            have e14 : s12.1 267 4 = w76_267_4 := (hG12.1 _ _ tsk_15 4 (by decide)).trans w76_267_4e
            have e15 : s12.1 267 1 = ((b8 : Nat) : Int) := (hG12.1 _ _ tsk_15 1 (by decide)).trans b8e
            refine ir_inc (pc' := 105) rfl rfl rfl rfl rfl (by omega) (by omega) ?_
            refine ir_goto (pc' := 76) rfl rfl ?_
            refine ir_w [(0, (2, ((267 : Nat) : Int))), (1, (0, q55_l1)), (2, (0, q55_l2)), (3, (0, q55_l3)), (4, (0, (q76_l4 + (-1))))] ⟨rfl, rfl, rfl, rfl, rfl, trivial⟩ ?_
            exact ih76 ((q76_l4 + (-1))) (by omega) (by omega) (by omega) (by omega) s12 hT12 hF12 w76_267_0 w76_267_0k e13 (w76_267_4) (by omega) (by omega) e14 (by omega)
      refine ir_l (pc' := 56) rfl rfl rfl rfl rfl rfl ?_
      refine ir_l (pc' := 57) rfl rfl rfl rfl rfl rfl ?_
      refine ir_getI (pc' := 60) rfl rfl rfl (gG_at tsk_15) rfl (by decide) (by decide) w55_267_4e (by omega) (by omega) ?_
      refine ir_c_gt (pt := 152) (pc' := 63) rfl rfl rfl (fun c16 => ?_) (fun c16 => ?_)
      · refine ir_w [(1, (0, q55_l1))] ⟨rfl, trivial⟩ ?_
        exact J152 (q55_l1) (by omega) (by omega) s_55 hT_55 hF_55 w55_267_0 w55_267_0k w55_267_0e (w55_267_4) (by omega) (by omega) w55_267_4e
      · refine ir_l (pc' := 64) rfl rfl rfl rfl rfl rfl ?_
        refine ir_k (pc' := 65) (v := (0, 2)) rfl rfl rfl (fun _ => rfl) ?_
        refine ir_c_ge (pt := 152) (pc' := 68) rfl rfl rfl (fun c17 => ?_) (fun c17 => ?_)
        · refine ir_w [(1, (0, q55_l1))] ⟨rfl, trivial⟩ ?_
          exact J152 (q55_l1) (by omega) (by omega) s_55 hT_55 hF_55 w55_267_0 w55_267_0k w55_267_0e (w55_267_4) (by omega) (by omega) w55_267_4e
        · refine ir_l (pc' := 69) rfl rfl rfl rfl rfl rfl ?_
          refine ir_getI (pc' := 72) rfl rfl rfl (gG_at tsk_15) rfl (by decide) (by decide) w55_267_4e (by omega) (by omega) ?_
          refine ir_k (pc' := 73) (v := (0, 1)) rfl rfl rfl (fun _ => rfl) ?_
          refine ir_sub (pc' := 74) rfl rfl (by omega) (by omega) ?_
          refine ir_s (pc' := 76) rfl rfl rfl rfl rfl rfl ?_
          refine ir_w [(0, (2, ((267 : Nat) : Int))), (1, (0, q55_l1)), (2, (0, q55_l2)), (3, (0, q55_l3)), (4, (0, (w55_267_4 - 1)))] ⟨rfl, rfl, rfl, rfl, rfl, trivial⟩ ?_
          exact J76 _ ((w55_267_4 - 1)) (by omega) (by omega) (by omega) (by omega) s_55 hT_55 hF_55 w55_267_0 w55_267_0k w55_267_0e (w55_267_4) (by omega) (by omega) w55_267_4e (Int.self_le_toNat _)
  have J15 : ∀ n : Nat, ∀ (q15_l1 : Int) (q15_l1l : 0 ≤ q15_l1) (q15_l1h : q15_l1 ≤ 9) (s_15 : im_S) (hT_15 : tI s_15) (hF_15 : fr [(16, 1), (16, 2)] s0 s_15) (w15_267_0 : Nat) (w15_267_0k : gK[w15_267_0]? = some 17) (w15_267_0e : s_15.1 267 0 = ((w15_267_0 : Nat) : Int)), (9 + 1 - q15_l1) ≤ (n : Int) → ir gG rm_P L ys (d + 3) rm_p_X5_changes (15, [(0, (2, ((267 : Nat) : Int))), (1, (0, q15_l1))], [], s_15) (fun r : im_Re => ∃ z, r.1 = some (0, z) ∧ (tI r.2 ∧ fr [(16, 1), (16, 2)] s0 r.2 ∧ 0 ≤ z ∧ z ≤ 2)) := by
    intro n
    induction n with
    | zero => intro q15_l1 q15_l1l q15_l1h s_15 hT_15 hF_15 w15_267_0 w15_267_0k w15_267_0e hr; exfalso; omega
    | succ n ih15 =>
      intro q15_l1 q15_l1l q15_l1h s_15 hT_15 hF_15 w15_267_0 w15_267_0k w15_267_0e hr
      refine ir_l (pc' := 16) rfl rfl rfl rfl rfl rfl ?_
      refine ir_l (pc' := 17) rfl rfl rfl rfl rfl rfl ?_
      refine ir_tgi (pc' := 20) rfl rfl rfl tf_15_4 tsk_15 hT_15 (fun z18 z18e z18l z18h => ?_)
      refine ir_c_gt (pt := 49) (pc' := 23) rfl rfl rfl (fun c19 => ?_) (fun c19 => ?_)
      · refine ir_k (pc' := 50) (v := (0, 0)) rfl rfl rfl (fun _ => rfl) ?_
        refine ir_s (pc' := 51) rfl rfl rfl rfl rfl rfl ?_
        refine ir_k (pc' := 52) (v := (0, 0)) rfl rfl rfl (fun _ => rfl) ?_
        refine ir_s (pc' := 53) rfl rfl rfl rfl rfl rfl ?_
        refine ir_k (pc' := 54) (v := (0, 0)) rfl rfl rfl (fun _ => rfl) ?_
        refine ir_s (pc' := 55) rfl rfl rfl rfl rfl rfl ?_
        refine ir_w [(0, (2, ((267 : Nat) : Int))), (1, (0, 0)), (2, (0, 0)), (3, (0, 0))] ⟨rfl, rfl, rfl, rfl, trivial⟩ ?_
        exact J55 _ (0) (by omega) (by omega) (0) (by omega) (by omega) (0) (by omega) (by omega) s_15 hT_15 hF_15 w15_267_0 w15_267_0k w15_267_0e (z18) (by omega) (by omega) z18e (Int.self_le_toNat _)
      · refine ir_l (pc' := 24) rfl rfl rfl rfl rfl rfl ?_
        refine ir_tgr (pc' := 27) rfl rfl rfl tf_15_1 tsk_15 hT_15 (fun b20 b20e b20k => ?_)
        refine ir_l (pc' := 28) rfl rfl rfl rfl rfl rfl ?_
        refine ir_taa (pc' := 29) (k2 := 16) rfl rfl te_17 (by decide) b20k hT_15 (by omega) (by omega) (fun b21 b21k => ?_)
        refine ir_l (pc' := 30) rfl rfl rfl rfl rfl rfl ?_
        refine ir_getR (pc' := 33) rfl rfl rfl (gG_at tsk_15) rfl w15_267_0e ?_
        refine ir_l (pc' := 34) rfl rfl rfl rfl rfl rfl ?_
        refine ir_getI (pc' := 37) rfl rfl rfl (gG_at tsk_15) rfl (by decide) (by decide) z18e (by omega) (by omega) ?_
        refine ir_l (pc' := 38) rfl rfl rfl rfl rfl rfl ?_
        refine ir_sub (pc' := 39) rfl rfl (by omega) (by omega) ?_
        refine ir_taa (pc' := 40) (k2 := 16) rfl rfl te_17 (by decide) w15_267_0k hT_15 (by omega) (by omega) (fun b22 b22k => ?_)
        refine ir_cVV (pc' := 43) rfl rfl rfl rfl rfl (Nat.le_of_ble_eq_true rfl) oo_X1_copy (gG_at b21k) (sf_copy1_16_16 L ys (d + 1) s_15 hT_15 b21 b21k b22 b22k ) (fun s24 hr => ?_)
        obtain ⟨hT24, hG24⟩ := hr
        have hF24 := fr_trans hF_15 hG24 (by decide)
        have e25 : s24.1 267 0 = ((w15_267_0 : Nat) : Int) := (hG24.1 _ _ tsk_15 0 (by decide)).trans w15_267_0e
        have e26 : s24.1 267 4 = z18 := (hG24.1 _ _ tsk_15 4 (by decide)).trans z18e
        have e27 : s24.1 267 1 = ((b20 : Nat) : Int) := (hG24.1 _ _ tsk_15 1 (by decide)).trans b20e
        refine ir_inc (pc' := 46) rfl rfl rfl rfl rfl (by omega) (by omega) ?_
        refine ir_goto (pc' := 15) rfl rfl ?_
        refine ir_w [(0, (2, ((267 : Nat) : Int))), (1, (0, (q15_l1 + 1)))] ⟨rfl, rfl, trivial⟩ ?_
        exact ih15 ((q15_l1 + 1)) (by omega) (by omega) s24 hT24 hF24 w15_267_0 w15_267_0k e25 (by omega)
  refine ir_l (pc' := 1) rfl rfl rfl rfl rfl rfl ?_
  refine ir_l (pc' := 2) rfl rfl rfl rfl rfl rfl ?_
  refine ir_tgr (pc' := 5) rfl rfl rfl tf_15_0 tsk_15 hT0 (fun b28 b28e b28k => ?_)
  refine ir_cVI (pc' := 8) rfl rfl rfl rfl rfl (Nat.le_of_ble_eq_true rfl) oo_X5_mixed (gG_at tsk_15) (sf_mixed5 L ys (d + 2) s0 hT0 b28 b28k ) (fun z29 s30 hr => ?_)
  obtain ⟨hT30, hG30, z29l, z29h⟩ := hr
  have hF30 := fr_trans hF0 hG30 (by decide)
  have e31 : s30.1 267 0 = ((b28 : Nat) : Int) := (hG30.1 _ _ tsk_15 0 (by decide)).trans b28e
  refine ir_z_ne (pt := 13) (pc' := 11) rfl rfl rfl (fun c32 => ?_) (fun c32 => ?_)
  · refine ir_k (pc' := 14) (v := (0, 0)) rfl rfl rfl (fun _ => rfl) ?_
    refine ir_s (pc' := 15) rfl rfl rfl rfl rfl rfl ?_
    refine ir_w [(0, (2, ((267 : Nat) : Int))), (1, (0, 0))] ⟨rfl, rfl, trivial⟩ ?_
    exact J15 _ (0) (by omega) (by omega) s30 hT30 hF30 b28 b28k e31 (Int.self_le_toNat _)
  · refine ir_k (pc' := 12) (v := (0, 0)) rfl rfl rfl (fun _ => rfl) ?_
    exact ir_iret rfl rfl ⟨_, rfl, hT30, hF30, by omega, by omega⟩
theorem sf_halve5 (L : Nat) (ys : Nat → Int32) (d : Nat) (s0 : im_S) (hT0 : tI s0) (pr0 : s0.1 267 5 ≤ 255) : icV gG rm_P L ys (d + 3) 163 [(2, ((267 : Nat) : Int))] s0 (fun s => tI s ∧ fr [(15, 5), (16, 1), (16, 2), (19, 1), (19, 2)] s0 s) := by
  refine ic_startM (M := rm_p_X5_halve) om_X5_halve (Nat.le_of_ble_eq_true rfl) ?_
  refine ir_w [(0, (2, ((267 : Nat) : Int)))] ⟨rfl, trivial⟩ ?_
  have hF0 := fr_refl [(15, 5), (16, 1), (16, 2), (19, 1), (19, 2)] s0
  have J2 : ∀ n : Nat, ∀ (q2_l1 : Int) (q2_l1l : 0 ≤ q2_l1) (q2_l1h : q2_l1 ≤ 8) (s_2 : im_S) (hT_2 : tI s_2) (hF_2 : fr [(15, 5), (16, 1), (16, 2), (19, 1), (19, 2)] s0 s_2) (w2_267_5 : Int) (w2_267_5l : -32 ≤ w2_267_5) (w2_267_5h : w2_267_5 ≤ 255) (w2_267_5e : s_2.1 267 5 = w2_267_5), (8 + 1 - q2_l1) ≤ (n : Int) → ir gG rm_P L ys (d + 2) rm_p_X5_halve (2, [(0, (2, ((267 : Nat) : Int))), (1, (0, q2_l1))], [], s_2) (fun r : im_Re => r.1 = none ∧ (tI r.2 ∧ fr [(15, 5), (16, 1), (16, 2), (19, 1), (19, 2)] s0 r.2)) := by
    intro n
    induction n with
    | zero => intro q2_l1 q2_l1l q2_l1h s_2 hT_2 hF_2 w2_267_5 w2_267_5l w2_267_5h w2_267_5e hr; exfalso; omega
    | succ n ih2 =>
      intro q2_l1 q2_l1l q2_l1h s_2 hT_2 hF_2 w2_267_5 w2_267_5l w2_267_5h w2_267_5e hr
      refine ir_l (pc' := 3) rfl rfl rfl rfl rfl rfl ?_
      refine ir_l (pc' := 4) rfl rfl rfl rfl rfl rfl ?_
      refine ir_tgi (pc' := 7) rfl rfl rfl tf_15_4 tsk_15 hT_2 (fun z1 z1e z1l z1h => ?_)
      refine ir_c_ge (pt := 31) (pc' := 10) rfl rfl rfl (fun c2 => ?_) (fun c2 => ?_)
      · refine ir_l (pc' := 32) rfl rfl rfl rfl rfl rfl ?_
        refine ir_tgr (pc' := 35) rfl rfl rfl tf_15_2 tsk_15 hT_2 (fun b3 b3e b3k => ?_)
        refine ir_k (pc' := 36) (v := (0, 1)) rfl rfl rfl (fun _ => rfl) ?_
        refine ir_cVV (pc' := 39) rfl rfl rfl rfl rfl (Nat.le_of_ble_eq_true rfl) oo_X1_shiftUp (gG_at b3k) (sf_shiftUp1_19 L ys d s_2 hT_2 b3 b3k (1) (by omega) (by omega) ) (fun s5 hr => ?_)
        obtain ⟨hT5, hG5⟩ := hr
        have hF5 := fr_trans hF_2 hG5 (by decide)
        have e6 : s5.1 267 5 = w2_267_5 := (hG5.1 _ _ tsk_15 5 (by decide)).trans w2_267_5e
        have e7 : s5.1 267 4 = z1 := (hG5.1 _ _ tsk_15 4 (by decide)).trans z1e
        have e8 : s5.1 267 2 = ((b3 : Nat) : Int) := (hG5.1 _ _ tsk_15 2 (by decide)).trans b3e
        refine ir_l (pc' := 40) rfl rfl rfl rfl rfl rfl ?_
        refine ir_x (pc' := 41) rfl rfl rfl (fun _ => rfl) ?_
        refine ir_getI (pc' := 44) rfl rfl rfl (gG_at tsk_15) rfl (by decide) (by decide) e6 (by omega) (by omega) ?_
        refine ir_k (pc' := 45) (v := (0, 1)) rfl rfl rfl (fun _ => rfl) ?_
        refine ir_add (pc' := 46) rfl rfl (by omega) (by omega) ?_
        refine ir_tpi (pc' := 49) rfl rfl rfl tf_15_5 rfl tsk_15 hT5 rfl (by omega) (by omega) (fun s9 hT9 e9 g9 r9 => ?_)
        have hF9 := fr_put (k := 15) hF5 (by decide) tsk_15 g9 r9
        have e10 : s9.1 267 4 = z1 := (g9 267 4 (fun z => absurd z.2 (by decide))).trans e7
        have e11 : s9.1 267 2 = ((b3 : Nat) : Int) := (g9 267 2 (fun z => absurd z.2 (by decide))).trans e8
        exact ir_vret rfl rfl ⟨rfl, hT9, hF9⟩
      · refine ir_l (pc' := 11) rfl rfl rfl rfl rfl rfl ?_
        refine ir_tgr (pc' := 14) rfl rfl rfl tf_15_0 tsk_15 hT_2 (fun b12 b12e b12k => ?_)
        refine ir_l (pc' := 15) rfl rfl rfl rfl rfl rfl ?_
        refine ir_taa (pc' := 16) (k2 := 16) rfl rfl te_17 (by decide) b12k hT_2 (by omega) (by omega) (fun b13 b13k => ?_)
        refine ir_l (pc' := 17) rfl rfl rfl rfl rfl rfl ?_
        refine ir_getI (pc' := 20) rfl rfl rfl (gG_at tsk_15) rfl (by decide) (by decide) z1e (by omega) (by omega) ?_
        refine ir_l (pc' := 21) rfl rfl rfl rfl rfl rfl ?_
        refine ir_sub (pc' := 22) rfl rfl (by omega) (by omega) ?_
        refine ir_cVV (pc' := 25) rfl rfl rfl rfl rfl (Nat.le_of_ble_eq_true rfl) oo_X1_shiftUp (gG_at b13k) (sf_shiftUp1_16 L ys d s_2 hT_2 b13 b13k ((z1 - q2_l1)) (by omega) (by omega) ) (fun s15 hr => ?_)
        obtain ⟨hT15, hG15⟩ := hr
        have hF15 := fr_trans hF_2 hG15 (by decide)
        have e16 : s15.1 267 5 = w2_267_5 := (hG15.1 _ _ tsk_15 5 (by decide)).trans w2_267_5e
        have e17 : s15.1 267 4 = z1 := (hG15.1 _ _ tsk_15 4 (by decide)).trans z1e
        have e18 : s15.1 267 0 = ((b12 : Nat) : Int) := (hG15.1 _ _ tsk_15 0 (by decide)).trans b12e
        refine ir_inc (pc' := 28) rfl rfl rfl rfl rfl (by omega) (by omega) ?_
        refine ir_goto (pc' := 2) rfl rfl ?_
        refine ir_w [(0, (2, ((267 : Nat) : Int))), (1, (0, (q2_l1 + 1)))] ⟨rfl, rfl, trivial⟩ ?_
        exact ih2 ((q2_l1 + 1)) (by omega) (by omega) s15 hT15 hF15 (w2_267_5) (by omega) (by omega) e16 (by omega)
  obtain ⟨z19, z19e, z19l, z19h⟩ := tI_i tf_15_5 tsk_15 hT0
  refine ir_k (pc' := 1) (v := (0, 0)) rfl rfl rfl (fun _ => rfl) ?_
  refine ir_s (pc' := 2) rfl rfl rfl rfl rfl rfl ?_
  refine ir_w [(0, (2, ((267 : Nat) : Int))), (1, (0, 0))] ⟨rfl, rfl, trivial⟩ ?_
  exact J2 _ (0) (by omega) (by omega) s0 hT0 hF0 (z19) (by omega) (by omega) z19e (Int.self_le_toNat _)
theorem sf_shiftDown1_16 (L : Nat) (ys : Nat → Int32) (d : Nat) (s0 : im_S) (hT0 : tI s0) (a0 : Nat) (a0k : gK[a0]? = some 16) (x1 : Int) (x1l : -2147483648 ≤ x1) (x1h : x1 ≤ 2147483647) : icV gG rm_P L ys (d + 2) 117 [(2, (a0 : Int)), (0, x1)] s0 (fun s => tI s ∧ fr [(16, 1), (16, 2)] s0 s) := by
  refine ic_startM (M := rm_p_X1_shiftDown) om_X1_shiftDown (Nat.le_of_ble_eq_true rfl) ?_
  refine ir_w [(0, (2, ((a0 : Nat) : Int))), (1, (0, x1))] ⟨rfl, rfl, trivial⟩ ?_
  have hF0 := fr_refl [(16, 1), (16, 2)] s0
  have J24 : ∀ n : Nat, ∀ (q24_l2 : Int) (q24_l2l : 0 ≤ q24_l2) (q24_l2h : q24_l2 ≤ 67108863) (q24_l3 : Int) (q24_l3l : 0 ≤ q24_l3) (q24_l3h : q24_l3 ≤ 31) (q24_l4 : Int) (q24_l4l : 0 ≤ q24_l4) (q24_l4h : q24_l4 ≤ 80) (s_24 : im_S) (hT_24 : tI s_24) (hF_24 : fr [(16, 1), (16, 2)] s0 s_24) (w24_a0_2 : Int) (w24_a0_2l : -2147483648 ≤ w24_a0_2) (w24_a0_2h : w24_a0_2 ≤ 2147483647) (w24_a0_2e : s_24.1 a0 2 = w24_a0_2), (80 + 1 - q24_l4) ≤ (n : Int) → ir gG rm_P L ys (d + 1) rm_p_X1_shiftDown (24, [(0, (2, ((a0 : Nat) : Int))), (2, (0, q24_l2)), (3, (0, q24_l3)), (4, (0, q24_l4))], [], s_24) (fun r : im_Re => r.1 = none ∧ (tI r.2 ∧ fr [(16, 1), (16, 2)] s0 r.2)) := by
    intro n
    induction n with
    | zero => intro q24_l2 q24_l2l q24_l2h q24_l3 q24_l3l q24_l3h q24_l4 q24_l4l q24_l4h s_24 hT_24 hF_24 w24_a0_2 w24_a0_2l w24_a0_2h w24_a0_2e hr; exfalso; omega
    | succ n ih24 =>
      intro q24_l2 q24_l2l q24_l2h q24_l3 q24_l3l q24_l3h q24_l4 q24_l4l q24_l4h s_24 hT_24 hF_24 w24_a0_2 w24_a0_2l w24_a0_2h w24_a0_2e hr
      have J97 : ∀ (q97_l5 : Int) (q97_l5l : 0 ≤ q97_l5) (q97_l5h : q97_l5 ≤ 4294967295) (q97_s0 : Int) (q97_s0l : 0 ≤ q97_s0) (q97_s0h : q97_s0 ≤ 4294967295) (f97_4h : q24_l4 ≤ 79) (s_97 : im_S) (hT_97 : tI s_97) (hF_97 : fr [(16, 1), (16, 2)] s0 s_97) (w97_a0_1 : Int) (w97_a0_1l : 1 ≤ w97_a0_1) (w97_a0_1h : w97_a0_1 ≤ 80) (w97_a0_1e : s_97.1 a0 1 = w97_a0_1) (w97_a0_2 : Int) (w97_a0_2l : -2147483648 ≤ w97_a0_2) (w97_a0_2h : w97_a0_2 ≤ 2147483647) (w97_a0_2e : s_97.1 a0 2 = w97_a0_2), ir gG rm_P L ys (d + 1) rm_p_X1_shiftDown (97, [(0, (2, ((a0 : Nat) : Int))), (2, (0, q24_l2)), (3, (0, q24_l3)), (4, (0, q24_l4)), (5, (1, q97_l5))], [(1, q97_s0)], s_97) (fun r : im_Re => r.1 = none ∧ (tI r.2 ∧ fr [(16, 1), (16, 2)] s0 r.2)) := by
        intro q97_l5 q97_l5l q97_l5h q97_s0 q97_s0l q97_s0h f97_4h s_97 hT_97 hF_97 w97_a0_1 w97_a0_1l w97_a0_1h w97_a0_1e w97_a0_2 w97_a0_2l w97_a0_2h w97_a0_2e
        refine ir_s2 (pc' := 99) rfl rfl rfl rfl rfl rfl ?_
        refine ir_l (pc' := 100) rfl rfl rfl rfl rfl rfl ?_
        refine ir_tgr (pc' := 103) rfl rfl rfl tf_16_0 a0k hT_97 (fun b1 b1e b1k => ?_)
        refine ir_l (pc' := 105) rfl rfl rfl rfl rfl rfl ?_
        refine ir_l (pc' := 107) rfl rfl rfl rfl rfl rfl ?_
        refine ir_k (pc' := 109) (v := (0, 32)) rfl rfl rfl (fun _ => rfl) ?_
        refine ir_jijA (pc' := 110) rfl rfl rfl rfl (fun z2 z2l z2h => ?_)
        refine ir_l (pc' := 112) rfl rfl rfl rfl rfl rfl ?_
        refine ir_jjA (pc' := 113) rfl rfl rfl rfl (fun z3 z3l z3h => ?_)
        refine ir_l (pc' := 114) rfl rfl rfl rfl rfl rfl ?_
        refine ir_jijA (pc' := 115) rfl rfl rfl rfl (fun z4 z4l z4h => ?_)
        refine ir_j1A (pc' := 116) rfl rfl rfl rfl (fun z5 z5e z5l z5h => ?_)
        clear z5e
        refine ir_tis (pc' := 117) rfl rfl rfl rfl te_18 b1k hT_97 (by omega) (by omega) (rfl) (by omega) (by omega) (fun s6 hT6 r6 o6 => ?_)
        have hF6 := fr_row hF_97 r6 o6
        have e7 : s6.1 a0 2 = w97_a0_2 := by rw [r6]; exact w97_a0_2e
        have e8 : s6.1 a0 1 = w97_a0_1 := by rw [r6]; exact w97_a0_1e
        have e9 : s6.1 a0 0 = ((b1 : Nat) : Int) := by rw [r6]; exact b1e
        refine ir_inc (pc' := 120) rfl rfl rfl rfl rfl (by omega) (by omega) ?_
        refine ir_goto (pc' := 24) rfl rfl ?_
        refine ir_w [(0, (2, ((a0 : Nat) : Int))), (2, (0, q24_l2)), (3, (0, q24_l3)), (4, (0, (q24_l4 + 1)))] ⟨rfl, rfl, rfl, rfl, trivial⟩ ?_
        exact ih24 (q24_l2) (by omega) (by omega) (q24_l3) (by omega) (by omega) ((q24_l4 + 1)) (by omega) (by omega) s6 hT6 hF6 (w97_a0_2) (by omega) (by omega) e7 (by omega)
      have J62 : ∀ (q62_s0 : Int) (q62_s0l : 0 ≤ q62_s0) (q62_s0h : q62_s0 ≤ 4294967295) (f62_4h : q24_l4 ≤ 79) (s_62 : im_S) (hT_62 : tI s_62) (hF_62 : fr [(16, 1), (16, 2)] s0 s_62) (w62_a0_1 : Int) (w62_a0_1l : 1 ≤ w62_a0_1) (w62_a0_1h : w62_a0_1 ≤ 80) (w62_a0_1e : s_62.1 a0 1 = w62_a0_1) (w62_a0_2 : Int) (w62_a0_2l : -2147483648 ≤ w62_a0_2) (w62_a0_2h : w62_a0_2 ≤ 2147483647) (w62_a0_2e : s_62.1 a0 2 = w62_a0_2), ir gG rm_P L ys (d + 1) rm_p_X1_shiftDown (62, [(0, (2, ((a0 : Nat) : Int))), (2, (0, q24_l2)), (3, (0, q24_l3)), (4, (0, q24_l4))], [(1, q62_s0)], s_62) (fun r : im_Re => r.1 = none ∧ (tI r.2 ∧ fr [(16, 1), (16, 2)] s0 r.2)) := by
        intro q62_s0 q62_s0l q62_s0h f62_4h s_62 hT_62 hF_62 w62_a0_1 w62_a0_1l w62_a0_1h w62_a0_1e w62_a0_2 w62_a0_2l w62_a0_2h w62_a0_2e
        refine ir_s2 (pc' := 64) rfl rfl rfl rfl rfl rfl ?_
        refine ir_l (pc' := 66) rfl rfl rfl rfl rfl rfl ?_
        refine ir_l (pc' := 67) rfl rfl rfl rfl rfl rfl ?_
        refine ir_add (pc' := 68) rfl rfl (by omega) (by omega) ?_
        refine ir_k (pc' := 69) (v := (0, 1)) rfl rfl rfl (fun _ => rfl) ?_
        refine ir_add (pc' := 70) rfl rfl (by omega) (by omega) ?_
        refine ir_l (pc' := 71) rfl rfl rfl rfl rfl rfl ?_
        refine ir_getI (pc' := 74) rfl rfl rfl (gG_at a0k) rfl (by decide) (by decide) w62_a0_1e (by omega) (by omega) ?_
        refine ir_c_ge (pt := 96) (pc' := 77) rfl rfl rfl (fun c10 => ?_) (fun c10 => ?_)
        · refine ir_k (pc' := 97) (v := (1, 0)) rfl rfl rfl (fun _ => rfl) ?_
          refine ir_w [(0, (2, ((a0 : Nat) : Int))), (2, (0, q24_l2)), (3, (0, q24_l3)), (4, (0, q24_l4)), (5, (1, q62_s0))] ⟨rfl, rfl, rfl, rfl, rfl, trivial⟩ ?_
          exact J97 (q62_s0) (by omega) (by omega) (0) (by omega) (by omega) (by omega) s_62 hT_62 hF_62 (w62_a0_1) (by omega) (by omega) w62_a0_1e (w62_a0_2) (by omega) (by omega) w62_a0_2e
        · refine ir_l (pc' := 78) rfl rfl rfl rfl rfl rfl ?_
          refine ir_tgr (pc' := 81) rfl rfl rfl tf_16_0 a0k hT_62 (fun b11 b11e b11k => ?_)
          refine ir_l (pc' := 83) rfl rfl rfl rfl rfl rfl ?_
          refine ir_l (pc' := 84) rfl rfl rfl rfl rfl rfl ?_
          refine ir_add (pc' := 85) rfl rfl (by omega) (by omega) ?_
          refine ir_k (pc' := 86) (v := (0, 1)) rfl rfl rfl (fun _ => rfl) ?_
          refine ir_add (pc' := 87) rfl rfl (by omega) (by omega) ?_
          refine ir_tia (pc' := 88) rfl rfl te_18 (by decide) b11k hT_62 (by omega) (by omega) (fun z12 z12e z12l z12h => ?_)
          clear z12e
          refine ir_i2l (pc' := 89) rfl rfl (by omega) (by omega) ?_
          refine ir_k (pc' := 92) (v := (1, 4294967295)) rfl rfl rfl (fun _ => rfl) ?_
          refine ir_landm (pc' := 93) rfl rfl (by decide) (by decide) (fun z13 z13l z13h => ?_)
          refine ir_goto (pc' := 97) rfl rfl ?_
          refine ir_w [(0, (2, ((a0 : Nat) : Int))), (2, (0, q24_l2)), (3, (0, q24_l3)), (4, (0, q24_l4)), (5, (1, q62_s0))] ⟨rfl, rfl, rfl, rfl, rfl, trivial⟩ ?_
          exact J97 (q62_s0) (by omega) (by omega) (z13) (by omega) (by omega) (by omega) s_62 hT_62 hF_62 (w62_a0_1) (by omega) (by omega) w62_a0_1e (w62_a0_2) (by omega) (by omega) w62_a0_2e
      refine ir_l (pc' := 26) rfl rfl rfl rfl rfl rfl ?_
      refine ir_l (pc' := 27) rfl rfl rfl rfl rfl rfl ?_
      refine ir_tgi (pc' := 30) rfl rfl rfl tf_16_1 a0k hT_24 (fun z14 z14e z14l z14h => ?_)
      refine ir_c_ge (pt := 123) (pc' := 33) rfl rfl rfl (fun c15 => ?_) (fun c15 => ?_)
      · refine ir_l (pc' := 124) rfl rfl rfl rfl rfl rfl ?_
        refine ir_cVV (pc' := 127) rfl rfl rfl rfl rfl (Nat.le_of_ble_eq_true rfl) oo_X1_trim (gG_at a0k) (sf_trim1_16 L ys d s_24 hT_24 a0 a0k ) (fun s17 hr => ?_)
        obtain ⟨hT17, hG17⟩ := hr
        have hF17 := fr_trans hF_24 hG17 (by decide)
        exact ir_vret rfl rfl ⟨rfl, hT17, hF17⟩
      · refine ir_l (pc' := 35) rfl rfl rfl rfl rfl rfl ?_
        refine ir_l (pc' := 36) rfl rfl rfl rfl rfl rfl ?_
        refine ir_add (pc' := 37) rfl rfl (by omega) (by omega) ?_
        refine ir_l (pc' := 38) rfl rfl rfl rfl rfl rfl ?_
        refine ir_getI (pc' := 41) rfl rfl rfl (gG_at a0k) rfl (by decide) (by decide) z14e (by omega) (by omega) ?_
        refine ir_c_ge (pt := 61) (pc' := 44) rfl rfl rfl (fun c18 => ?_) (fun c18 => ?_)
        · refine ir_k (pc' := 62) (v := (1, 0)) rfl rfl rfl (fun _ => rfl) ?_
          refine ir_w [(0, (2, ((a0 : Nat) : Int))), (2, (0, q24_l2)), (3, (0, q24_l3)), (4, (0, q24_l4))] ⟨rfl, rfl, rfl, rfl, trivial⟩ ?_
          exact J62 (0) (by omega) (by omega) (by omega) s_24 hT_24 hF_24 (z14) (by omega) (by omega) z14e (w24_a0_2) (by omega) (by omega) w24_a0_2e
        · refine ir_l (pc' := 45) rfl rfl rfl rfl rfl rfl ?_
          refine ir_tgr (pc' := 48) rfl rfl rfl tf_16_0 a0k hT_24 (fun b19 b19e b19k => ?_)
          refine ir_l (pc' := 50) rfl rfl rfl rfl rfl rfl ?_
          refine ir_l (pc' := 51) rfl rfl rfl rfl rfl rfl ?_
          refine ir_add (pc' := 52) rfl rfl (by omega) (by omega) ?_
          refine ir_tia (pc' := 53) rfl rfl te_18 (by decide) b19k hT_24 (by omega) (by omega) (fun z20 z20e z20l z20h => ?_)
          clear z20e
          refine ir_i2l (pc' := 54) rfl rfl (by omega) (by omega) ?_
          refine ir_k (pc' := 57) (v := (1, 4294967295)) rfl rfl rfl (fun _ => rfl) ?_
          refine ir_landm (pc' := 58) rfl rfl (by decide) (by decide) (fun z21 z21l z21h => ?_)
          refine ir_goto (pc' := 62) rfl rfl ?_
          refine ir_w [(0, (2, ((a0 : Nat) : Int))), (2, (0, q24_l2)), (3, (0, q24_l3)), (4, (0, q24_l4))] ⟨rfl, rfl, rfl, rfl, trivial⟩ ?_
          exact J62 (z21) (by omega) (by omega) (by omega) s_24 hT_24 hF_24 (z14) (by omega) (by omega) z14e (w24_a0_2) (by omega) (by omega) w24_a0_2e
  have J20 : ∀ (s_20 : im_S) (hT_20 : tI s_20) (hF_20 : fr [(16, 1), (16, 2)] s0 s_20), ir gG rm_P L ys (d + 1) rm_p_X1_shiftDown (20, [], [], s_20) (fun r : im_Re => r.1 = none ∧ (tI r.2 ∧ fr [(16, 1), (16, 2)] s0 r.2)) := by
    intro s_20 hT_20 hF_20
    exact ir_vret rfl rfl ⟨rfl, hT_20, hF_20⟩
  refine ir_l (pc' := 1) rfl rfl rfl rfl rfl rfl ?_
  refine ir_k (pc' := 2) (v := (0, 5)) rfl rfl rfl (fun _ => rfl) ?_
  refine ir_shr (pc' := 3) (y := 5) (k := 5) (m := 32) rfl rfl (by decide) rfl (by decide) (by omega) (by omega) ?_
  refine ir_s (pc' := 4) rfl rfl rfl rfl rfl rfl ?_
  refine ir_l (pc' := 5) rfl rfl rfl rfl rfl rfl ?_
  refine ir_k (pc' := 7) (v := (0, 31)) rfl rfl rfl (fun _ => rfl) ?_
  refine ir_andm (pc' := 8) rfl rfl (by decide) (by decide) (fun z22 z22l z22h => ?_)
  refine ir_s (pc' := 9) rfl rfl rfl rfl rfl rfl ?_
  refine ir_l (pc' := 10) rfl rfl rfl rfl rfl rfl ?_
  refine ir_z_le (pt := 20) (pc' := 13) rfl rfl rfl (fun c23 => ?_) (fun c23 => ?_)
  · refine ir_w [] trivial ?_
    exact J20 s0 hT0 hF0
  · refine ir_l (pc' := 14) rfl rfl rfl rfl rfl rfl ?_
    refine ir_tgi (pc' := 17) rfl rfl rfl tf_16_2 a0k hT0 (fun z24 z24e z24l z24h => ?_)
    refine ir_z_ne (pt := 21) (pc' := 20) rfl rfl rfl (fun c25 => ?_) (fun c25 => ?_)
    · refine ir_k (pc' := 22) (v := (0, 0)) rfl rfl rfl (fun _ => rfl) ?_
      refine ir_s (pc' := 24) rfl rfl rfl rfl rfl rfl ?_
      refine ir_w [(0, (2, ((a0 : Nat) : Int))), (2, (0, (x1 / 32))), (3, (0, z22)), (4, (0, 0))] ⟨rfl, rfl, rfl, rfl, trivial⟩ ?_
      exact J24 _ ((x1 / 32)) (by omega) (by omega) (z22) (by omega) (by omega) (0) (by omega) (by omega) s0 hT0 hF0 (z24) (by omega) (by omega) z24e (Int.self_le_toNat _)
    · refine ir_w [] trivial ?_
      exact J20 s0 hT0 hF0
theorem sf_stepOn5 (L : Nat) (ys : Nat → Int32) (d : Nat) (s0 : im_S) (hT0 : tI s0) (x1 : Int) (x1l : -30 ≤ x1) (x1h : x1 ≤ 32) : icI gG rm_P L ys 0 (d + 5) 169 [(2, ((267 : Nat) : Int)), (0, x1)] s0 (fun z s => tI s ∧ fr [(15, 5), (16, 1), (16, 2), (19, 1), (19, 2)] s0 s ∧ 0 ≤ z ∧ z ≤ 1) := by
  refine ic_startM (M := rm_p_X5_stepOn) om_X5_stepOn (Nat.le_of_ble_eq_true rfl) ?_
  refine ir_w [(0, (2, ((267 : Nat) : Int))), (1, (0, x1))] ⟨rfl, rfl, trivial⟩ ?_
  have hF0 := fr_refl [(15, 5), (16, 1), (16, 2), (19, 1), (19, 2)] s0
  have J114 : ∀ (q114_s0 : Int) (q114_s0l : 0 ≤ q114_s0) (q114_s0h : q114_s0 ≤ 1) (s_114 : im_S) (hT_114 : tI s_114) (hF_114 : fr [(15, 5), (16, 1), (16, 2), (19, 1), (19, 2)] s0 s_114) (w114_267_0 : Nat) (w114_267_0k : gK[w114_267_0]? = some 17) (w114_267_0e : s_114.1 267 0 = ((w114_267_0 : Nat) : Int)) (w114_267_2 : Nat) (w114_267_2k : gK[w114_267_2]? = some 19) (w114_267_2e : s_114.1 267 2 = ((w114_267_2 : Nat) : Int)) (w114_267_3 : Nat) (w114_267_3k : gK[w114_267_3]? = some 21) (w114_267_3e : s_114.1 267 3 = ((w114_267_3 : Nat) : Int)) (w114_267_5 : Int) (w114_267_5l : -32 ≤ w114_267_5) (w114_267_5h : w114_267_5 ≤ 256) (w114_267_5e : s_114.1 267 5 = w114_267_5), ir gG rm_P L ys (d + 4) rm_p_X5_stepOn (114, [], [(0, q114_s0)], s_114) (fun r : im_Re => ∃ z, r.1 = some (0, z) ∧ (tI r.2 ∧ fr [(15, 5), (16, 1), (16, 2), (19, 1), (19, 2)] s0 r.2 ∧ 0 ≤ z ∧ z ≤ 1)) := by
    intro q114_s0 q114_s0l q114_s0h s_114 hT_114 hF_114 w114_267_0 w114_267_0k w114_267_0e w114_267_2 w114_267_2k w114_267_2e w114_267_3 w114_267_3k w114_267_3e w114_267_5 w114_267_5l w114_267_5h w114_267_5e
    exact ir_zret rfl rfl (by omega) ⟨_, rfl, hT_114, hF_114, by omega, by omega⟩
  have J109 : ∀ (s_109 : im_S) (hT_109 : tI s_109) (hF_109 : fr [(15, 5), (16, 1), (16, 2), (19, 1), (19, 2)] s0 s_109) (w109_267_0 : Nat) (w109_267_0k : gK[w109_267_0]? = some 17) (w109_267_0e : s_109.1 267 0 = ((w109_267_0 : Nat) : Int)) (w109_267_2 : Nat) (w109_267_2k : gK[w109_267_2]? = some 19) (w109_267_2e : s_109.1 267 2 = ((w109_267_2 : Nat) : Int)) (w109_267_3 : Nat) (w109_267_3k : gK[w109_267_3]? = some 21) (w109_267_3e : s_109.1 267 3 = ((w109_267_3 : Nat) : Int)) (w109_267_5 : Int) (w109_267_5l : -32 ≤ w109_267_5) (w109_267_5h : w109_267_5 ≤ 256) (w109_267_5e : s_109.1 267 5 = w109_267_5), ir gG rm_P L ys (d + 4) rm_p_X5_stepOn (109, [], [], s_109) (fun r : im_Re => ∃ z, r.1 = some (0, z) ∧ (tI r.2 ∧ fr [(15, 5), (16, 1), (16, 2), (19, 1), (19, 2)] s0 r.2 ∧ 0 ≤ z ∧ z ≤ 1)) := by
    intro s_109 hT_109 hF_109 w109_267_0 w109_267_0k w109_267_0e w109_267_2 w109_267_2k w109_267_2e w109_267_3 w109_267_3k w109_267_3e w109_267_5 w109_267_5l w109_267_5h w109_267_5e
    refine ir_k (pc' := 110) (v := (0, 1)) rfl rfl rfl (fun _ => rfl) ?_
    refine ir_goto (pc' := 114) rfl rfl ?_
    refine ir_w [] trivial ?_
    exact J114 (1) (by omega) (by omega) s_109 hT_109 hF_109 w109_267_0 w109_267_0k w109_267_0e w109_267_2 w109_267_2k w109_267_2e w109_267_3 w109_267_3k w109_267_3e (w109_267_5) (by omega) (by omega) w109_267_5e
  have J91 : ∀ (s_91 : im_S) (hT_91 : tI s_91) (hF_91 : fr [(15, 5), (16, 1), (16, 2), (19, 1), (19, 2)] s0 s_91) (w91_267_0 : Nat) (w91_267_0k : gK[w91_267_0]? = some 17) (w91_267_0e : s_91.1 267 0 = ((w91_267_0 : Nat) : Int)) (w91_267_2 : Nat) (w91_267_2k : gK[w91_267_2]? = some 19) (w91_267_2e : s_91.1 267 2 = ((w91_267_2 : Nat) : Int)) (w91_267_3 : Nat) (w91_267_3k : gK[w91_267_3]? = some 21) (w91_267_3e : s_91.1 267 3 = ((w91_267_3 : Nat) : Int)) (w91_267_5 : Int) (w91_267_5l : -32 ≤ w91_267_5) (w91_267_5h : w91_267_5 ≤ 256) (w91_267_5e : s_91.1 267 5 = w91_267_5), ir gG rm_P L ys (d + 4) rm_p_X5_stepOn (91, [(0, (2, ((267 : Nat) : Int))), (1, (0, x1))], [], s_91) (fun r : im_Re => ∃ z, r.1 = some (0, z) ∧ (tI r.2 ∧ fr [(15, 5), (16, 1), (16, 2), (19, 1), (19, 2)] s0 r.2 ∧ 0 ≤ z ∧ z ≤ 1)) := by
    intro s_91 hT_91 hF_91 w91_267_0 w91_267_0k w91_267_0e w91_267_2 w91_267_2k w91_267_2e w91_267_3 w91_267_3k w91_267_3e w91_267_5 w91_267_5l w91_267_5h w91_267_5e
    refine ir_l (pc' := 92) rfl rfl rfl rfl rfl rfl ?_
    refine ir_getI (pc' := 95) rfl rfl rfl (gG_at tsk_15) rfl (by decide) (by decide) w91_267_5e (by omega) (by omega) ?_
    refine ir_l (pc' := 96) rfl rfl rfl rfl rfl rfl ?_
    refine ir_c_gt (pt := 109) (pc' := 99) rfl rfl rfl (fun c1 => ?_) (fun c1 => ?_)
    · refine ir_w [] trivial ?_
      exact J109 s_91 hT_91 hF_91 w91_267_0 w91_267_0k w91_267_0e w91_267_2 w91_267_2k w91_267_2e w91_267_3 w91_267_3k w91_267_3e (w91_267_5) (by omega) (by omega) w91_267_5e
    · refine ir_l (pc' := 100) rfl rfl rfl rfl rfl rfl ?_
      refine ir_getR (pc' := 103) rfl rfl rfl (gG_at tsk_15) rfl w91_267_2e ?_
      refine ir_tgi (pc' := 106) rfl rfl rfl tf_19_2 w91_267_2k hT_91 (fun z2 z2e z2l z2h => ?_)
      refine ir_z_gt (pt := 113) (pc' := 109) rfl rfl rfl (fun c3 => ?_) (fun c3 => ?_)
      · refine ir_k (pc' := 114) (v := (0, 0)) rfl rfl rfl (fun _ => rfl) ?_
        refine ir_w [] trivial ?_
        exact J114 (0) (by omega) (by omega) s_91 hT_91 hF_91 w91_267_0 w91_267_0k w91_267_0e w91_267_2 w91_267_2k w91_267_2e w91_267_3 w91_267_3k w91_267_3e (w91_267_5) (by omega) (by omega) w91_267_5e
      · refine ir_w [] trivial ?_
        exact J109 s_91 hT_91 hF_91 w91_267_0 w91_267_0k w91_267_0e w91_267_2 w91_267_2k w91_267_2e w91_267_3 w91_267_3k w91_267_3e (w91_267_5) (by omega) (by omega) w91_267_5e
  have J21 : ∀ n : Nat, ∀ (s_21 : im_S) (hT_21 : tI s_21) (hF_21 : fr [(15, 5), (16, 1), (16, 2), (19, 1), (19, 2)] s0 s_21) (w21_267_0 : Nat) (w21_267_0k : gK[w21_267_0]? = some 17) (w21_267_0e : s_21.1 267 0 = ((w21_267_0 : Nat) : Int)) (w21_267_2 : Nat) (w21_267_2k : gK[w21_267_2]? = some 19) (w21_267_2e : s_21.1 267 2 = ((w21_267_2 : Nat) : Int)) (w21_267_3 : Nat) (w21_267_3k : gK[w21_267_3]? = some 21) (w21_267_3e : s_21.1 267 3 = ((w21_267_3 : Nat) : Int)) (w21_267_5 : Int) (w21_267_5l : -32 ≤ w21_267_5) (w21_267_5h : w21_267_5 ≤ 256) (w21_267_5e : s_21.1 267 5 = w21_267_5), (w21_267_5 + 33) ≤ (n : Int) → ir gG rm_P L ys (d + 4) rm_p_X5_stepOn (21, [(0, (2, ((267 : Nat) : Int))), (1, (0, x1))], [], s_21) (fun r : im_Re => ∃ z, r.1 = some (0, z) ∧ (tI r.2 ∧ fr [(15, 5), (16, 1), (16, 2), (19, 1), (19, 2)] s0 r.2 ∧ 0 ≤ z ∧ z ≤ 1)) := by
    intro n
    induction n with
    | zero => intro s_21 hT_21 hF_21 w21_267_0 w21_267_0k w21_267_0e w21_267_2 w21_267_2k w21_267_2e w21_267_3 w21_267_3k w21_267_3e w21_267_5 w21_267_5l w21_267_5h w21_267_5e hr; exfalso; omega
    | succ n ih21 =>
      intro s_21 hT_21 hF_21 w21_267_0 w21_267_0k w21_267_0e w21_267_2 w21_267_2k w21_267_2e w21_267_3 w21_267_3k w21_267_3e w21_267_5 w21_267_5l w21_267_5h w21_267_5e hr
      have J41 : ∀ n : Nat, ∀ (q41_l2 : Int) (q41_l2l : 0 ≤ q41_l2) (q41_l2h : q41_l2 ≤ 8) (s_41 : im_S) (hT_41 : tI s_41) (hF_41 : fr [(15, 5), (16, 1), (16, 2), (19, 1), (19, 2)] s0 s_41) (w41_267_0 : Nat) (w41_267_0k : gK[w41_267_0]? = some 17) (w41_267_0e : s_41.1 267 0 = ((w41_267_0 : Nat) : Int)) (w41_267_2 : Nat) (w41_267_2k : gK[w41_267_2]? = some 19) (w41_267_2e : s_41.1 267 2 = ((w41_267_2 : Nat) : Int)) (w41_267_3 : Nat) (w41_267_3k : gK[w41_267_3]? = some 21) (w41_267_3e : s_41.1 267 3 = ((w41_267_3 : Nat) : Int)) (w41_267_5 : Int) (w41_267_5l : -29 ≤ w41_267_5) (w41_267_5h : w41_267_5 ≤ 256) (w41_267_5e : s_41.1 267 5 = w41_267_5) (i41_0 : w41_267_5 = w21_267_5), (8 + 1 - q41_l2) ≤ (n : Int) → ir gG rm_P L ys (d + 4) rm_p_X5_stepOn (41, [(0, (2, ((267 : Nat) : Int))), (1, (0, x1)), (2, (0, q41_l2))], [], s_41) (fun r : im_Re => ∃ z, r.1 = some (0, z) ∧ (tI r.2 ∧ fr [(15, 5), (16, 1), (16, 2), (19, 1), (19, 2)] s0 r.2 ∧ 0 ≤ z ∧ z ≤ 1)) := by
        intro n
        induction n with
        | zero => intro q41_l2 q41_l2l q41_l2h s_41 hT_41 hF_41 w41_267_0 w41_267_0k w41_267_0e w41_267_2 w41_267_2k w41_267_2e w41_267_3 w41_267_3k w41_267_3e w41_267_5 w41_267_5l w41_267_5h w41_267_5e i41_0 hr; exfalso; omega
        | succ n ih41 =>
          intro q41_l2 q41_l2l q41_l2h s_41 hT_41 hF_41 w41_267_0 w41_267_0k w41_267_0e w41_267_2 w41_267_2k w41_267_2e w41_267_3 w41_267_3k w41_267_3e w41_267_5 w41_267_5l w41_267_5h w41_267_5e i41_0 hr
          refine ir_l (pc' := 42) rfl rfl rfl rfl rfl rfl ?_
          refine ir_l (pc' := 43) rfl rfl rfl rfl rfl rfl ?_
          refine ir_tgi (pc' := 46) rfl rfl rfl tf_15_4 tsk_15 hT_41 (fun z4 z4e z4l z4h => ?_)
          refine ir_c_ge (pt := 70) (pc' := 49) rfl rfl rfl (fun c5 => ?_) (fun c5 => ?_)
          · refine ir_l (pc' := 71) rfl rfl rfl rfl rfl rfl ?_
            refine ir_getR (pc' := 74) rfl rfl rfl (gG_at tsk_15) rfl w41_267_2e ?_
            refine ir_k (pc' := 75) (v := (0, 1)) rfl rfl rfl (fun _ => rfl) ?_
            refine ir_cVV (pc' := 78) rfl rfl rfl rfl rfl (Nat.le_of_ble_eq_true rfl) oo_X1_shiftDown (gG_at w41_267_2k) (sf_shiftDown1_19 L ys (d + 2) s_41 hT_41 w41_267_2 w41_267_2k (1) (by omega) (by omega) ) (fun s7 hr => ?_)
            obtain ⟨hT7, hG7⟩ := hr
            have hF7 := fr_trans hF_41 hG7 (by decide)
            have e8 : s7.1 267 5 = w41_267_5 := (hG7.1 _ _ tsk_15 5 (by decide)).trans w41_267_5e
            have e9 : s7.1 267 0 = ((w41_267_0 : Nat) : Int) := (hG7.1 _ _ tsk_15 0 (by decide)).trans w41_267_0e
            have e10 : s7.1 267 2 = ((w41_267_2 : Nat) : Int) := (hG7.1 _ _ tsk_15 2 (by decide)).trans w41_267_2e
            have e11 : s7.1 267 3 = ((w41_267_3 : Nat) : Int) := (hG7.1 _ _ tsk_15 3 (by decide)).trans w41_267_3e
            have e12 : s7.1 267 4 = z4 := (hG7.1 _ _ tsk_15 4 (by decide)).trans z4e
            refine ir_l (pc' := 79) rfl rfl rfl rfl rfl rfl ?_
            refine ir_x (pc' := 80) rfl rfl rfl (fun _ => rfl) ?_
            refine ir_getI (pc' := 83) rfl rfl rfl (gG_at tsk_15) rfl (by decide) (by decide) e8 (by omega) (by omega) ?_
            refine ir_k (pc' := 84) (v := (0, 1)) rfl rfl rfl (fun _ => rfl) ?_
            refine ir_sub (pc' := 85) rfl rfl (by omega) (by omega) ?_
            refine ir_tpi (pc' := 88) rfl rfl rfl tf_15_5 rfl tsk_15 hT7 rfl (by omega) (by omega) (fun s13 hT13 e13 g13 r13 => ?_)
            have hF13 := fr_put (k := 15) hF7 (by decide) tsk_15 g13 r13
            have e14 : s13.1 267 0 = ((w41_267_0 : Nat) : Int) := (g13 267 0 (fun z => absurd z.2 (by decide))).trans e9
            have e15 : s13.1 267 2 = ((w41_267_2 : Nat) : Int) := (g13 267 2 (fun z => absurd z.2 (by decide))).trans e10
            have e16 : s13.1 267 3 = ((w41_267_3 : Nat) : Int) := (g13 267 3 (fun z => absurd z.2 (by decide))).trans e11
            have e17 : s13.1 267 4 = z4 := (g13 267 4 (fun z => absurd z.2 (by decide))).trans e12
            refine ir_goto (pc' := 21) rfl rfl ?_
            refine ir_w [(0, (2, ((267 : Nat) : Int))), (1, (0, x1))] ⟨rfl, rfl, trivial⟩ ?_
            exact ih21 s13 hT13 hF13 w41_267_0 w41_267_0k e14 w41_267_2 w41_267_2k e15 w41_267_3 w41_267_3k e16 ((w41_267_5 - 1)) (by omega) (by omega) e13 (by omega)
          · refine ir_l (pc' := 50) rfl rfl rfl rfl rfl rfl ?_
            refine ir_getR (pc' := 53) rfl rfl rfl (gG_at tsk_15) rfl w41_267_0e ?_
            refine ir_l (pc' := 54) rfl rfl rfl rfl rfl rfl ?_
            refine ir_taa (pc' := 55) (k2 := 16) rfl rfl te_17 (by decide) w41_267_0k hT_41 (by omega) (by omega) (fun b18 b18k => ?_)
            refine ir_l (pc' := 56) rfl rfl rfl rfl rfl rfl ?_
            refine ir_getI (pc' := 59) rfl rfl rfl (gG_at tsk_15) rfl (by decide) (by decide) z4e (by omega) (by omega) ?_
            refine ir_l (pc' := 60) rfl rfl rfl rfl rfl rfl ?_
            refine ir_sub (pc' := 61) rfl rfl (by omega) (by omega) ?_
            refine ir_cVV (pc' := 64) rfl rfl rfl rfl rfl (Nat.le_of_ble_eq_true rfl) oo_X1_shiftDown (gG_at b18k) (sf_shiftDown1_16 L ys (d + 2) s_41 hT_41 b18 b18k ((z4 - q41_l2)) (by omega) (by omega) ) (fun s20 hr => ?_)
            obtain ⟨hT20, hG20⟩ := hr
            have hF20 := fr_trans hF_41 hG20 (by decide)
            have e21 : s20.1 267 5 = w41_267_5 := (hG20.1 _ _ tsk_15 5 (by decide)).trans w41_267_5e
            have e22 : s20.1 267 0 = ((w41_267_0 : Nat) : Int) := (hG20.1 _ _ tsk_15 0 (by decide)).trans w41_267_0e
            have e23 : s20.1 267 2 = ((w41_267_2 : Nat) : Int) := (hG20.1 _ _ tsk_15 2 (by decide)).trans w41_267_2e
            have e24 : s20.1 267 3 = ((w41_267_3 : Nat) : Int) := (hG20.1 _ _ tsk_15 3 (by decide)).trans w41_267_3e
            have e25 : s20.1 267 4 = z4 := (hG20.1 _ _ tsk_15 4 (by decide)).trans z4e
            refine ir_inc (pc' := 67) rfl rfl rfl rfl rfl (by omega) (by omega) ?_
            refine ir_goto (pc' := 41) rfl rfl ?_
            refine ir_w [(0, (2, ((267 : Nat) : Int))), (1, (0, x1)), (2, (0, (q41_l2 + 1)))] ⟨rfl, rfl, rfl, trivial⟩ ?_
            exact ih41 ((q41_l2 + 1)) (by omega) (by omega) s20 hT20 hF20 w41_267_0 w41_267_0k e22 w41_267_2 w41_267_2k e23 w41_267_3 w41_267_3k e24 (w41_267_5) (by omega) (by omega) e21 (by omega) (by omega)
      refine ir_l (pc' := 22) rfl rfl rfl rfl rfl rfl ?_
      refine ir_getI (pc' := 25) rfl rfl rfl (gG_at tsk_15) rfl (by decide) (by decide) w21_267_5e (by omega) (by omega) ?_
      refine ir_l (pc' := 26) rfl rfl rfl rfl rfl rfl ?_
      refine ir_c_le (pt := 91) (pc' := 29) rfl rfl rfl (fun c26 => ?_) (fun c26 => ?_)
      · refine ir_w [(0, (2, ((267 : Nat) : Int))), (1, (0, x1))] ⟨rfl, rfl, trivial⟩ ?_
        exact J91 s_21 hT_21 hF_21 w21_267_0 w21_267_0k w21_267_0e w21_267_2 w21_267_2k w21_267_2e w21_267_3 w21_267_3k w21_267_3e (w21_267_5) (by omega) (by omega) w21_267_5e
      · refine ir_l (pc' := 30) rfl rfl rfl rfl rfl rfl ?_
        refine ir_getR (pc' := 33) rfl rfl rfl (gG_at tsk_15) rfl w21_267_2e ?_
        refine ir_cVI (pc' := 36) rfl rfl rfl rfl rfl (Nat.le_of_ble_eq_true rfl) oo_X1_isEven (gG_at w21_267_2k) (sf_isEven1_19 L ys (d + 3) s_21 hT_21 w21_267_2 w21_267_2k ) (fun z27 s28 hr => ?_)
        obtain ⟨hT28, hG28, z27l, z27h⟩ := hr
        have hF28 := fr_trans hF_21 hG28 (by decide)
        have e29 : s28.1 267 5 = w21_267_5 := (hG28.1 _ _ tsk_15 5 (by decide)).trans w21_267_5e
        have e30 : s28.1 267 0 = ((w21_267_0 : Nat) : Int) := (hG28.1 _ _ tsk_15 0 (by decide)).trans w21_267_0e
        have e31 : s28.1 267 2 = ((w21_267_2 : Nat) : Int) := (hG28.1 _ _ tsk_15 2 (by decide)).trans w21_267_2e
        have e32 : s28.1 267 3 = ((w21_267_3 : Nat) : Int) := (hG28.1 _ _ tsk_15 3 (by decide)).trans w21_267_3e
        refine ir_z_eq (pt := 91) (pc' := 39) rfl rfl rfl (fun c33 => ?_) (fun c33 => ?_)
        · refine ir_w [(0, (2, ((267 : Nat) : Int))), (1, (0, x1))] ⟨rfl, rfl, trivial⟩ ?_
          exact J91 s28 hT28 hF28 w21_267_0 w21_267_0k e30 w21_267_2 w21_267_2k e31 w21_267_3 w21_267_3k e32 (w21_267_5) (by omega) (by omega) e29
        · refine ir_k (pc' := 40) (v := (0, 0)) rfl rfl rfl (fun _ => rfl) ?_
          refine ir_s (pc' := 41) rfl rfl rfl rfl rfl rfl ?_
          refine ir_w [(0, (2, ((267 : Nat) : Int))), (1, (0, x1)), (2, (0, 0))] ⟨rfl, rfl, rfl, trivial⟩ ?_
          exact J41 _ (0) (by omega) (by omega) s28 hT28 hF28 w21_267_0 w21_267_0k e30 w21_267_2 w21_267_2k e31 w21_267_3 w21_267_3k e32 (w21_267_5) (by omega) (by omega) e29 (by omega) (Int.self_le_toNat _)
  obtain ⟨z34, z34e, z34l, z34h⟩ := tI_i tf_15_5 tsk_15 hT0
  refine ir_l (pc' := 1) rfl rfl rfl rfl rfl rfl ?_
  refine ir_l (pc' := 2) rfl rfl rfl rfl rfl rfl ?_
  refine ir_tgr (pc' := 5) rfl rfl rfl tf_15_0 tsk_15 hT0 (fun b35 b35e b35k => ?_)
  refine ir_k (pc' := 6) (v := (0, 1)) rfl rfl rfl (fun _ => rfl) ?_
  refine ir_cVV (pc' := 9) rfl rfl rfl rfl rfl (Nat.le_of_ble_eq_true rfl) oo_X5_moveBy (gG_at tsk_15) (sf_moveBy5 L ys d s0 hT0 b35 b35k (1) (by omega) (by omega) ) (fun s37 hr => ?_)
  obtain ⟨hT37, hG37⟩ := hr
  have hF37 := fr_trans hF0 hG37 (by decide)
  have e38 : s37.1 267 5 = z34 := (hG37.1 _ _ tsk_15 5 (by decide)).trans z34e
  have e39 : s37.1 267 0 = ((b35 : Nat) : Int) := (hG37.1 _ _ tsk_15 0 (by decide)).trans b35e
  refine ir_l (pc' := 10) rfl rfl rfl rfl rfl rfl ?_
  refine ir_tgr (pc' := 13) rfl rfl rfl tf_15_2 tsk_15 hT37 (fun b40 b40e b40k => ?_)
  refine ir_l (pc' := 14) rfl rfl rfl rfl rfl rfl ?_
  refine ir_tgr (pc' := 17) rfl rfl rfl tf_15_3 tsk_15 hT37 (fun b41 b41e b41k => ?_)
  refine ir_k (pc' := 18) (v := (0, 1)) rfl rfl rfl (fun _ => rfl) ?_
  refine ir_cVV (pc' := 21) rfl rfl rfl rfl rfl (Nat.le_of_ble_eq_true rfl) oo_X1_add (gG_at b40k) (sf_add1_19_21 L ys (d + 1) s37 hT37 b40 b40k b41 b41k (1) (by omega) (by omega) ) (fun s43 hr => ?_)
  obtain ⟨hT43, hG43⟩ := hr
  have hF43 := fr_trans hF37 hG43 (by decide)
  have e44 : s43.1 267 5 = z34 := (hG43.1 _ _ tsk_15 5 (by decide)).trans e38
  have e45 : s43.1 267 0 = ((b35 : Nat) : Int) := (hG43.1 _ _ tsk_15 0 (by decide)).trans e39
  have e46 : s43.1 267 2 = ((b40 : Nat) : Int) := (hG43.1 _ _ tsk_15 2 (by decide)).trans b40e
  have e47 : s43.1 267 3 = ((b41 : Nat) : Int) := (hG43.1 _ _ tsk_15 3 (by decide)).trans b41e
  refine ir_w [(0, (2, ((267 : Nat) : Int))), (1, (0, x1))] ⟨rfl, rfl, trivial⟩ ?_
  exact J21 _ s43 hT43 hF43 b35 b35k e45 b40 b40k e46 b41 b41k e47 (z34) (by omega) (by omega) e44 (Int.self_le_toNat _)
