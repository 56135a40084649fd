/-! WALKS OF THE CLASS'S METHODS, by program -/
theorem sf_take3 (L : Nat) (ys : Nat → Int32) (d : Nat) (s0 : im_S) (hT0 : tI s0) (a1 : Nat) (a1k : gK[a1]? = some 23) (x2 : Int) (x2l : 1 ≤ x2) (x2h : x2 ≤ 2147483646) (x3 : Int) (x3l : 0 ≤ x3) (x3h : x3 ≤ 1) : icV gG rm_P L ys (d + 3) 146 [(2, ((83 : Nat) : Int)), (2, (a1 : Int)), (0, x2), (0, x3)] s0 (fun s => tI s ∧ fr [(10, 13), (10, 14), (10, 15), (10, 16), (19, 1), (19, 2), (23, 1), (23, 7), (23, 8)] s0 s) := by
  refine ic_startM (M := rm_p_X3_take) om_X3_take (Nat.le_of_ble_eq_true rfl) ?_
  refine ir_w [(0, (2, ((83 : Nat) : Int))), (1, (2, ((a1 : Nat) : Int))), (2, (0, x2)), (3, (0, x3))] ⟨rfl, rfl, rfl, rfl, trivial⟩ ?_
  have hF0 := fr_refl [(10, 13), (10, 14), (10, 15), (10, 16), (19, 1), (19, 2), (23, 1), (23, 7), (23, 8)] s0
  have J205 : ∀ (q205_l7 : Nat) (q205_l7k : gK[q205_l7]? = some 25) (q205_l8 : Nat) (q205_l8k : gK[q205_l8]? = some 25) (q205_s1 : Nat) (q205_s1k : gK[q205_s1]? = some 25) (s_205 : im_S) (hT_205 : tI s_205) (hF_205 : fr [(10, 13), (10, 14), (10, 15), (10, 16), (19, 1), (19, 2), (23, 1), (23, 7), (23, 8)] s0 s_205) (w205_83_13 : Nat) (w205_83_13k : gK[w205_83_13]? = some 25) (w205_83_13e : s_205.1 83 13 = ((w205_83_13 : Nat) : Int)) (w205_83_14 : Nat) (w205_83_14k : gK[w205_83_14]? = some 25) (w205_83_14e : s_205.1 83 14 = ((w205_83_14 : Nat) : Int)) (w205_83_15 : Nat) (w205_83_15k : gK[w205_83_15]? = some 25) (w205_83_15e : s_205.1 83 15 = ((w205_83_15 : Nat) : Int)) (w205_a1_1 : Int) (w205_a1_1l : 0 ≤ w205_a1_1) (w205_a1_1h : w205_a1_1 ≤ 1) (w205_a1_1e : s_205.1 a1 1 = w205_a1_1) (w205_a1_6 : Nat) (w205_a1_6k : gK[w205_a1_6]? = some 19) (w205_a1_6e : s_205.1 a1 6 = ((w205_a1_6 : Nat) : Int)) (w205_a1_7 : Int) (w205_a1_7l : -2147483648 ≤ w205_a1_7) (w205_a1_7h : w205_a1_7 ≤ 2147483647) (w205_a1_7e : s_205.1 a1 7 = w205_a1_7), ir gG rm_P L ys (d + 2) rm_p_X3_take (205, [(0, (2, ((83 : Nat) : Int))), (7, (2, ((q205_l7 : Nat) : Int))), (8, (2, ((q205_l8 : Nat) : Int)))], [(2, ((q205_s1 : Nat) : Int)), (2, ((83 : Nat) : Int))], s_205) (fun r : im_Re => r.1 = none ∧ (tI r.2 ∧ fr [(10, 13), (10, 14), (10, 15), (10, 16), (19, 1), (19, 2), (23, 1), (23, 7), (23, 8)] s0 r.2)) := by
    intro q205_l7 q205_l7k q205_l8 q205_l8k q205_s1 q205_s1k s_205 hT_205 hF_205 w205_83_13 w205_83_13k w205_83_13e w205_83_14 w205_83_14k w205_83_14e w205_83_15 w205_83_15k w205_83_15e w205_a1_1 w205_a1_1l w205_a1_1h w205_a1_1e w205_a1_6 w205_a1_6k w205_a1_6e w205_a1_7 w205_a1_7l w205_a1_7h w205_a1_7e
    refine ir_tpr (pc' := 208) rfl rfl rfl tf_10_14 rfl tsk_10 hT_205 rfl q205_s1k (fun s1 hT1 e1 g1 r1 => ?_)
    have hF1 := fr_put (k := 10) hF_205 (by decide) tsk_10 g1 r1
    have e2 : s1.1 83 15 = ((w205_83_15 : Nat) : Int) := (g1 83 15 (fun z => absurd z.2 (by decide))).trans w205_83_15e
    have e3 : s1.1 a1 7 = w205_a1_7 := (g1 a1 7 (fun z => absurd z.2 (by decide))).trans w205_a1_7e
    have e4 : s1.1 a1 1 = w205_a1_1 := (g1 a1 1 (fun z => absurd z.2 (by decide))).trans w205_a1_1e
    have e5 : s1.1 a1 6 = ((w205_a1_6 : Nat) : Int) := (g1 a1 6 (fun z => absurd z.2 (by decide))).trans w205_a1_6e
    have e6 : s1.1 83 13 = ((w205_83_13 : Nat) : Int) := (g1 83 13 (fun z => absurd z.2 (by decide))).trans w205_83_13e
    refine ir_l (pc' := 209) rfl rfl rfl rfl rfl rfl ?_
    refine ir_l (pc' := 211) rfl rfl rfl rfl rfl rfl ?_
    refine ir_tpr (pc' := 214) rfl rfl rfl tf_10_15 rfl tsk_10 hT1 rfl q205_l7k (fun s7 hT7 e7 g7 r7 => ?_)
    have hF7 := fr_put (k := 10) hF1 (by decide) tsk_10 g7 r7
    have e8 : s7.1 a1 7 = w205_a1_7 := (g7 a1 7 (fun z => absurd z.2 (by decide))).trans e3
    have e9 : s7.1 a1 1 = w205_a1_1 := (g7 a1 1 (fun z => absurd z.2 (by decide))).trans e4
    have e10 : s7.1 a1 6 = ((w205_a1_6 : Nat) : Int) := (g7 a1 6 (fun z => absurd z.2 (by decide))).trans e5
    have e11 : s7.1 83 13 = ((w205_83_13 : Nat) : Int) := (g7 83 13 (fun z => absurd z.2 (by decide))).trans e6
    have e12 : s7.1 83 14 = ((q205_s1 : Nat) : Int) := (g7 83 14 (fun z => absurd z.2 (by decide))).trans e1
    refine ir_l (pc' := 215) rfl rfl rfl rfl rfl rfl ?_
    refine ir_l (pc' := 217) rfl rfl rfl rfl rfl rfl ?_
    refine ir_tpr (pc' := 220) rfl rfl rfl tf_10_16 rfl tsk_10 hT7 rfl q205_l8k (fun s13 hT13 e13 g13 r13 => ?_)
    have hF13 := fr_put (k := 10) hF7 (by decide) tsk_10 g13 r13
    have e14 : s13.1 a1 7 = w205_a1_7 := (g13 a1 7 (fun z => absurd z.2 (by decide))).trans e8
    have e15 : s13.1 a1 1 = w205_a1_1 := (g13 a1 1 (fun z => absurd z.2 (by decide))).trans e9
    have e16 : s13.1 a1 6 = ((w205_a1_6 : Nat) : Int) := (g13 a1 6 (fun z => absurd z.2 (by decide))).trans e10
    have e17 : s13.1 83 13 = ((w205_83_13 : Nat) : Int) := (g13 83 13 (fun z => absurd z.2 (by decide))).trans e11
    have e18 : s13.1 83 14 = ((q205_s1 : Nat) : Int) := (g13 83 14 (fun z => absurd z.2 (by decide))).trans e12
    have e19 : s13.1 83 15 = ((q205_l7 : Nat) : Int) := (g13 83 15 (fun z => absurd z.2 (by decide))).trans e7
    exact ir_vret rfl rfl ⟨rfl, hT13, hF13⟩
  have J186 : ∀ (q186_l7 : Nat) (q186_l7k : gK[q186_l7]? = some 25) (q186_l8 : Nat) (q186_l8k : gK[q186_l8]? = some 25) (q186_s1 : Nat) (q186_s1k : gK[q186_s1]? = some 25) (s_186 : im_S) (hT_186 : tI s_186) (hF_186 : fr [(10, 13), (10, 14), (10, 15), (10, 16), (19, 1), (19, 2), (23, 1), (23, 7), (23, 8)] s0 s_186) (w186_83_13 : Nat) (w186_83_13k : gK[w186_83_13]? = some 25) (w186_83_13e : s_186.1 83 13 = ((w186_83_13 : Nat) : Int)) (w186_83_14 : Nat) (w186_83_14k : gK[w186_83_14]? = some 25) (w186_83_14e : s_186.1 83 14 = ((w186_83_14 : Nat) : Int)) (w186_83_15 : Nat) (w186_83_15k : gK[w186_83_15]? = some 25) (w186_83_15e : s_186.1 83 15 = ((w186_83_15 : Nat) : Int)) (w186_a1_1 : Int) (w186_a1_1l : 0 ≤ w186_a1_1) (w186_a1_1h : w186_a1_1 ≤ 1) (w186_a1_1e : s_186.1 a1 1 = w186_a1_1) (w186_a1_6 : Nat) (w186_a1_6k : gK[w186_a1_6]? = some 19) (w186_a1_6e : s_186.1 a1 6 = ((w186_a1_6 : Nat) : Int)) (w186_a1_7 : Int) (w186_a1_7l : -2147483648 ≤ w186_a1_7) (w186_a1_7h : w186_a1_7 ≤ 2147483647) (w186_a1_7e : s_186.1 a1 7 = w186_a1_7), ir gG rm_P L ys (d + 2) rm_p_X3_take (186, [(0, (2, ((83 : Nat) : Int))), (3, (0, x3)), (7, (2, ((q186_l7 : Nat) : Int))), (8, (2, ((q186_l8 : Nat) : Int)))], [(2, ((q186_s1 : Nat) : Int)), (2, ((83 : Nat) : Int))], s_186) (fun r : im_Re => r.1 = none ∧ (tI r.2 ∧ fr [(10, 13), (10, 14), (10, 15), (10, 16), (19, 1), (19, 2), (23, 1), (23, 7), (23, 8)] s0 r.2)) := by
    intro q186_l7 q186_l7k q186_l8 q186_l8k q186_s1 q186_s1k s_186 hT_186 hF_186 w186_83_13 w186_83_13k w186_83_13e w186_83_14 w186_83_14k w186_83_14e w186_83_15 w186_83_15k w186_83_15e w186_a1_1 w186_a1_1l w186_a1_1h w186_a1_1e w186_a1_6 w186_a1_6k w186_a1_6e w186_a1_7 w186_a1_7l w186_a1_7h w186_a1_7e
    refine ir_tpr (pc' := 189) rfl rfl rfl tf_10_13 rfl tsk_10 hT_186 rfl q186_s1k (fun s20 hT20 e20 g20 r20 => ?_)
    have hF20 := fr_put (k := 10) hF_186 (by decide) tsk_10 g20 r20
    have e21 : s20.1 83 15 = ((w186_83_15 : Nat) : Int) := (g20 83 15 (fun z => absurd z.2 (by decide))).trans w186_83_15e
    have e22 : s20.1 a1 7 = w186_a1_7 := (g20 a1 7 (fun z => absurd z.2 (by decide))).trans w186_a1_7e
    have e23 : s20.1 a1 1 = w186_a1_1 := (g20 a1 1 (fun z => absurd z.2 (by decide))).trans w186_a1_1e
    have e24 : s20.1 a1 6 = ((w186_a1_6 : Nat) : Int) := (g20 a1 6 (fun z => absurd z.2 (by decide))).trans w186_a1_6e
    have e25 : s20.1 83 14 = ((w186_83_14 : Nat) : Int) := (g20 83 14 (fun z => absurd z.2 (by decide))).trans w186_83_14e
    refine ir_l (pc' := 190) rfl rfl rfl rfl rfl rfl ?_
    refine ir_l (pc' := 191) rfl rfl rfl rfl rfl rfl ?_
    refine ir_z_eq (pt := 201) (pc' := 194) rfl rfl rfl (fun c26 => ?_) (fun c26 => ?_)
    · refine ir_l (pc' := 202) rfl rfl rfl rfl rfl rfl ?_
      refine ir_getR (pc' := 205) rfl rfl rfl (gG_at tsk_10) rfl e21 ?_
      refine ir_w [(0, (2, ((83 : Nat) : Int))), (7, (2, ((q186_l7 : Nat) : Int))), (8, (2, ((q186_l8 : Nat) : Int)))] ⟨rfl, rfl, rfl, trivial⟩ ?_
      exact J205 q186_l7 q186_l7k q186_l8 q186_l8k w186_83_15 w186_83_15k s20 hT20 hF20 q186_s1 q186_s1k e20 w186_83_14 w186_83_14k e25 w186_83_15 w186_83_15k e21 (w186_a1_1) (by omega) (by omega) e23 w186_a1_6 w186_a1_6k e24 (w186_a1_7) (by omega) (by omega) e22
    · refine ir_l (pc' := 195) rfl rfl rfl rfl rfl rfl ?_
      refine ir_tgr (pc' := 198) rfl rfl rfl tf_10_16 tsk_10 hT20 (fun b27 b27e b27k => ?_)
      refine ir_goto (pc' := 205) rfl rfl ?_
      refine ir_w [(0, (2, ((83 : Nat) : Int))), (7, (2, ((q186_l7 : Nat) : Int))), (8, (2, ((q186_l8 : Nat) : Int)))] ⟨rfl, rfl, rfl, trivial⟩ ?_
      exact J205 q186_l7 q186_l7k q186_l8 q186_l8k b27 b27k s20 hT20 hF20 q186_s1 q186_s1k e20 w186_83_14 w186_83_14k e25 w186_83_15 w186_83_15k e21 (w186_a1_1) (by omega) (by omega) e23 w186_a1_6 w186_a1_6k e24 (w186_a1_7) (by omega) (by omega) e22
  have J155 : ∀ (q155_s0 : Nat) (q155_s0k : gK[q155_s0]? = some 19) (q155_s1 : Nat) (q155_s1k : gK[q155_s1]? = some 19) (s_155 : im_S) (hT_155 : tI s_155) (hF_155 : fr [(10, 13), (10, 14), (10, 15), (10, 16), (19, 1), (19, 2), (23, 1), (23, 7), (23, 8)] s0 s_155) (w155_83_15 : Nat) (w155_83_15k : gK[w155_83_15]? = some 25) (w155_83_15e : s_155.1 83 15 = ((w155_83_15 : Nat) : Int)) (w155_a1_1 : Int) (w155_a1_1l : 0 ≤ w155_a1_1) (w155_a1_1h : w155_a1_1 ≤ 1) (w155_a1_1e : s_155.1 a1 1 = w155_a1_1) (w155_a1_6 : Nat) (w155_a1_6k : gK[w155_a1_6]? = some 19) (w155_a1_6e : s_155.1 a1 6 = ((w155_a1_6 : Nat) : Int)) (w155_a1_7 : Int) (w155_a1_7l : -2147483648 ≤ w155_a1_7) (w155_a1_7h : w155_a1_7 ≤ 2147483647) (w155_a1_7e : s_155.1 a1 7 = w155_a1_7), ir gG rm_P L ys (d + 2) rm_p_X3_take (155, [(0, (2, ((83 : Nat) : Int))), (3, (0, x3))], [(2, ((q155_s1 : Nat) : Int)), (2, ((q155_s0 : Nat) : Int))], s_155) (fun r : im_Re => r.1 = none ∧ (tI r.2 ∧ fr [(10, 13), (10, 14), (10, 15), (10, 16), (19, 1), (19, 2), (23, 1), (23, 7), (23, 8)] s0 r.2)) := by
    intro q155_s0 q155_s0k q155_s1 q155_s1k s_155 hT_155 hF_155 w155_83_15 w155_83_15k w155_83_15e w155_a1_1 w155_a1_1l w155_a1_1h w155_a1_1e w155_a1_6 w155_a1_6k w155_a1_6e w155_a1_7 w155_a1_7l w155_a1_7h w155_a1_7e
    refine ir_cVV (pc' := 158) rfl rfl rfl rfl rfl (Nat.le_of_ble_eq_true rfl) oo_X1_copy (gG_at q155_s0k) (sf_copy1_19_19 L ys d s_155 hT_155 q155_s0 q155_s0k q155_s1 q155_s1k ) (fun s29 hr => ?_)
    obtain ⟨hT29, hG29⟩ := hr
    have hF29 := fr_trans hF_155 hG29 (by decide)
    have e30 : s29.1 83 15 = ((w155_83_15 : Nat) : Int) := (hG29.1 _ _ tsk_10 15 (by decide)).trans w155_83_15e
    have e31 : s29.1 a1 7 = w155_a1_7 := (hG29.1 _ _ a1k 7 (by decide)).trans w155_a1_7e
    have e32 : s29.1 a1 1 = w155_a1_1 := (hG29.1 _ _ a1k 1 (by decide)).trans w155_a1_1e
    have e33 : s29.1 a1 6 = ((w155_a1_6 : Nat) : Int) := (hG29.1 _ _ a1k 6 (by decide)).trans w155_a1_6e
    refine ir_l (pc' := 159) rfl rfl rfl rfl rfl rfl ?_
    refine ir_tgr (pc' := 162) rfl rfl rfl tf_10_13 tsk_10 hT29 (fun b34 b34e b34k => ?_)
    refine ir_s (pc' := 164) rfl rfl rfl rfl rfl rfl ?_
    refine ir_l (pc' := 165) rfl rfl rfl rfl rfl rfl ?_
    refine ir_tgr (pc' := 168) rfl rfl rfl tf_10_14 tsk_10 hT29 (fun b35 b35e b35k => ?_)
    refine ir_s (pc' := 170) rfl rfl rfl rfl rfl rfl ?_
    refine ir_l (pc' := 171) rfl rfl rfl rfl rfl rfl ?_
    refine ir_l (pc' := 172) rfl rfl rfl rfl rfl rfl ?_
    refine ir_z_eq (pt := 182) (pc' := 175) rfl rfl rfl (fun c36 => ?_) (fun c36 => ?_)
    · refine ir_l (pc' := 183) rfl rfl rfl rfl rfl rfl ?_
      refine ir_tgr (pc' := 186) rfl rfl rfl tf_10_16 tsk_10 hT29 (fun b37 b37e b37k => ?_)
      refine ir_w [(0, (2, ((83 : Nat) : Int))), (3, (0, x3)), (7, (2, ((b34 : Nat) : Int))), (8, (2, ((b35 : Nat) : Int)))] ⟨rfl, rfl, rfl, rfl, trivial⟩ ?_
      exact J186 b34 b34k b35 b35k b37 b37k s29 hT29 hF29 b34 b34k b34e b35 b35k b35e w155_83_15 w155_83_15k e30 (w155_a1_1) (by omega) (by omega) e32 w155_a1_6 w155_a1_6k e33 (w155_a1_7) (by omega) (by omega) e31
    · refine ir_l (pc' := 176) rfl rfl rfl rfl rfl rfl ?_
      refine ir_getR (pc' := 179) rfl rfl rfl (gG_at tsk_10) rfl e30 ?_
      refine ir_goto (pc' := 186) rfl rfl ?_
      refine ir_w [(0, (2, ((83 : Nat) : Int))), (3, (0, x3)), (7, (2, ((b34 : Nat) : Int))), (8, (2, ((b35 : Nat) : Int)))] ⟨rfl, rfl, rfl, rfl, trivial⟩ ?_
      exact J186 b34 b34k b35 b35k w155_83_15 w155_83_15k s29 hT29 hF29 b34 b34k b34e b35 b35k b35e w155_83_15 w155_83_15k e30 (w155_a1_1) (by omega) (by omega) e32 w155_a1_6 w155_a1_6k e33 (w155_a1_7) (by omega) (by omega) e31
  have J133 : ∀ (q133_s0 : Int) (q133_s0l : 0 ≤ q133_s0) (q133_s0h : q133_s0 ≤ 1) (s_133 : im_S) (hT_133 : tI s_133) (hF_133 : fr [(10, 13), (10, 14), (10, 15), (10, 16), (19, 1), (19, 2), (23, 1), (23, 7), (23, 8)] s0 s_133) (w133_83_15 : Nat) (w133_83_15k : gK[w133_83_15]? = some 25) (w133_83_15e : s_133.1 83 15 = ((w133_83_15 : Nat) : Int)) (w133_a1_1 : Int) (w133_a1_1l : 0 ≤ w133_a1_1) (w133_a1_1h : w133_a1_1 ≤ 1) (w133_a1_1e : s_133.1 a1 1 = w133_a1_1) (w133_a1_7 : Int) (w133_a1_7l : -2147483648 ≤ w133_a1_7) (w133_a1_7h : w133_a1_7 ≤ 2147483647) (w133_a1_7e : s_133.1 a1 7 = w133_a1_7), ir gG rm_P L ys (d + 2) rm_p_X3_take (133, [(0, (2, ((83 : Nat) : Int))), (1, (2, ((a1 : Nat) : Int))), (3, (0, x3))], [(0, q133_s0)], s_133) (fun r : im_Re => r.1 = none ∧ (tI r.2 ∧ fr [(10, 13), (10, 14), (10, 15), (10, 16), (19, 1), (19, 2), (23, 1), (23, 7), (23, 8)] s0 r.2)) := by
    intro q133_s0 q133_s0l q133_s0h s_133 hT_133 hF_133 w133_83_15 w133_83_15k w133_83_15e w133_a1_1 w133_a1_1l w133_a1_1h w133_a1_1e w133_a1_7 w133_a1_7l w133_a1_7h w133_a1_7e
    refine ir_s (pc' := 135) rfl rfl rfl rfl rfl rfl ?_
    refine ir_l (pc' := 136) rfl rfl rfl rfl rfl rfl ?_
    refine ir_tgr (pc' := 139) rfl rfl rfl tf_23_6 a1k hT_133 (fun b38 b38e b38k => ?_)
    refine ir_l (pc' := 141) rfl rfl rfl rfl rfl rfl ?_
    refine ir_z_eq (pt := 151) (pc' := 144) rfl rfl rfl (fun c39 => ?_) (fun c39 => ?_)
    · refine ir_l (pc' := 152) rfl rfl rfl rfl rfl rfl ?_
      refine ir_tgr (pc' := 155) rfl rfl rfl tf_10_7 tsk_10 hT_133 (fun b40 b40e b40k => ?_)
      refine ir_w [(0, (2, ((83 : Nat) : Int))), (3, (0, x3))] ⟨rfl, rfl, trivial⟩ ?_
      exact J155 b38 b38k b40 b40k s_133 hT_133 hF_133 w133_83_15 w133_83_15k w133_83_15e (w133_a1_1) (by omega) (by omega) w133_a1_1e b38 b38k b38e (w133_a1_7) (by omega) (by omega) w133_a1_7e
    · refine ir_l (pc' := 145) rfl rfl rfl rfl rfl rfl ?_
      refine ir_tgr (pc' := 148) rfl rfl rfl tf_10_6 tsk_10 hT_133 (fun b41 b41e b41k => ?_)
      refine ir_goto (pc' := 155) rfl rfl ?_
      refine ir_w [(0, (2, ((83 : Nat) : Int))), (3, (0, x3))] ⟨rfl, rfl, trivial⟩ ?_
      exact J155 b38 b38k b41 b41k s_133 hT_133 hF_133 w133_83_15 w133_83_15k w133_83_15e (w133_a1_1) (by omega) (by omega) w133_a1_1e b38 b38k b38e (w133_a1_7) (by omega) (by omega) w133_a1_7e
  have J84 : ∀ (q84_l4 : Int) (q84_l4l : 0 ≤ q84_l4) (q84_l4h : q84_l4 ≤ 1) (q84_l5 : Int) (q84_l5l : 0 ≤ q84_l5) (q84_l5h : q84_l5 ≤ 1) (q84_s0 : Nat) (q84_s0k : gK[q84_s0]? = some 23) (q84_s1 : Int) (q84_s1l : -2147483648 ≤ q84_s1) (q84_s1h : q84_s1 ≤ 2147483646) (s_84 : im_S) (hT_84 : tI s_84) (hF_84 : fr [(10, 13), (10, 14), (10, 15), (10, 16), (19, 1), (19, 2), (23, 1), (23, 7), (23, 8)] s0 s_84) (w84_83_15 : Nat) (w84_83_15k : gK[w84_83_15]? = some 25) (w84_83_15e : s_84.1 83 15 = ((w84_83_15 : Nat) : Int)), ir gG rm_P L ys (d + 2) rm_p_X3_take (84, [(0, (2, ((83 : Nat) : Int))), (1, (2, ((a1 : Nat) : Int))), (2, (0, x2)), (3, (0, x3)), (4, (0, q84_l4)), (5, (0, q84_l5))], [(0, q84_s1), (2, ((q84_s0 : Nat) : Int))], s_84) (fun r : im_Re => r.1 = none ∧ (tI r.2 ∧ fr [(10, 13), (10, 14), (10, 15), (10, 16), (19, 1), (19, 2), (23, 1), (23, 7), (23, 8)] s0 r.2)) := by
    intro q84_l4 q84_l4l q84_l4h q84_l5 q84_l5l q84_l5h q84_s0 q84_s0k q84_s1 q84_s1l q84_s1h s_84 hT_84 hF_84 w84_83_15 w84_83_15k w84_83_15e
    refine ir_tpi (pc' := 87) rfl rfl rfl tf_23_8 rfl q84_s0k hT_84 rfl (by omega) (by omega) (fun s42 hT42 e42 g42 r42 => ?_)
    have hF42 := fr_put (k := 23) hF_84 (by decide) q84_s0k g42 r42
    have e43 : s42.1 83 15 = ((w84_83_15 : Nat) : Int) := (g42 83 15 (fun z => absurd z.2 (by decide))).trans w84_83_15e
    refine ir_l (pc' := 89) rfl rfl rfl rfl rfl rfl ?_
    refine ir_z_ne (pt := 93) (pc' := 92) rfl rfl rfl (fun c44 => ?_) (fun c44 => ?_)
    · refine ir_l (pc' := 94) rfl rfl rfl rfl rfl rfl ?_
      refine ir_x (pc' := 95) rfl rfl rfl (fun _ => rfl) ?_
      refine ir_tgi (pc' := 98) rfl rfl rfl tf_23_7 a1k hT42 (fun z45 z45e z45l z45h => ?_)
      refine ir_l (pc' := 99) rfl rfl rfl rfl rfl rfl ?_
      refine ir_iiA (pc' := 100) rfl rfl rfl rfl (fun z46 z46l z46h => ?_)
      refine ir_tpi (pc' := 103) rfl rfl rfl tf_23_7 rfl a1k hT42 rfl (by omega) (by omega) (fun s47 hT47 e47 g47 r47 => ?_)
      have hF47 := fr_put (k := 23) hF42 (by decide) a1k g47 r47
      have e48 : s47.1 83 15 = ((w84_83_15 : Nat) : Int) := (g47 83 15 (fun z => absurd z.2 (by decide))).trans e43
      have e49 : s47.1 q84_s0 8 = q84_s1 := (g47 q84_s0 8 (fun z => absurd z.2 (by decide))).trans e42
      refine ir_l (pc' := 104) rfl rfl rfl rfl rfl rfl ?_
      refine ir_l (pc' := 106) rfl rfl rfl rfl rfl rfl ?_
      refine ir_tpi (pc' := 109) rfl rfl rfl tf_23_1 rfl a1k hT47 (by first | rfl | exact im_fitZ rfl (by omega)) (by omega) (by omega) (fun s50 hT50 e50 g50 r50 => ?_)
      have hF50 := fr_put (k := 23) hF47 (by decide) a1k g50 r50
      have e51 : s50.1 83 15 = ((w84_83_15 : Nat) : Int) := (g50 83 15 (fun z => absurd z.2 (by decide))).trans e48
      have e52 : s50.1 q84_s0 8 = q84_s1 := (g50 q84_s0 8 (fun z => absurd z.2 (by decide))).trans e49
      have e53 : s50.1 a1 7 = z46 := (g50 a1 7 (fun z => absurd z.2 (by decide))).trans e47
      refine ir_l (pc' := 111) rfl rfl rfl rfl rfl rfl ?_
      refine ir_z_eq (pt := 132) (pc' := 114) rfl rfl rfl (fun c54 => ?_) (fun c54 => ?_)
      · refine ir_l (pc' := 133) rfl rfl rfl rfl rfl rfl ?_
        refine ir_w [(0, (2, ((83 : Nat) : Int))), (1, (2, ((a1 : Nat) : Int))), (3, (0, x3))] ⟨rfl, rfl, rfl, trivial⟩ ?_
        exact J133 (x3) (by omega) (by omega) s50 hT50 hF50 w84_83_15 w84_83_15k e51 (q84_l4) (by omega) (by omega) e50 (z46) (by omega) (by omega) e53
      · refine ir_l (pc' := 115) rfl rfl rfl rfl rfl rfl ?_
        refine ir_getR (pc' := 118) rfl rfl rfl (gG_at tsk_10) rfl e51 ?_
        refine ir_tgi (pc' := 121) rfl rfl rfl tf_25_2 w84_83_15k hT50 (fun z55 z55e z55l z55h => ?_)
        refine ir_z_ne (pt := 128) (pc' := 124) rfl rfl rfl (fun c56 => ?_) (fun c56 => ?_)
        · refine ir_k (pc' := 129) (v := (0, 0)) rfl rfl rfl (fun _ => rfl) ?_
          refine ir_goto (pc' := 133) rfl rfl ?_
          refine ir_w [(0, (2, ((83 : Nat) : Int))), (1, (2, ((a1 : Nat) : Int))), (3, (0, x3))] ⟨rfl, rfl, rfl, trivial⟩ ?_
          exact J133 (0) (by omega) (by omega) s50 hT50 hF50 w84_83_15 w84_83_15k e51 (q84_l4) (by omega) (by omega) e50 (z46) (by omega) (by omega) e53
        · refine ir_k (pc' := 125) (v := (0, 1)) rfl rfl rfl (fun _ => rfl) ?_
          refine ir_goto (pc' := 133) rfl rfl ?_
          refine ir_w [(0, (2, ((83 : Nat) : Int))), (1, (2, ((a1 : Nat) : Int))), (3, (0, x3))] ⟨rfl, rfl, rfl, trivial⟩ ?_
          exact J133 (1) (by omega) (by omega) s50 hT50 hF50 w84_83_15 w84_83_15k e51 (q84_l4) (by omega) (by omega) e50 (z46) (by omega) (by omega) e53
    · exact ir_vret rfl rfl ⟨rfl, hT42, hF42⟩
  have J63 : ∀ (q63_l4 : Int) (q63_l4l : 0 ≤ q63_l4) (q63_l4h : q63_l4 ≤ 1) (q63_s0 : Int) (q63_s0l : 0 ≤ q63_s0) (q63_s0h : q63_s0 ≤ 1) (s_63 : im_S) (hT_63 : tI s_63) (hF_63 : fr [(10, 13), (10, 14), (10, 15), (10, 16), (19, 1), (19, 2), (23, 1), (23, 7), (23, 8)] s0 s_63) (w63_83_15 : Nat) (w63_83_15k : gK[w63_83_15]? = some 25) (w63_83_15e : s_63.1 83 15 = ((w63_83_15 : Nat) : Int)), ir gG rm_P L ys (d + 2) rm_p_X3_take (63, [(0, (2, ((83 : Nat) : Int))), (1, (2, ((a1 : Nat) : Int))), (2, (0, x2)), (3, (0, x3)), (4, (0, q63_l4))], [(0, q63_s0)], s_63) (fun r : im_Re => r.1 = none ∧ (tI r.2 ∧ fr [(10, 13), (10, 14), (10, 15), (10, 16), (19, 1), (19, 2), (23, 1), (23, 7), (23, 8)] s0 r.2)) := by
    intro q63_l4 q63_l4l q63_l4h q63_s0 q63_s0l q63_s0h s_63 hT_63 hF_63 w63_83_15 w63_83_15k w63_83_15e
    refine ir_s (pc' := 65) rfl rfl rfl rfl rfl rfl ?_
    refine ir_l (pc' := 66) rfl rfl rfl rfl rfl rfl ?_
    refine ir_l (pc' := 68) rfl rfl rfl rfl rfl rfl ?_
    refine ir_z_eq (pt := 77) (pc' := 71) rfl rfl rfl (fun c57 => ?_) (fun c57 => ?_)
    · refine ir_k (pc' := 78) (v := (0, 1)) rfl rfl rfl (fun _ => rfl) ?_
      refine ir_l (pc' := 79) rfl rfl rfl rfl rfl rfl ?_
      refine ir_k (pc' := 80) (v := (0, 2)) rfl rfl rfl (fun _ => rfl) ?_
      refine ir_divN (pc' := 81) rfl rfl (by omega) (by omega) (by omega) (by omega) ?_
      refine ir_cSI (pc' := 84) rfl rfl rfl rfl rfl rfl (Nat.le_of_ble_eq_true rfl) (sf_max L ys (d + 1) s_63 (1) (by omega) (by omega) ((x2 / 2)) (by omega) (by omega)) (fun z58 s59 hr => ?_)
      obtain ⟨rfl, z58p0, z58p1, z58p2⟩ := hr
      refine ir_w [(0, (2, ((83 : Nat) : Int))), (1, (2, ((a1 : Nat) : Int))), (2, (0, x2)), (3, (0, x3)), (4, (0, q63_l4)), (5, (0, q63_s0))] ⟨rfl, rfl, rfl, rfl, rfl, rfl, trivial⟩ ?_
      exact J84 (q63_l4) (by omega) (by omega) (q63_s0) (by omega) (by omega) a1 a1k (z58) (by omega) (by omega) s_63 hT_63 hF_63 w63_83_15 w63_83_15k w63_83_15e
    · refine ir_l (pc' := 72) rfl rfl rfl rfl rfl rfl ?_
      refine ir_k (pc' := 73) (v := (0, 2)) rfl rfl rfl (fun _ => rfl) ?_
      refine ir_mul2 (pc' := 74) rfl rfl (fun z60 z60l z60h => ?_)
      refine ir_goto (pc' := 84) rfl rfl ?_
      refine ir_w [(0, (2, ((83 : Nat) : Int))), (1, (2, ((a1 : Nat) : Int))), (2, (0, x2)), (3, (0, x3)), (4, (0, q63_l4)), (5, (0, q63_s0))] ⟨rfl, rfl, rfl, rfl, rfl, rfl, trivial⟩ ?_
      exact J84 (q63_l4) (by omega) (by omega) (q63_s0) (by omega) (by omega) a1 a1k (z60) (by omega) (by omega) s_63 hT_63 hF_63 w63_83_15 w63_83_15k w63_83_15e
  have J58 : ∀ (q58_l4 : Int) (q58_l4l : 0 ≤ q58_l4) (q58_l4h : q58_l4 ≤ 1) (s_58 : im_S) (hT_58 : tI s_58) (hF_58 : fr [(10, 13), (10, 14), (10, 15), (10, 16), (19, 1), (19, 2), (23, 1), (23, 7), (23, 8)] s0 s_58) (w58_83_15 : Nat) (w58_83_15k : gK[w58_83_15]? = some 25) (w58_83_15e : s_58.1 83 15 = ((w58_83_15 : Nat) : Int)), ir gG rm_P L ys (d + 2) rm_p_X3_take (58, [(0, (2, ((83 : Nat) : Int))), (1, (2, ((a1 : Nat) : Int))), (2, (0, x2)), (3, (0, x3)), (4, (0, q58_l4))], [], s_58) (fun r : im_Re => r.1 = none ∧ (tI r.2 ∧ fr [(10, 13), (10, 14), (10, 15), (10, 16), (19, 1), (19, 2), (23, 1), (23, 7), (23, 8)] s0 r.2)) := by
    intro q58_l4 q58_l4l q58_l4h s_58 hT_58 hF_58 w58_83_15 w58_83_15k w58_83_15e
    refine ir_k (pc' := 59) (v := (0, 1)) rfl rfl rfl (fun _ => rfl) ?_
    refine ir_goto (pc' := 63) rfl rfl ?_
    refine ir_w [(0, (2, ((83 : Nat) : Int))), (1, (2, ((a1 : Nat) : Int))), (2, (0, x2)), (3, (0, x3)), (4, (0, q58_l4))] ⟨rfl, rfl, rfl, rfl, rfl, trivial⟩ ?_
    exact J63 (q58_l4) (by omega) (by omega) (1) (by omega) (by omega) s_58 hT_58 hF_58 w58_83_15 w58_83_15k w58_83_15e
  have J55 : ∀ (q55_l4 : Int) (q55_l4l : 0 ≤ q55_l4) (q55_l4h : q55_l4 ≤ 0) (q55_s0 : Int) (q55_s0l : 0 ≤ q55_s0) (q55_s0h : q55_s0 ≤ 1) (q55_s1 : Int) (q55_s1l : 0 ≤ q55_s1) (q55_s1h : q55_s1 ≤ 1) (s_55 : im_S) (hT_55 : tI s_55) (hF_55 : fr [(10, 13), (10, 14), (10, 15), (10, 16), (19, 1), (19, 2), (23, 1), (23, 7), (23, 8)] s0 s_55) (w55_83_13 : Nat) (w55_83_13k : gK[w55_83_13]? = some 25) (w55_83_13e : s_55.1 83 13 = ((w55_83_13 : Nat) : Int)) (w55_83_15 : Nat) (w55_83_15k : gK[w55_83_15]? = some 25) (w55_83_15e : s_55.1 83 15 = ((w55_83_15 : Nat) : Int)) (w55_83_16 : Nat) (w55_83_16k : gK[w55_83_16]? = some 25) (w55_83_16e : s_55.1 83 16 = ((w55_83_16 : Nat) : Int)), ir gG rm_P L ys (d + 2) rm_p_X3_take (55, [(0, (2, ((83 : Nat) : Int))), (1, (2, ((a1 : Nat) : Int))), (2, (0, x2)), (3, (0, x3)), (4, (0, q55_l4))], [(0, q55_s1), (0, q55_s0)], s_55) (fun r : im_Re => r.1 = none ∧ (tI r.2 ∧ fr [(10, 13), (10, 14), (10, 15), (10, 16), (19, 1), (19, 2), (23, 1), (23, 7), (23, 8)] s0 r.2)) := by
    intro q55_l4 q55_l4l q55_l4h q55_s0 q55_s0l q55_s0h q55_s1 q55_s1l q55_s1h s_55 hT_55 hF_55 w55_83_13 w55_83_13k w55_83_13e w55_83_15 w55_83_15k w55_83_15e w55_83_16 w55_83_16k w55_83_16e
    refine ir_c_ne (pt := 62) (pc' := 58) rfl rfl rfl (fun c61 => ?_) (fun c61 => ?_)
    · refine ir_k (pc' := 63) (v := (0, 0)) rfl rfl rfl (fun _ => rfl) ?_
      refine ir_w [(0, (2, ((83 : Nat) : Int))), (1, (2, ((a1 : Nat) : Int))), (2, (0, x2)), (3, (0, x3)), (4, (0, q55_l4))] ⟨rfl, rfl, rfl, rfl, rfl, trivial⟩ ?_
      exact J63 (q55_l4) (by omega) (by omega) (0) (by omega) (by omega) s_55 hT_55 hF_55 w55_83_15 w55_83_15k w55_83_15e
    · refine ir_w [(0, (2, ((83 : Nat) : Int))), (1, (2, ((a1 : Nat) : Int))), (2, (0, x2)), (3, (0, x3)), (4, (0, q55_l4))] ⟨rfl, rfl, rfl, rfl, rfl, trivial⟩ ?_
      exact J58 (q55_l4) (by omega) (by omega) s_55 hT_55 hF_55 w55_83_15 w55_83_15k w55_83_15e
  have J25 : ∀ (q25_s0 : Int) (q25_s0l : 0 ≤ q25_s0) (q25_s0h : q25_s0 ≤ 1) (s_25 : im_S) (hT_25 : tI s_25) (hF_25 : fr [(10, 13), (10, 14), (10, 15), (10, 16), (19, 1), (19, 2), (23, 1), (23, 7), (23, 8)] s0 s_25) (w25_83_15 : Nat) (w25_83_15k : gK[w25_83_15]? = some 25) (w25_83_15e : s_25.1 83 15 = ((w25_83_15 : Nat) : Int)), ir gG rm_P L ys (d + 2) rm_p_X3_take (25, [(0, (2, ((83 : Nat) : Int))), (1, (2, ((a1 : Nat) : Int))), (2, (0, x2)), (3, (0, x3))], [(0, q25_s0)], s_25) (fun r : im_Re => r.1 = none ∧ (tI r.2 ∧ fr [(10, 13), (10, 14), (10, 15), (10, 16), (19, 1), (19, 2), (23, 1), (23, 7), (23, 8)] s0 r.2)) := by
    intro q25_s0 q25_s0l q25_s0h s_25 hT_25 hF_25 w25_83_15 w25_83_15k w25_83_15e
    refine ir_s (pc' := 27) rfl rfl rfl rfl rfl rfl ?_
    refine ir_l (pc' := 29) rfl rfl rfl rfl rfl rfl ?_
    refine ir_z_ne (pt := 58) (pc' := 32) rfl rfl rfl (fun c62 => ?_) (fun c62 => ?_)
    · refine ir_w [(0, (2, ((83 : Nat) : Int))), (1, (2, ((a1 : Nat) : Int))), (2, (0, x2)), (3, (0, x3)), (4, (0, q25_s0))] ⟨rfl, rfl, rfl, rfl, rfl, trivial⟩ ?_
      exact J58 (q25_s0) (by omega) (by omega) s_25 hT_25 hF_25 w25_83_15 w25_83_15k w25_83_15e
    · refine ir_l (pc' := 33) rfl rfl rfl rfl rfl rfl ?_
      refine ir_l (pc' := 34) rfl rfl rfl rfl rfl rfl ?_
      refine ir_tgr (pc' := 37) rfl rfl rfl tf_10_16 tsk_10 hT_25 (fun b63 b63e b63k => ?_)
      refine ir_tgi (pc' := 40) rfl rfl rfl tf_25_2 b63k hT_25 (fun z64 z64e z64l z64h => ?_)
      refine ir_l (pc' := 41) rfl rfl rfl rfl rfl rfl ?_
      refine ir_tgr (pc' := 44) rfl rfl rfl tf_10_13 tsk_10 hT_25 (fun b65 b65e b65k => ?_)
      refine ir_tgi (pc' := 47) rfl rfl rfl tf_25_2 b65k hT_25 (fun z66 z66e z66l z66h => ?_)
      refine ir_c_eq (pt := 54) (pc' := 50) rfl rfl rfl (fun c67 => ?_) (fun c67 => ?_)
      · refine ir_k (pc' := 55) (v := (0, 0)) rfl rfl rfl (fun _ => rfl) ?_
        refine ir_w [(0, (2, ((83 : Nat) : Int))), (1, (2, ((a1 : Nat) : Int))), (2, (0, x2)), (3, (0, x3)), (4, (0, q25_s0))] ⟨rfl, rfl, rfl, rfl, rfl, trivial⟩ ?_
        exact J55 (q25_s0) (by omega) (by omega) (x3) (by omega) (by omega) (0) (by omega) (by omega) s_25 hT_25 hF_25 b65 b65k b65e w25_83_15 w25_83_15k w25_83_15e b63 b63k b63e
      · refine ir_k (pc' := 51) (v := (0, 1)) rfl rfl rfl (fun _ => rfl) ?_
        refine ir_goto (pc' := 55) rfl rfl ?_
        refine ir_w [(0, (2, ((83 : Nat) : Int))), (1, (2, ((a1 : Nat) : Int))), (2, (0, x2)), (3, (0, x3)), (4, (0, q25_s0))] ⟨rfl, rfl, rfl, rfl, rfl, trivial⟩ ?_
        exact J55 (q25_s0) (by omega) (by omega) (x3) (by omega) (by omega) (1) (by omega) (by omega) s_25 hT_25 hF_25 b65 b65k b65e w25_83_15 w25_83_15k w25_83_15e b63 b63k b63e
  have J20 : ∀ (s_20 : im_S) (hT_20 : tI s_20) (hF_20 : fr [(10, 13), (10, 14), (10, 15), (10, 16), (19, 1), (19, 2), (23, 1), (23, 7), (23, 8)] s0 s_20) (w20_83_15 : Nat) (w20_83_15k : gK[w20_83_15]? = some 25) (w20_83_15e : s_20.1 83 15 = ((w20_83_15 : Nat) : Int)), ir gG rm_P L ys (d + 2) rm_p_X3_take (20, [(0, (2, ((83 : Nat) : Int))), (1, (2, ((a1 : Nat) : Int))), (2, (0, x2)), (3, (0, x3))], [], s_20) (fun r : im_Re => r.1 = none ∧ (tI r.2 ∧ fr [(10, 13), (10, 14), (10, 15), (10, 16), (19, 1), (19, 2), (23, 1), (23, 7), (23, 8)] s0 r.2)) := by
    intro s_20 hT_20 hF_20 w20_83_15 w20_83_15k w20_83_15e
    refine ir_k (pc' := 21) (v := (0, 1)) rfl rfl rfl (fun _ => rfl) ?_
    refine ir_goto (pc' := 25) rfl rfl ?_
    refine ir_w [(0, (2, ((83 : Nat) : Int))), (1, (2, ((a1 : Nat) : Int))), (2, (0, x2)), (3, (0, x3))] ⟨rfl, rfl, rfl, rfl, trivial⟩ ?_
    exact J25 (1) (by omega) (by omega) s_20 hT_20 hF_20 w20_83_15 w20_83_15k w20_83_15e
  refine ir_l (pc' := 1) rfl rfl rfl rfl rfl rfl ?_
  refine ir_tgr (pc' := 4) rfl rfl rfl tf_10_15 tsk_10 hT0 (fun b68 b68e b68k => ?_)
  refine ir_tgi (pc' := 7) rfl rfl rfl tf_25_2 b68k hT0 (fun z69 z69e z69l z69h => ?_)
  refine ir_z_eq (pt := 20) (pc' := 10) rfl rfl rfl (fun c70 => ?_) (fun c70 => ?_)
  · refine ir_w [(0, (2, ((83 : Nat) : Int))), (1, (2, ((a1 : Nat) : Int))), (2, (0, x2)), (3, (0, x3))] ⟨rfl, rfl, rfl, rfl, trivial⟩ ?_
    exact J20 s0 hT0 hF0 b68 b68k b68e
  · refine ir_l (pc' := 11) rfl rfl rfl rfl rfl rfl ?_
    refine ir_tgr (pc' := 14) rfl rfl rfl tf_10_16 tsk_10 hT0 (fun b71 b71e b71k => ?_)
    refine ir_tgi (pc' := 17) rfl rfl rfl tf_25_2 b71k hT0 (fun z72 z72e z72l z72h => ?_)
    refine ir_z_ne (pt := 24) (pc' := 20) rfl rfl rfl (fun c73 => ?_) (fun c73 => ?_)
    · refine ir_k (pc' := 25) (v := (0, 0)) rfl rfl rfl (fun _ => rfl) ?_
      refine ir_w [(0, (2, ((83 : Nat) : Int))), (1, (2, ((a1 : Nat) : Int))), (2, (0, x2)), (3, (0, x3))] ⟨rfl, rfl, rfl, rfl, trivial⟩ ?_
      exact J25 (0) (by omega) (by omega) s0 hT0 hF0 b68 b68k b68e
    · refine ir_w [(0, (2, ((83 : Nat) : Int))), (1, (2, ((a1 : Nat) : Int))), (2, (0, x2)), (3, (0, x3))] ⟨rfl, rfl, rfl, rfl, trivial⟩ ?_
      exact J20 s0 hT0 hF0 b68 b68k b68e
theorem sf_tighten3 (L : Nat) (ys : Nat → Int32) (d : Nat) (s0 : im_S) (hT0 : tI s0) (a1 : Nat) (a1k : gK[a1]? = some 23) (a2 : Nat) (a2k : gK[a2]? = some 4) (x3 : Int) (x3l : -2147483648 ≤ x3) (x3h : x3 ≤ 2147483647) : icV gG rm_P L ys (d + 5) 147 [(2, ((83 : Nat) : Int)), (2, (a1 : Int)), (2, (a2 : Int)), (0, x3)] s0 (fun s => tI s ∧ fr [(10, 13), (10, 14), (10, 15), (10, 16), (19, 1), (19, 2), (23, 1), (23, 7), (23, 8), (25, 1), (25, 2)] s0 s) := by
  refine ic_startM (M := rm_p_X3_tighten) om_X3_tighten (Nat.le_of_ble_eq_true rfl) ?_
  refine ir_w [(0, (2, ((83 : Nat) : Int))), (1, (2, ((a1 : Nat) : Int))), (2, (2, ((a2 : Nat) : Int))), (3, (0, x3))] ⟨rfl, rfl, rfl, rfl, trivial⟩ ?_
  have hF0 := fr_refl [(10, 13), (10, 14), (10, 15), (10, 16), (19, 1), (19, 2), (23, 1), (23, 7), (23, 8), (25, 1), (25, 2)] s0
  have J279 : ∀ (s_279 : im_S) (hT_279 : tI s_279) (hF_279 : fr [(10, 13), (10, 14), (10, 15), (10, 16), (19, 1), (19, 2), (23, 1), (23, 7), (23, 8), (25, 1), (25, 2)] s0 s_279) (w279_83_5 : Nat) (w279_83_5k : gK[w279_83_5]? = some 21) (w279_83_5e : s_279.1 83 5 = ((w279_83_5 : Nat) : Int)) (w279_83_7 : Nat) (w279_83_7k : gK[w279_83_7]? = some 19) (w279_83_7e : s_279.1 83 7 = ((w279_83_7 : Nat) : Int)) (w279_a1_6 : Nat) (w279_a1_6k : gK[w279_a1_6]? = some 19) (w279_a1_6e : s_279.1 a1 6 = ((w279_a1_6 : Nat) : Int)), ir gG rm_P L ys (d + 4) rm_p_X3_tighten (279, [], [], s_279) (fun r : im_Re => r.1 = none ∧ (tI r.2 ∧ fr [(10, 13), (10, 14), (10, 15), (10, 16), (19, 1), (19, 2), (23, 1), (23, 7), (23, 8), (25, 1), (25, 2)] s0 r.2)) := by
    intro s_279 hT_279 hF_279 w279_83_5 w279_83_5k w279_83_5e w279_83_7 w279_83_7k w279_83_7e w279_a1_6 w279_a1_6k w279_a1_6e
    exact ir_vret rfl rfl ⟨rfl, hT_279, hF_279⟩
  have J86 : ∀ n : Nat, ∀ (q86_l4 : Int) (q86_l4l : -2147483647 ≤ q86_l4) (q86_l4h : q86_l4 ≤ 640) (q86_l5 : Int) (q86_l5l : 0 ≤ q86_l5) (q86_l5h : q86_l5 ≤ 10000) (s_86 : im_S) (hT_86 : tI s_86) (hF_86 : fr [(10, 13), (10, 14), (10, 15), (10, 16), (19, 1), (19, 2), (23, 1), (23, 7), (23, 8), (25, 1), (25, 2)] s0 s_86) (w86_83_5 : Nat) (w86_83_5k : gK[w86_83_5]? = some 21) (w86_83_5e : s_86.1 83 5 = ((w86_83_5 : Nat) : Int)) (w86_83_7 : Nat) (w86_83_7k : gK[w86_83_7]? = some 19) (w86_83_7e : s_86.1 83 7 = ((w86_83_7 : Nat) : Int)) (w86_a1_6 : Nat) (w86_a1_6k : gK[w86_a1_6]? = some 19) (w86_a1_6e : s_86.1 a1 6 = ((w86_a1_6 : Nat) : Int)), (10000 + 1 - q86_l5) ≤ (n : Int) → ir gG rm_P L ys (d + 4) rm_p_X3_tighten (86, [(0, (2, ((83 : Nat) : Int))), (1, (2, ((a1 : Nat) : Int))), (2, (2, ((a2 : Nat) : Int))), (4, (0, q86_l4)), (5, (0, q86_l5))], [], s_86) (fun r : im_Re => r.1 = none ∧ (tI r.2 ∧ fr [(10, 13), (10, 14), (10, 15), (10, 16), (19, 1), (19, 2), (23, 1), (23, 7), (23, 8), (25, 1), (25, 2)] s0 r.2)) := by
    intro n
    induction n with
    | zero => intro q86_l4 q86_l4l q86_l4h q86_l5 q86_l5l q86_l5h s_86 hT_86 hF_86 w86_83_5 w86_83_5k w86_83_5e w86_83_7 w86_83_7k w86_83_7e w86_a1_6 w86_a1_6k w86_a1_6e hr; exfalso; omega
    | succ n ih86 =>
      intro q86_l4 q86_l4l q86_l4h q86_l5 q86_l5l q86_l5h s_86 hT_86 hF_86 w86_83_5 w86_83_5k w86_83_5e w86_83_7 w86_83_7k w86_83_7e w86_a1_6 w86_a1_6k w86_a1_6e hr
      have J241 : ∀ (q241_l6 : Int) (q241_l6l : 1 ≤ q241_l6) (q241_l6h : q241_l6 ≤ 2147483646) (q241_l7 : Int) (q241_l7l : 0 ≤ q241_l7) (q241_l7h : q241_l7 ≤ 1) (q241_s0 : Nat) (q241_s0k : gK[q241_s0]? = some 19) (q241_s1 : Nat) (q241_s1k : gK[q241_s1]? = some 21) (q241_s2 : Int) (q241_s2l : -1 ≤ q241_s2) (q241_s2h : q241_s2 ≤ 1) (f241_5h : q86_l5 ≤ 9999) (s_241 : im_S) (hT_241 : tI s_241) (hF_241 : fr [(10, 13), (10, 14), (10, 15), (10, 16), (19, 1), (19, 2), (23, 1), (23, 7), (23, 8), (25, 1), (25, 2)] s0 s_241) (w241_83_5 : Nat) (w241_83_5k : gK[w241_83_5]? = some 21) (w241_83_5e : s_241.1 83 5 = ((w241_83_5 : Nat) : Int)) (w241_83_6 : Nat) (w241_83_6k : gK[w241_83_6]? = some 19) (w241_83_6e : s_241.1 83 6 = ((w241_83_6 : Nat) : Int)) (w241_83_7 : Nat) (w241_83_7k : gK[w241_83_7]? = some 19) (w241_83_7e : s_241.1 83 7 = ((w241_83_7 : Nat) : Int)) (w241_83_8 : Nat) (w241_83_8k : gK[w241_83_8]? = some 19) (w241_83_8e : s_241.1 83 8 = ((w241_83_8 : Nat) : Int)) (w241_83_13 : Nat) (w241_83_13k : gK[w241_83_13]? = some 25) (w241_83_13e : s_241.1 83 13 = ((w241_83_13 : Nat) : Int)) (w241_83_15 : Nat) (w241_83_15k : gK[w241_83_15]? = some 25) (w241_83_15e : s_241.1 83 15 = ((w241_83_15 : Nat) : Int)) (w241_a1_1 : Int) (w241_a1_1l : 0 ≤ w241_a1_1) (w241_a1_1h : w241_a1_1 ≤ 0) (w241_a1_1e : s_241.1 a1 1 = w241_a1_1) (w241_a1_6 : Nat) (w241_a1_6k : gK[w241_a1_6]? = some 19) (w241_a1_6e : s_241.1 a1 6 = ((w241_a1_6 : Nat) : Int)) (w241_a1_7 : Int) (w241_a1_7l : -2147483648 ≤ w241_a1_7) (w241_a1_7h : w241_a1_7 ≤ 639) (w241_a1_7e : s_241.1 a1 7 = w241_a1_7) (w241_a1_8 : Int) (w241_a1_8l : -2147483648 ≤ w241_a1_8) (w241_a1_8h : w241_a1_8 ≤ 2147483646) (w241_a1_8e : s_241.1 a1 8 = w241_a1_8), ir gG rm_P L ys (d + 4) rm_p_X3_tighten (241, [(0, (2, ((83 : Nat) : Int))), (1, (2, ((a1 : Nat) : Int))), (2, (2, ((a2 : Nat) : Int))), (4, (0, q86_l4)), (5, (0, q86_l5)), (6, (0, q241_l6)), (7, (0, q241_l7))], [(0, q241_s2), (2, ((q241_s1 : Nat) : Int)), (2, ((q241_s0 : Nat) : Int))], s_241) (fun r : im_Re => r.1 = none ∧ (tI r.2 ∧ fr [(10, 13), (10, 14), (10, 15), (10, 16), (19, 1), (19, 2), (23, 1), (23, 7), (23, 8), (25, 1), (25, 2)] s0 r.2)) := by
        intro q241_l6 q241_l6l q241_l6h q241_l7 q241_l7l q241_l7h q241_s0 q241_s0k q241_s1 q241_s1k q241_s2 q241_s2l q241_s2h f241_5h s_241 hT_241 hF_241 w241_83_5 w241_83_5k w241_83_5e w241_83_6 w241_83_6k w241_83_6e w241_83_7 w241_83_7k w241_83_7e w241_83_8 w241_83_8k w241_83_8e w241_83_13 w241_83_13k w241_83_13e w241_83_15 w241_83_15k w241_83_15e w241_a1_1 w241_a1_1l w241_a1_1h w241_a1_1e w241_a1_6 w241_a1_6k w241_a1_6e w241_a1_7 w241_a1_7l w241_a1_7h w241_a1_7e w241_a1_8 w241_a1_8l w241_a1_8h w241_a1_8e
        refine ir_cVV (pc' := 244) rfl rfl rfl rfl rfl (Nat.le_of_ble_eq_true rfl) oo_X1_add (gG_at q241_s0k) (sf_add1_19_21 L ys (d + 1) s_241 hT_241 q241_s0 q241_s0k q241_s1 q241_s1k (q241_s2) (by omega) (by omega) ) (fun s2 hr => ?_)
        obtain ⟨hT2, hG2⟩ := hr
        have hF2 := fr_trans hF_241 hG2 (by decide)
        have e3 : s2.1 a1 1 = w241_a1_1 := (hG2.1 _ _ a1k 1 (by decide)).trans w241_a1_1e
        have e4 : s2.1 a1 7 = w241_a1_7 := (hG2.1 _ _ a1k 7 (by decide)).trans w241_a1_7e
        have e5 : s2.1 83 7 = ((w241_83_7 : Nat) : Int) := (hG2.1 _ _ tsk_10 7 (by decide)).trans w241_83_7e
        have e6 : s2.1 a1 6 = ((w241_a1_6 : Nat) : Int) := (hG2.1 _ _ a1k 6 (by decide)).trans w241_a1_6e
        have e7 : s2.1 83 5 = ((w241_83_5 : Nat) : Int) := (hG2.1 _ _ tsk_10 5 (by decide)).trans w241_83_5e
        have e8 : s2.1 83 13 = ((w241_83_13 : Nat) : Int) := (hG2.1 _ _ tsk_10 13 (by decide)).trans w241_83_13e
        have e9 : s2.1 a1 8 = w241_a1_8 := (hG2.1 _ _ a1k 8 (by decide)).trans w241_a1_8e
        have e10 : s2.1 83 6 = ((w241_83_6 : Nat) : Int) := (hG2.1 _ _ tsk_10 6 (by decide)).trans w241_83_6e
        have e11 : s2.1 83 8 = ((w241_83_8 : Nat) : Int) := (hG2.1 _ _ tsk_10 8 (by decide)).trans w241_83_8e
        have e12 : s2.1 83 15 = ((w241_83_15 : Nat) : Int) := (hG2.1 _ _ tsk_10 15 (by decide)).trans w241_83_15e
        refine ir_l (pc' := 245) rfl rfl rfl rfl rfl rfl ?_
        refine ir_l (pc' := 246) rfl rfl rfl rfl rfl rfl ?_
        refine ir_tgr (pc' := 249) rfl rfl rfl tf_10_16 tsk_10 hT2 (fun b13 b13e b13k => ?_)
        refine ir_l (pc' := 250) rfl rfl rfl rfl rfl rfl ?_
        refine ir_l (pc' := 251) rfl rfl rfl rfl rfl rfl ?_
        refine ir_getR (pc' := 254) rfl rfl rfl (gG_at tsk_10) rfl e5 ?_
        refine ir_l (pc' := 255) rfl rfl rfl rfl rfl rfl ?_
        refine ir_getI (pc' := 258) rfl rfl rfl (gG_at a1k) rfl (by decide) (by decide) e4 (by omega) (by omega) ?_
        refine ir_l (pc' := 260) rfl rfl rfl rfl rfl rfl ?_
        refine ir_iiA (pc' := 261) rfl rfl rfl rfl (fun z14 z14l z14h => ?_)
        refine ir_cVV (pc' := 264) rfl rfl rfl rfl rfl (Nat.le_of_ble_eq_true rfl) oo_X3_setValue (gG_at tsk_10) (sf_setValue3 L ys d s2 hT2 b13 b13k a2 a2k w241_83_7 w241_83_7k (z14) (by omega) (by omega) ) (fun s16 hr => ?_)
        obtain ⟨hT16, hG16⟩ := hr
        have hF16 := fr_trans hF2 hG16 (by decide)
        have e17 : s16.1 a1 1 = w241_a1_1 := (hG16.1 _ _ a1k 1 (by decide)).trans e3
        have e18 : s16.1 a1 7 = w241_a1_7 := (hG16.1 _ _ a1k 7 (by decide)).trans e4
        have e19 : s16.1 83 7 = ((w241_83_7 : Nat) : Int) := (hG16.1 _ _ tsk_10 7 (by decide)).trans e5
        have e20 : s16.1 a1 6 = ((w241_a1_6 : Nat) : Int) := (hG16.1 _ _ a1k 6 (by decide)).trans e6
        have e21 : s16.1 83 5 = ((w241_83_5 : Nat) : Int) := (hG16.1 _ _ tsk_10 5 (by decide)).trans e7
        have e22 : s16.1 83 13 = ((w241_83_13 : Nat) : Int) := (hG16.1 _ _ tsk_10 13 (by decide)).trans e8
        have e23 : s16.1 a1 8 = w241_a1_8 := (hG16.1 _ _ a1k 8 (by decide)).trans e9
        have e24 : s16.1 83 6 = ((w241_83_6 : Nat) : Int) := (hG16.1 _ _ tsk_10 6 (by decide)).trans e10
        have e25 : s16.1 83 8 = ((w241_83_8 : Nat) : Int) := (hG16.1 _ _ tsk_10 8 (by decide)).trans e11
        have e26 : s16.1 83 15 = ((w241_83_15 : Nat) : Int) := (hG16.1 _ _ tsk_10 15 (by decide)).trans e12
        have e27 : s16.1 83 16 = ((b13 : Nat) : Int) := (hG16.1 _ _ tsk_10 16 (by decide)).trans b13e
        refine ir_l (pc' := 265) rfl rfl rfl rfl rfl rfl ?_
        refine ir_l (pc' := 266) rfl rfl rfl rfl rfl rfl ?_
        refine ir_l (pc' := 268) rfl rfl rfl rfl rfl rfl ?_
        refine ir_l (pc' := 270) rfl rfl rfl rfl rfl rfl ?_
        refine ir_cVV (pc' := 273) rfl rfl rfl rfl rfl (Nat.le_of_ble_eq_true rfl) oo_X3_take (gG_at tsk_10) (sf_take3 L ys (d + 1) s16 hT16 a1 a1k (q241_l6) (by omega) (by omega) (q241_l7) (by omega) (by omega) ) (fun s29 hr => ?_)
        obtain ⟨hT29, hG29⟩ := hr
        have hF29 := fr_trans hF16 hG29 (by decide)
        have e30 : s29.1 83 7 = ((w241_83_7 : Nat) : Int) := (hG29.1 _ _ tsk_10 7 (by decide)).trans e19
        have e31 : s29.1 a1 6 = ((w241_a1_6 : Nat) : Int) := (hG29.1 _ _ a1k 6 (by decide)).trans e20
        have e32 : s29.1 83 5 = ((w241_83_5 : Nat) : Int) := (hG29.1 _ _ tsk_10 5 (by decide)).trans e21
        have e33 : s29.1 83 6 = ((w241_83_6 : Nat) : Int) := (hG29.1 _ _ tsk_10 6 (by decide)).trans e24
        have e34 : s29.1 83 8 = ((w241_83_8 : Nat) : Int) := (hG29.1 _ _ tsk_10 8 (by decide)).trans e25
        refine ir_inc (pc' := 276) rfl rfl rfl rfl rfl (by omega) (by omega) ?_
        refine ir_goto (pc' := 86) rfl rfl ?_
        refine ir_w [(0, (2, ((83 : Nat) : Int))), (1, (2, ((a1 : Nat) : Int))), (2, (2, ((a2 : Nat) : Int))), (4, (0, q86_l4)), (5, (0, (q86_l5 + 1)))] ⟨rfl, rfl, rfl, rfl, rfl, trivial⟩ ?_
        exact ih86 (q86_l4) (by omega) (by omega) ((q86_l5 + 1)) (by omega) (by omega) s29 hT29 hF29 w241_83_5 w241_83_5k e32 w241_83_7 w241_83_7k e30 w241_a1_6 w241_a1_6k e31 (by omega)
      have J210 : ∀ (q210_l6 : Int) (q210_l6l : 1 ≤ q210_l6) (q210_l6h : q210_l6 ≤ 2147483646) (q210_s0 : Int) (q210_s0l : 0 ≤ q210_s0) (q210_s0h : q210_s0 ≤ 1) (f210_5h : q86_l5 ≤ 9999) (s_210 : im_S) (hT_210 : tI s_210) (hF_210 : fr [(10, 13), (10, 14), (10, 15), (10, 16), (19, 1), (19, 2), (23, 1), (23, 7), (23, 8), (25, 1), (25, 2)] s0 s_210) (w210_83_5 : Nat) (w210_83_5k : gK[w210_83_5]? = some 21) (w210_83_5e : s_210.1 83 5 = ((w210_83_5 : Nat) : Int)) (w210_83_6 : Nat) (w210_83_6k : gK[w210_83_6]? = some 19) (w210_83_6e : s_210.1 83 6 = ((w210_83_6 : Nat) : Int)) (w210_83_7 : Nat) (w210_83_7k : gK[w210_83_7]? = some 19) (w210_83_7e : s_210.1 83 7 = ((w210_83_7 : Nat) : Int)) (w210_83_8 : Nat) (w210_83_8k : gK[w210_83_8]? = some 19) (w210_83_8e : s_210.1 83 8 = ((w210_83_8 : Nat) : Int)) (w210_83_13 : Nat) (w210_83_13k : gK[w210_83_13]? = some 25) (w210_83_13e : s_210.1 83 13 = ((w210_83_13 : Nat) : Int)) (w210_83_15 : Nat) (w210_83_15k : gK[w210_83_15]? = some 25) (w210_83_15e : s_210.1 83 15 = ((w210_83_15 : Nat) : Int)) (w210_a1_1 : Int) (w210_a1_1l : 0 ≤ w210_a1_1) (w210_a1_1h : w210_a1_1 ≤ 0) (w210_a1_1e : s_210.1 a1 1 = w210_a1_1) (w210_a1_6 : Nat) (w210_a1_6k : gK[w210_a1_6]? = some 19) (w210_a1_6e : s_210.1 a1 6 = ((w210_a1_6 : Nat) : Int)) (w210_a1_7 : Int) (w210_a1_7l : -2147483648 ≤ w210_a1_7) (w210_a1_7h : w210_a1_7 ≤ 639) (w210_a1_7e : s_210.1 a1 7 = w210_a1_7) (w210_a1_8 : Int) (w210_a1_8l : -2147483648 ≤ w210_a1_8) (w210_a1_8h : w210_a1_8 ≤ 2147483646) (w210_a1_8e : s_210.1 a1 8 = w210_a1_8), ir gG rm_P L ys (d + 4) rm_p_X3_tighten (210, [(0, (2, ((83 : Nat) : Int))), (1, (2, ((a1 : Nat) : Int))), (2, (2, ((a2 : Nat) : Int))), (4, (0, q86_l4)), (5, (0, q86_l5)), (6, (0, q210_l6))], [(0, q210_s0)], s_210) (fun r : im_Re => r.1 = none ∧ (tI r.2 ∧ fr [(10, 13), (10, 14), (10, 15), (10, 16), (19, 1), (19, 2), (23, 1), (23, 7), (23, 8), (25, 1), (25, 2)] s0 r.2)) := by
        intro q210_l6 q210_l6l q210_l6h q210_s0 q210_s0l q210_s0h f210_5h s_210 hT_210 hF_210 w210_83_5 w210_83_5k w210_83_5e w210_83_6 w210_83_6k w210_83_6e w210_83_7 w210_83_7k w210_83_7e w210_83_8 w210_83_8k w210_83_8e w210_83_13 w210_83_13k w210_83_13e w210_83_15 w210_83_15k w210_83_15e w210_a1_1 w210_a1_1l w210_a1_1h w210_a1_1e w210_a1_6 w210_a1_6k w210_a1_6e w210_a1_7 w210_a1_7l w210_a1_7h w210_a1_7e w210_a1_8 w210_a1_8l w210_a1_8h w210_a1_8e
        refine ir_s (pc' := 212) rfl rfl rfl rfl rfl rfl ?_
        refine ir_l (pc' := 213) rfl rfl rfl rfl rfl rfl ?_
        refine ir_getR (pc' := 216) rfl rfl rfl (gG_at tsk_10) rfl w210_83_7e ?_
        refine ir_l (pc' := 217) rfl rfl rfl rfl rfl rfl ?_
        refine ir_getR (pc' := 220) rfl rfl rfl (gG_at tsk_10) rfl w210_83_6e ?_
        refine ir_cVV (pc' := 223) rfl rfl rfl rfl rfl (Nat.le_of_ble_eq_true rfl) oo_X1_copy (gG_at w210_83_7k) (sf_copy1_19_19 L ys (d + 2) s_210 hT_210 w210_83_7 w210_83_7k w210_83_6 w210_83_6k ) (fun s36 hr => ?_)
        obtain ⟨hT36, hG36⟩ := hr
        have hF36 := fr_trans hF_210 hG36 (by decide)
        have e37 : s36.1 a1 1 = w210_a1_1 := (hG36.1 _ _ a1k 1 (by decide)).trans w210_a1_1e
        have e38 : s36.1 a1 7 = w210_a1_7 := (hG36.1 _ _ a1k 7 (by decide)).trans w210_a1_7e
        have e39 : s36.1 83 7 = ((w210_83_7 : Nat) : Int) := (hG36.1 _ _ tsk_10 7 (by decide)).trans w210_83_7e
        have e40 : s36.1 a1 6 = ((w210_a1_6 : Nat) : Int) := (hG36.1 _ _ a1k 6 (by decide)).trans w210_a1_6e
        have e41 : s36.1 83 5 = ((w210_83_5 : Nat) : Int) := (hG36.1 _ _ tsk_10 5 (by decide)).trans w210_83_5e
        have e42 : s36.1 83 13 = ((w210_83_13 : Nat) : Int) := (hG36.1 _ _ tsk_10 13 (by decide)).trans w210_83_13e
        have e43 : s36.1 a1 8 = w210_a1_8 := (hG36.1 _ _ a1k 8 (by decide)).trans w210_a1_8e
        have e44 : s36.1 83 6 = ((w210_83_6 : Nat) : Int) := (hG36.1 _ _ tsk_10 6 (by decide)).trans w210_83_6e
        have e45 : s36.1 83 8 = ((w210_83_8 : Nat) : Int) := (hG36.1 _ _ tsk_10 8 (by decide)).trans w210_83_8e
        have e46 : s36.1 83 15 = ((w210_83_15 : Nat) : Int) := (hG36.1 _ _ tsk_10 15 (by decide)).trans w210_83_15e
        refine ir_l (pc' := 224) rfl rfl rfl rfl rfl rfl ?_
        refine ir_getR (pc' := 227) rfl rfl rfl (gG_at tsk_10) rfl e39 ?_
        refine ir_l (pc' := 228) rfl rfl rfl rfl rfl rfl ?_
        refine ir_getR (pc' := 231) rfl rfl rfl (gG_at tsk_10) rfl e41 ?_
        refine ir_l (pc' := 233) rfl rfl rfl rfl rfl rfl ?_
        refine ir_z_eq (pt := 240) (pc' := 236) rfl rfl rfl (fun c47 => ?_) (fun c47 => ?_)
        · refine ir_k (pc' := 241) (v := (0, (-1))) rfl rfl rfl (fun _ => rfl) ?_
          refine ir_w [(0, (2, ((83 : Nat) : Int))), (1, (2, ((a1 : Nat) : Int))), (2, (2, ((a2 : Nat) : Int))), (4, (0, q86_l4)), (5, (0, q86_l5)), (6, (0, q210_l6)), (7, (0, q210_s0))] ⟨rfl, rfl, rfl, rfl, rfl, rfl, rfl, trivial⟩ ?_
          exact J241 (q210_l6) (by omega) (by omega) (q210_s0) (by omega) (by omega) w210_83_7 w210_83_7k w210_83_5 w210_83_5k ((-1)) (by omega) (by omega) (by omega) s36 hT36 hF36 w210_83_5 w210_83_5k e41 w210_83_6 w210_83_6k e44 w210_83_7 w210_83_7k e39 w210_83_8 w210_83_8k e45 w210_83_13 w210_83_13k e42 w210_83_15 w210_83_15k e46 (w210_a1_1) (by omega) (by omega) e37 w210_a1_6 w210_a1_6k e40 (w210_a1_7) (by omega) (by omega) e38 (w210_a1_8) (by omega) (by omega) e43
        · refine ir_k (pc' := 237) (v := (0, 1)) rfl rfl rfl (fun _ => rfl) ?_
          refine ir_goto (pc' := 241) rfl rfl ?_
          refine ir_w [(0, (2, ((83 : Nat) : Int))), (1, (2, ((a1 : Nat) : Int))), (2, (2, ((a2 : Nat) : Int))), (4, (0, q86_l4)), (5, (0, q86_l5)), (6, (0, q210_l6)), (7, (0, q210_s0))] ⟨rfl, rfl, rfl, rfl, rfl, rfl, rfl, trivial⟩ ?_
          exact J241 (q210_l6) (by omega) (by omega) (q210_s0) (by omega) (by omega) w210_83_7 w210_83_7k w210_83_5 w210_83_5k (1) (by omega) (by omega) (by omega) s36 hT36 hF36 w210_83_5 w210_83_5k e41 w210_83_6 w210_83_6k e44 w210_83_7 w210_83_7k e39 w210_83_8 w210_83_8k e45 w210_83_13 w210_83_13k e42 w210_83_15 w210_83_15k e46 (w210_a1_1) (by omega) (by omega) e37 w210_a1_6 w210_a1_6k e40 (w210_a1_7) (by omega) (by omega) e38 (w210_a1_8) (by omega) (by omega) e43
      refine ir_l (pc' := 88) rfl rfl rfl rfl rfl rfl ?_
      refine ir_k (pc' := 91) (v := (0, 10000)) rfl rfl rfl (fun _ => rfl) ?_
      refine ir_c_ge (pt := 279) (pc' := 94) rfl rfl rfl (fun c48 => ?_) (fun c48 => ?_)
      · refine ir_w [] trivial ?_
        exact J279 s_86 hT_86 hF_86 w86_83_5 w86_83_5k w86_83_5e w86_83_7 w86_83_7k w86_83_7e w86_a1_6 w86_a1_6k w86_a1_6e
      · refine ir_l (pc' := 95) rfl rfl rfl rfl rfl rfl ?_
        refine ir_tgi (pc' := 98) rfl rfl rfl tf_23_7 a1k hT_86 (fun z49 z49e z49l z49h => ?_)
        refine ir_l (pc' := 100) rfl rfl rfl rfl rfl rfl ?_
        refine ir_c_ge (pt := 279) (pc' := 103) rfl rfl rfl (fun c50 => ?_) (fun c50 => ?_)
        · refine ir_w [] trivial ?_
          exact J279 s_86 hT_86 hF_86 w86_83_5 w86_83_5k w86_83_5e w86_83_7 w86_83_7k w86_83_7e w86_a1_6 w86_a1_6k w86_a1_6e
        · refine ir_l (pc' := 104) rfl rfl rfl rfl rfl rfl ?_
          refine ir_tgi (pc' := 107) rfl rfl rfl tf_23_1 a1k hT_86 (fun z51 z51e z51l z51h => ?_)
          refine ir_z_ne (pt := 279) (pc' := 110) rfl rfl rfl (fun c52 => ?_) (fun c52 => ?_)
          · refine ir_w [] trivial ?_
            exact J279 s_86 hT_86 hF_86 w86_83_5 w86_83_5k w86_83_5e w86_83_7 w86_83_7k w86_83_7e w86_a1_6 w86_a1_6k w86_a1_6e
          · refine ir_k (pc' := 111) (v := (0, 1)) rfl rfl rfl (fun _ => rfl) ?_
            refine ir_l (pc' := 112) rfl rfl rfl rfl rfl rfl ?_
            refine ir_tgi (pc' := 115) rfl rfl rfl tf_23_8 a1k hT_86 (fun z53 z53e z53l z53h => ?_)
            refine ir_l (pc' := 117) rfl rfl rfl rfl rfl rfl ?_
            refine ir_l (pc' := 118) rfl rfl rfl rfl rfl rfl ?_
            refine ir_getI (pc' := 121) rfl rfl rfl (gG_at a1k) rfl (by decide) (by decide) z49e (by omega) (by omega) ?_
            refine ir_iiA (pc' := 122) rfl rfl rfl rfl (fun z54 z54l z54h => ?_)
            refine ir_cSI (pc' := 125) rfl rfl rfl rfl rfl rfl (Nat.le_of_ble_eq_true rfl) (sf_min L ys (d + 3) s_86 (z53) (by omega) (by omega) (z54) (by omega) (by omega)) (fun z55 s56 hr => ?_)
            obtain ⟨rfl, z55p0, z55p1, z55p2⟩ := hr
            refine ir_cSI (pc' := 128) rfl rfl rfl rfl rfl rfl (Nat.le_of_ble_eq_true rfl) (sf_max L ys (d + 3) s_86 (1) (by omega) (by omega) (z55) (by omega) (by omega)) (fun z57 s58 hr => ?_)
            obtain ⟨rfl, z57p0, z57p1, z57p2⟩ := hr
            refine ir_s (pc' := 130) rfl rfl rfl rfl rfl rfl ?_
            refine ir_l (pc' := 131) rfl rfl rfl rfl rfl rfl ?_
            refine ir_l (pc' := 133) rfl rfl rfl rfl rfl rfl ?_
            refine ir_cVV (pc' := 136) rfl rfl rfl rfl rfl (Nat.le_of_ble_eq_true rfl) oo_X3_guessJump (gG_at tsk_10) (sf_guessJump3 L ys d s_86 hT_86 (z57) (by omega) (by omega) ) (fun s60 hr => ?_)
            obtain ⟨hT60, hG60⟩ := hr
            have hF60 := fr_trans hF_86 hG60 (by decide)
            have e61 : s60.1 83 7 = ((w86_83_7 : Nat) : Int) := (hG60.1 _ _ tsk_10 7 (by decide)).trans w86_83_7e
            have e62 : s60.1 a1 6 = ((w86_a1_6 : Nat) : Int) := (hG60.1 _ _ a1k 6 (by decide)).trans w86_a1_6e
            have e63 : s60.1 83 5 = ((w86_83_5 : Nat) : Int) := (hG60.1 _ _ tsk_10 5 (by decide)).trans w86_83_5e
            have e64 : s60.1 a1 7 = z49 := (hG60.1 _ _ a1k 7 (by decide)).trans z49e
            have e65 : s60.1 a1 1 = z51 := (hG60.1 _ _ a1k 1 (by decide)).trans z51e
            have e66 : s60.1 a1 8 = z53 := (hG60.1 _ _ a1k 8 (by decide)).trans z53e
            refine ir_l (pc' := 137) rfl rfl rfl rfl rfl rfl ?_
            refine ir_tgr (pc' := 140) rfl rfl rfl tf_10_6 tsk_10 hT60 (fun b67 b67e b67k => ?_)
            refine ir_l (pc' := 141) rfl rfl rfl rfl rfl rfl ?_
            refine ir_getR (pc' := 144) rfl rfl rfl (gG_at a1k) rfl e62 ?_
            refine ir_cVV (pc' := 147) rfl rfl rfl rfl rfl (Nat.le_of_ble_eq_true rfl) oo_X1_copy (gG_at b67k) (sf_copy1_19_19 L ys (d + 2) s60 hT60 b67 b67k w86_a1_6 w86_a1_6k ) (fun s69 hr => ?_)
            obtain ⟨hT69, hG69⟩ := hr
            have hF69 := fr_trans hF60 hG69 (by decide)
            have e70 : s69.1 83 7 = ((w86_83_7 : Nat) : Int) := (hG69.1 _ _ tsk_10 7 (by decide)).trans e61
            have e71 : s69.1 a1 6 = ((w86_a1_6 : Nat) : Int) := (hG69.1 _ _ a1k 6 (by decide)).trans e62
            have e72 : s69.1 83 5 = ((w86_83_5 : Nat) : Int) := (hG69.1 _ _ tsk_10 5 (by decide)).trans e63
            have e73 : s69.1 a1 7 = z49 := (hG69.1 _ _ a1k 7 (by decide)).trans e64
            have e74 : s69.1 a1 1 = z51 := (hG69.1 _ _ a1k 1 (by decide)).trans e65
            have e75 : s69.1 a1 8 = z53 := (hG69.1 _ _ a1k 8 (by decide)).trans e66
            have e76 : s69.1 83 6 = ((b67 : Nat) : Int) := (hG69.1 _ _ tsk_10 6 (by decide)).trans b67e
            refine ir_l (pc' := 148) rfl rfl rfl rfl rfl rfl ?_
            refine ir_getR (pc' := 151) rfl rfl rfl (gG_at tsk_10) rfl e76 ?_
            refine ir_l (pc' := 153) rfl rfl rfl rfl rfl rfl ?_
            refine ir_cVV (pc' := 156) rfl rfl rfl rfl rfl (Nat.le_of_ble_eq_true rfl) oo_X1_shiftUp (gG_at b67k) (sf_shiftUp1_19 L ys (d + 2) s69 hT69 b67 b67k (z57) (by omega) (by omega) ) (fun s78 hr => ?_)
            obtain ⟨hT78, hG78⟩ := hr
            have hF78 := fr_trans hF69 hG78 (by decide)
            have e79 : s78.1 83 7 = ((w86_83_7 : Nat) : Int) := (hG78.1 _ _ tsk_10 7 (by decide)).trans e70
            have e80 : s78.1 a1 6 = ((w86_a1_6 : Nat) : Int) := (hG78.1 _ _ a1k 6 (by decide)).trans e71
            have e81 : s78.1 83 5 = ((w86_83_5 : Nat) : Int) := (hG78.1 _ _ tsk_10 5 (by decide)).trans e72
            have e82 : s78.1 a1 7 = z49 := (hG78.1 _ _ a1k 7 (by decide)).trans e73
            have e83 : s78.1 a1 1 = z51 := (hG78.1 _ _ a1k 1 (by decide)).trans e74
            have e84 : s78.1 a1 8 = z53 := (hG78.1 _ _ a1k 8 (by decide)).trans e75
            have e85 : s78.1 83 6 = ((b67 : Nat) : Int) := (hG78.1 _ _ tsk_10 6 (by decide)).trans e76
            refine ir_l (pc' := 157) rfl rfl rfl rfl rfl rfl ?_
            refine ir_getR (pc' := 160) rfl rfl rfl (gG_at tsk_10) rfl e85 ?_
            refine ir_l (pc' := 161) rfl rfl rfl rfl rfl rfl ?_
            refine ir_tgr (pc' := 164) rfl rfl rfl tf_10_8 tsk_10 hT78 (fun b86 b86e b86k => ?_)
            refine ir_k (pc' := 165) (v := (0, 1)) rfl rfl rfl (fun _ => rfl) ?_
            refine ir_cVV (pc' := 168) rfl rfl rfl rfl rfl (Nat.le_of_ble_eq_true rfl) oo_X1_add (gG_at b67k) (sf_add1_19_19 L ys (d + 1) s78 hT78 b67 b67k b86 b86k (1) (by omega) (by omega) ) (fun s88 hr => ?_)
            obtain ⟨hT88, hG88⟩ := hr
            have hF88 := fr_trans hF78 hG88 (by decide)
            have e89 : s88.1 83 7 = ((w86_83_7 : Nat) : Int) := (hG88.1 _ _ tsk_10 7 (by decide)).trans e79
            have e90 : s88.1 a1 6 = ((w86_a1_6 : Nat) : Int) := (hG88.1 _ _ a1k 6 (by decide)).trans e80
            have e91 : s88.1 83 5 = ((w86_83_5 : Nat) : Int) := (hG88.1 _ _ tsk_10 5 (by decide)).trans e81
            have e92 : s88.1 a1 7 = z49 := (hG88.1 _ _ a1k 7 (by decide)).trans e82
            have e93 : s88.1 a1 1 = z51 := (hG88.1 _ _ a1k 1 (by decide)).trans e83
            have e94 : s88.1 a1 8 = z53 := (hG88.1 _ _ a1k 8 (by decide)).trans e84
            have e95 : s88.1 83 6 = ((b67 : Nat) : Int) := (hG88.1 _ _ tsk_10 6 (by decide)).trans e85
            have e96 : s88.1 83 8 = ((b86 : Nat) : Int) := (hG88.1 _ _ tsk_10 8 (by decide)).trans b86e
            refine ir_l (pc' := 169) rfl rfl rfl rfl rfl rfl ?_
            refine ir_l (pc' := 170) rfl rfl rfl rfl rfl rfl ?_
            refine ir_tgr (pc' := 173) rfl rfl rfl tf_10_15 tsk_10 hT88 (fun b97 b97e b97k => ?_)
            refine ir_l (pc' := 174) rfl rfl rfl rfl rfl rfl ?_
            refine ir_l (pc' := 175) rfl rfl rfl rfl rfl rfl ?_
            refine ir_getR (pc' := 178) rfl rfl rfl (gG_at tsk_10) rfl e95 ?_
            refine ir_l (pc' := 179) rfl rfl rfl rfl rfl rfl ?_
            refine ir_getI (pc' := 182) rfl rfl rfl (gG_at a1k) rfl (by decide) (by decide) e92 (by omega) (by omega) ?_
            refine ir_l (pc' := 184) rfl rfl rfl rfl rfl rfl ?_
            refine ir_iiA (pc' := 185) rfl rfl rfl rfl (fun z98 z98l z98h => ?_)
            refine ir_cVV (pc' := 188) rfl rfl rfl rfl rfl (Nat.le_of_ble_eq_true rfl) oo_X3_setValue (gG_at tsk_10) (sf_setValue3 L ys d s88 hT88 b97 b97k a2 a2k b67 b67k (z98) (by omega) (by omega) ) (fun s100 hr => ?_)
            obtain ⟨hT100, hG100⟩ := hr
            have hF100 := fr_trans hF88 hG100 (by decide)
            have e101 : s100.1 83 7 = ((w86_83_7 : Nat) : Int) := (hG100.1 _ _ tsk_10 7 (by decide)).trans e89
            have e102 : s100.1 a1 6 = ((w86_a1_6 : Nat) : Int) := (hG100.1 _ _ a1k 6 (by decide)).trans e90
            have e103 : s100.1 83 5 = ((w86_83_5 : Nat) : Int) := (hG100.1 _ _ tsk_10 5 (by decide)).trans e91
            have e104 : s100.1 a1 7 = z49 := (hG100.1 _ _ a1k 7 (by decide)).trans e92
            have e105 : s100.1 a1 1 = z51 := (hG100.1 _ _ a1k 1 (by decide)).trans e93
            have e106 : s100.1 a1 8 = z53 := (hG100.1 _ _ a1k 8 (by decide)).trans e94
            have e107 : s100.1 83 6 = ((b67 : Nat) : Int) := (hG100.1 _ _ tsk_10 6 (by decide)).trans e95
            have e108 : s100.1 83 8 = ((b86 : Nat) : Int) := (hG100.1 _ _ tsk_10 8 (by decide)).trans e96
            have e109 : s100.1 83 15 = ((b97 : Nat) : Int) := (hG100.1 _ _ tsk_10 15 (by decide)).trans b97e
            refine ir_l (pc' := 189) rfl rfl rfl rfl rfl rfl ?_
            refine ir_getR (pc' := 192) rfl rfl rfl (gG_at tsk_10) rfl e109 ?_
            refine ir_tgi (pc' := 195) rfl rfl rfl tf_25_2 b97k hT100 (fun z110 z110e z110l z110h => ?_)
            refine ir_l (pc' := 196) rfl rfl rfl rfl rfl rfl ?_
            refine ir_tgr (pc' := 199) rfl rfl rfl tf_10_13 tsk_10 hT100 (fun b111 b111e b111k => ?_)
            refine ir_tgi (pc' := 202) rfl rfl rfl tf_25_2 b111k hT100 (fun z112 z112e z112l z112h => ?_)
            refine ir_c_ne (pt := 209) (pc' := 205) rfl rfl rfl (fun c113 => ?_) (fun c113 => ?_)
            · refine ir_k (pc' := 210) (v := (0, 0)) rfl rfl rfl (fun _ => rfl) ?_
              refine ir_w [(0, (2, ((83 : Nat) : Int))), (1, (2, ((a1 : Nat) : Int))), (2, (2, ((a2 : Nat) : Int))), (4, (0, q86_l4)), (5, (0, q86_l5)), (6, (0, z57))] ⟨rfl, rfl, rfl, rfl, rfl, rfl, trivial⟩ ?_
              exact J210 (z57) (by omega) (by omega) (0) (by omega) (by omega) (by omega) s100 hT100 hF100 w86_83_5 w86_83_5k e103 b67 b67k e107 w86_83_7 w86_83_7k e101 b86 b86k e108 b111 b111k b111e b97 b97k e109 (z51) (by omega) (by omega) e105 w86_a1_6 w86_a1_6k e102 (z49) (by omega) (by omega) e104 (z53) (by omega) (by omega) e106
            · refine ir_k (pc' := 206) (v := (0, 1)) rfl rfl rfl (fun _ => rfl) ?_
              refine ir_goto (pc' := 210) rfl rfl ?_
              refine ir_w [(0, (2, ((83 : Nat) : Int))), (1, (2, ((a1 : Nat) : Int))), (2, (2, ((a2 : Nat) : Int))), (4, (0, q86_l4)), (5, (0, q86_l5)), (6, (0, z57))] ⟨rfl, rfl, rfl, rfl, rfl, rfl, trivial⟩ ?_
              exact J210 (z57) (by omega) (by omega) (1) (by omega) (by omega) (by omega) s100 hT100 hF100 w86_83_5 w86_83_5k e103 b67 b67k e107 w86_83_7 w86_83_7k e101 b86 b86k e108 b111 b111k b111e b97 b97k e109 (z51) (by omega) (by omega) e105 w86_a1_6 w86_a1_6k e102 (z49) (by omega) (by omega) e104 (z53) (by omega) (by omega) e106
  have J25 : ∀ (s_25 : im_S) (hT_25 : tI s_25) (hF_25 : fr [(10, 13), (10, 14), (10, 15), (10, 16), (19, 1), (19, 2), (23, 1), (23, 7), (23, 8), (25, 1), (25, 2)] s0 s_25) (w25_a1_1 : Int) (w25_a1_1l : 0 ≤ w25_a1_1) (w25_a1_1h : w25_a1_1 ≤ 1) (w25_a1_1e : s_25.1 a1 1 = w25_a1_1), ir gG rm_P L ys (d + 4) rm_p_X3_tighten (25, [], [], s_25) (fun r : im_Re => r.1 = none ∧ (tI r.2 ∧ fr [(10, 13), (10, 14), (10, 15), (10, 16), (19, 1), (19, 2), (23, 1), (23, 7), (23, 8), (25, 1), (25, 2)] s0 r.2)) := by
    intro s_25 hT_25 hF_25 w25_a1_1 w25_a1_1l w25_a1_1h w25_a1_1e
    exact ir_vret rfl rfl ⟨rfl, hT_25, hF_25⟩
  refine ir_l (pc' := 1) rfl rfl rfl rfl rfl rfl ?_
  refine ir_k (pc' := 4) (v := (0, 640)) rfl rfl rfl (fun _ => rfl) ?_
  refine ir_cSI (pc' := 7) rfl rfl rfl rfl rfl rfl (Nat.le_of_ble_eq_true rfl) (sf_min L ys (d + 3) s0 (x3) (by omega) (by omega) (640) (by omega) (by omega)) (fun z114 s115 hr => ?_)
  obtain ⟨rfl, z114p0, z114p1, z114p2⟩ := hr
  refine ir_s (pc' := 9) rfl rfl rfl rfl rfl rfl ?_
  refine ir_l (pc' := 10) rfl rfl rfl rfl rfl rfl ?_
  refine ir_tgi (pc' := 13) rfl rfl rfl tf_23_1 a1k hT0 (fun z116 z116e z116l z116h => ?_)
  refine ir_z_ne (pt := 25) (pc' := 16) rfl rfl rfl (fun c117 => ?_) (fun c117 => ?_)
  · refine ir_w [] trivial ?_
    exact J25 s0 hT0 hF0 (z116) (by omega) (by omega) z116e
  · refine ir_l (pc' := 17) rfl rfl rfl rfl rfl rfl ?_
    refine ir_tgi (pc' := 20) rfl rfl rfl tf_23_7 a1k hT0 (fun z118 z118e z118l z118h => ?_)
    refine ir_l (pc' := 22) rfl rfl rfl rfl rfl rfl ?_
    refine ir_c_lt (pt := 26) (pc' := 25) rfl rfl rfl (fun c119 => ?_) (fun c119 => ?_)
    · refine ir_l (pc' := 27) rfl rfl rfl rfl rfl rfl ?_
      refine ir_tgr (pc' := 30) rfl rfl rfl tf_10_7 tsk_10 hT0 (fun b120 b120e b120k => ?_)
      refine ir_l (pc' := 31) rfl rfl rfl rfl rfl rfl ?_
      refine ir_tgr (pc' := 34) rfl rfl rfl tf_23_6 a1k hT0 (fun b121 b121e b121k => ?_)
      refine ir_cVV (pc' := 37) rfl rfl rfl rfl rfl (Nat.le_of_ble_eq_true rfl) oo_X1_copy (gG_at b120k) (sf_copy1_19_19 L ys (d + 2) s0 hT0 b120 b120k b121 b121k ) (fun s123 hr => ?_)
      obtain ⟨hT123, hG123⟩ := hr
      have hF123 := fr_trans hF0 hG123 (by decide)
      have e124 : s123.1 a1 1 = z116 := (hG123.1 _ _ a1k 1 (by decide)).trans z116e
      have e125 : s123.1 a1 7 = z118 := (hG123.1 _ _ a1k 7 (by decide)).trans z118e
      have e126 : s123.1 83 7 = ((b120 : Nat) : Int) := (hG123.1 _ _ tsk_10 7 (by decide)).trans b120e
      have e127 : s123.1 a1 6 = ((b121 : Nat) : Int) := (hG123.1 _ _ a1k 6 (by decide)).trans b121e
      refine ir_l (pc' := 38) rfl rfl rfl rfl rfl rfl ?_
      refine ir_getR (pc' := 41) rfl rfl rfl (gG_at tsk_10) rfl e126 ?_
      refine ir_l (pc' := 42) rfl rfl rfl rfl rfl rfl ?_
      refine ir_tgr (pc' := 45) rfl rfl rfl tf_10_5 tsk_10 hT123 (fun b128 b128e b128k => ?_)
      refine ir_k (pc' := 46) (v := (0, 1)) rfl rfl rfl (fun _ => rfl) ?_
      refine ir_cVV (pc' := 49) rfl rfl rfl rfl rfl (Nat.le_of_ble_eq_true rfl) oo_X1_add (gG_at b120k) (sf_add1_19_21 L ys (d + 1) s123 hT123 b120 b120k b128 b128k (1) (by omega) (by omega) ) (fun s130 hr => ?_)
      obtain ⟨hT130, hG130⟩ := hr
      have hF130 := fr_trans hF123 hG130 (by decide)
      have e131 : s130.1 a1 1 = z116 := (hG130.1 _ _ a1k 1 (by decide)).trans e124
      have e132 : s130.1 a1 7 = z118 := (hG130.1 _ _ a1k 7 (by decide)).trans e125
      have e133 : s130.1 83 7 = ((b120 : Nat) : Int) := (hG130.1 _ _ tsk_10 7 (by decide)).trans e126
      have e134 : s130.1 a1 6 = ((b121 : Nat) : Int) := (hG130.1 _ _ a1k 6 (by decide)).trans e127
      have e135 : s130.1 83 5 = ((b128 : Nat) : Int) := (hG130.1 _ _ tsk_10 5 (by decide)).trans b128e
      refine ir_l (pc' := 50) rfl rfl rfl rfl rfl rfl ?_
      refine ir_l (pc' := 51) rfl rfl rfl rfl rfl rfl ?_
      refine ir_tgr (pc' := 54) rfl rfl rfl tf_10_13 tsk_10 hT130 (fun b136 b136e b136k => ?_)
      refine ir_l (pc' := 55) rfl rfl rfl rfl rfl rfl ?_
      refine ir_l (pc' := 56) rfl rfl rfl rfl rfl rfl ?_
      refine ir_getR (pc' := 59) rfl rfl rfl (gG_at a1k) rfl e134 ?_
      refine ir_l (pc' := 60) rfl rfl rfl rfl rfl rfl ?_
      refine ir_getI (pc' := 63) rfl rfl rfl (gG_at a1k) rfl (by decide) (by decide) e132 (by omega) (by omega) ?_
      refine ir_cVV (pc' := 66) rfl rfl rfl rfl rfl (Nat.le_of_ble_eq_true rfl) oo_X3_setValue (gG_at tsk_10) (sf_setValue3 L ys d s130 hT130 b136 b136k a2 a2k b121 b121k (z118) (by omega) (by omega) ) (fun s138 hr => ?_)
      obtain ⟨hT138, hG138⟩ := hr
      have hF138 := fr_trans hF130 hG138 (by decide)
      have e139 : s138.1 a1 1 = z116 := (hG138.1 _ _ a1k 1 (by decide)).trans e131
      have e140 : s138.1 a1 7 = z118 := (hG138.1 _ _ a1k 7 (by decide)).trans e132
      have e141 : s138.1 83 7 = ((b120 : Nat) : Int) := (hG138.1 _ _ tsk_10 7 (by decide)).trans e133
      have e142 : s138.1 a1 6 = ((b121 : Nat) : Int) := (hG138.1 _ _ a1k 6 (by decide)).trans e134
      have e143 : s138.1 83 5 = ((b128 : Nat) : Int) := (hG138.1 _ _ tsk_10 5 (by decide)).trans e135
      have e144 : s138.1 83 13 = ((b136 : Nat) : Int) := (hG138.1 _ _ tsk_10 13 (by decide)).trans b136e
      refine ir_l (pc' := 67) rfl rfl rfl rfl rfl rfl ?_
      refine ir_l (pc' := 68) rfl rfl rfl rfl rfl rfl ?_
      refine ir_tgr (pc' := 71) rfl rfl rfl tf_10_14 tsk_10 hT138 (fun b145 b145e b145k => ?_)
      refine ir_l (pc' := 72) rfl rfl rfl rfl rfl rfl ?_
      refine ir_l (pc' := 73) rfl rfl rfl rfl rfl rfl ?_
      refine ir_getR (pc' := 76) rfl rfl rfl (gG_at tsk_10) rfl e141 ?_
      refine ir_l (pc' := 77) rfl rfl rfl rfl rfl rfl ?_
      refine ir_getI (pc' := 80) rfl rfl rfl (gG_at a1k) rfl (by decide) (by decide) e140 (by omega) (by omega) ?_
      refine ir_cVV (pc' := 83) rfl rfl rfl rfl rfl (Nat.le_of_ble_eq_true rfl) oo_X3_setValue (gG_at tsk_10) (sf_setValue3 L ys d s138 hT138 b145 b145k a2 a2k b120 b120k (z118) (by omega) (by omega) ) (fun s147 hr => ?_)
      obtain ⟨hT147, hG147⟩ := hr
      have hF147 := fr_trans hF138 hG147 (by decide)
      have e148 : s147.1 a1 1 = z116 := (hG147.1 _ _ a1k 1 (by decide)).trans e139
      have e149 : s147.1 a1 7 = z118 := (hG147.1 _ _ a1k 7 (by decide)).trans e140
      have e150 : s147.1 83 7 = ((b120 : Nat) : Int) := (hG147.1 _ _ tsk_10 7 (by decide)).trans e141
      have e151 : s147.1 a1 6 = ((b121 : Nat) : Int) := (hG147.1 _ _ a1k 6 (by decide)).trans e142
      have e152 : s147.1 83 5 = ((b128 : Nat) : Int) := (hG147.1 _ _ tsk_10 5 (by decide)).trans e143
      have e153 : s147.1 83 13 = ((b136 : Nat) : Int) := (hG147.1 _ _ tsk_10 13 (by decide)).trans e144
      have e154 : s147.1 83 14 = ((b145 : Nat) : Int) := (hG147.1 _ _ tsk_10 14 (by decide)).trans b145e
      refine ir_k (pc' := 84) (v := (0, 0)) rfl rfl rfl (fun _ => rfl) ?_
      refine ir_s (pc' := 86) rfl rfl rfl rfl rfl rfl ?_
      refine ir_w [(0, (2, ((83 : Nat) : Int))), (1, (2, ((a1 : Nat) : Int))), (2, (2, ((a2 : Nat) : Int))), (4, (0, z114)), (5, (0, 0))] ⟨rfl, rfl, rfl, rfl, rfl, trivial⟩ ?_
      exact J86 _ (z114) (by omega) (by omega) (0) (by omega) (by omega) s147 hT147 hF147 b128 b128k e152 b120 b120k e150 b121 b121k e151 (Int.self_le_toNat _)
    · refine ir_w [] trivial ?_
      exact J25 s0 hT0 hF0 (z116) (by omega) (by omega) z116e
