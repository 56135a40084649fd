/-! WALKS OF THE CLASS'S METHODS, by program -/
theorem sf_load9 (L : Nat) (ys : Nat → Int32) (d : Nat) (s0 : im_S) (hT0 : tI s0)  : icI gG rm_P L ys 0 (d + 86) 220 [(2, ((0 : Nat) : Int))] s0 (fun z s => tI s ∧ fr [(0, 0), (0, 1), (0, 2), (0, 3), (1, 4), (1, 7), (1, 8), (1, 9), (1, 10), (2, 1), (2, 2), (2, 3), (2, 4), (2, 5), (2, 11), (2, 13), (4, 0), (10, 3), (10, 13), (10, 14), (10, 15), (10, 16), (11, 2), (14, 3), (14, 4), (15, 4), (15, 5), (16, 1), (16, 2), (19, 1), (19, 2), (23, 0), (23, 1), (23, 2), (23, 3), (23, 4), (23, 5), (23, 7), (23, 8), (23, 9), (25, 1), (25, 2)] s0 s ∧ 0 ≤ z ∧ z ≤ 3 ∧ s.1 0 0 = 0) := by
  refine ic_startM (M := rm_p_X9_load) om_X9_load (Nat.le_of_ble_eq_true rfl) ?_
  refine ir_w [(0, (2, ((0 : Nat) : Int)))] ⟨rfl, trivial⟩ ?_
  have hF0 := fr_refl [(0, 0), (0, 1), (0, 2), (0, 3), (1, 4), (1, 7), (1, 8), (1, 9), (1, 10), (2, 1), (2, 2), (2, 3), (2, 4), (2, 5), (2, 11), (2, 13), (4, 0), (10, 3), (10, 13), (10, 14), (10, 15), (10, 16), (11, 2), (14, 3), (14, 4), (15, 4), (15, 5), (16, 1), (16, 2), (19, 1), (19, 2), (23, 0), (23, 1), (23, 2), (23, 3), (23, 4), (23, 5), (23, 7), (23, 8), (23, 9), (25, 1), (25, 2)] s0
  have J164 : ∀ n : Nat, ∀ (q164_l3 : Int) (q164_l3l : 0 ≤ q164_l3) (q164_l3h : q164_l3 ≤ 80) (s_164 : im_S) (hT_164 : tI s_164) (hF_164 : fr [(0, 0), (0, 1), (0, 2), (0, 3), (1, 4), (1, 7), (1, 8), (1, 9), (1, 10), (2, 1), (2, 2), (2, 3), (2, 4), (2, 5), (2, 11), (2, 13), (4, 0), (10, 3), (10, 13), (10, 14), (10, 15), (10, 16), (11, 2), (14, 3), (14, 4), (15, 4), (15, 5), (16, 1), (16, 2), (19, 1), (19, 2), (23, 0), (23, 1), (23, 2), (23, 3), (23, 4), (23, 5), (23, 7), (23, 8), (23, 9), (25, 1), (25, 2)] s0 s_164) (w164_0_0 : Int) (w164_0_0l : 0 ≤ w164_0_0) (w164_0_0h : w164_0_0 ≤ 0) (w164_0_0e : s_164.1 0 0 = w164_0_0) (w164_0_1 : Int) (w164_0_1l : 0 ≤ w164_0_1) (w164_0_1h : w164_0_1 ≤ 3) (w164_0_1e : s_164.1 0 1 = w164_0_1) (w164_0_2 : Int) (w164_0_2l : -2 ≤ w164_0_2) (w164_0_2h : w164_0_2 ≤ 400) (w164_0_2e : s_164.1 0 2 = w164_0_2) (w164_0_3 : Int) (w164_0_3l : 1 ≤ w164_0_3) (w164_0_3h : w164_0_3 ≤ 1) (w164_0_3e : s_164.1 0 3 = w164_0_3) (w164_0_4e : s_164.1 0 4 = ((1 : Nat) : Int)) (w164_0_5e : s_164.1 0 5 = ((2 : Nat) : Int)) (w164_0_6e : s_164.1 0 6 = ((83 : Nat) : Int)) (w164_0_7e : s_164.1 0 7 = ((84 : Nat) : Int)) (w164_2_11 : Int) (w164_2_11l : 0 ≤ w164_2_11) (w164_2_11h : w164_2_11 ≤ 10) (w164_2_11e : s_164.1 2 11 = w164_2_11) (i164_0 : w164_0_0 = 0), (80 + 1 - q164_l3) ≤ (n : Int) → ir gG rm_P L ys (d + 85) rm_p_X9_load (164, [(0, (2, ((0 : Nat) : Int))), (3, (0, q164_l3))], [], s_164) (fun r : im_Re => ∃ z, r.1 = some (0, z) ∧ (tI r.2 ∧ fr [(0, 0), (0, 1), (0, 2), (0, 3), (1, 4), (1, 7), (1, 8), (1, 9), (1, 10), (2, 1), (2, 2), (2, 3), (2, 4), (2, 5), (2, 11), (2, 13), (4, 0), (10, 3), (10, 13), (10, 14), (10, 15), (10, 16), (11, 2), (14, 3), (14, 4), (15, 4), (15, 5), (16, 1), (16, 2), (19, 1), (19, 2), (23, 0), (23, 1), (23, 2), (23, 3), (23, 4), (23, 5), (23, 7), (23, 8), (23, 9), (25, 1), (25, 2)] s0 r.2 ∧ 0 ≤ z ∧ z ≤ 3 ∧ r.2.1 0 0 = 0)) := by
    intro n
    induction n with
    | zero => intro q164_l3 q164_l3l q164_l3h s_164 hT_164 hF_164 w164_0_0 w164_0_0l w164_0_0h w164_0_0e w164_0_1 w164_0_1l w164_0_1h w164_0_1e w164_0_2 w164_0_2l w164_0_2h w164_0_2e w164_0_3 w164_0_3l w164_0_3h w164_0_3e w164_0_4e w164_0_5e w164_0_6e w164_0_7e w164_2_11 w164_2_11l w164_2_11h w164_2_11e i164_0 hr; exfalso; omega
    | succ n ih164 =>
      intro q164_l3 q164_l3l q164_l3h s_164 hT_164 hF_164 w164_0_0 w164_0_0l w164_0_0h w164_0_0e w164_0_1 w164_0_1l w164_0_1h w164_0_1e w164_0_2 w164_0_2l w164_0_2h w164_0_2e w164_0_3 w164_0_3l w164_0_3h w164_0_3e w164_0_4e w164_0_5e w164_0_6e w164_0_7e w164_2_11 w164_2_11l w164_2_11h w164_2_11e i164_0 hr
      refine ir_l (pc' := 165) rfl rfl rfl rfl rfl rfl ?_
      refine ir_l (pc' := 166) rfl rfl rfl rfl rfl rfl ?_
      refine ir_getR (pc' := 169) rfl rfl rfl (gG_at tsk_0) rfl w164_0_6e ?_
      refine ir_tgi (pc' := 172) rfl rfl rfl tf_10_3 tsk_10 hT_164 (fun z1 z1e z1l z1h => ?_)
      refine ir_c_ge (pt := 189) (pc' := 175) rfl rfl rfl (fun c2 => ?_) (fun c2 => ?_)
      · refine ir_l (pc' := 190) rfl rfl rfl rfl rfl rfl ?_
        refine ir_getR (pc' := 193) rfl rfl rfl (gG_at tsk_0) rfl w164_0_4e ?_
        refine ir_cVV (pc' := 196) rfl rfl rfl rfl rfl (Nat.le_of_ble_eq_true rfl) oo_X4_fillCells (gG_at tsk_1) (sf_fillCells4 L ys (d + 81) s_164 hT_164  ) (fun s4 hr => ?_)
        obtain ⟨hT4, hG4⟩ := hr
        have hF4 := fr_trans hF_164 hG4 (by decide)
        have e5 : s4.1 0 0 = w164_0_0 := (hG4.1 _ _ tsk_0 0 (by decide)).trans w164_0_0e
        have e6 : s4.1 0 5 = ((2 : Nat) : Int) := (hG4.1 _ _ tsk_0 5 (by decide)).trans w164_0_5e
        have e7 : s4.1 0 1 = w164_0_1 := (hG4.1 _ _ tsk_0 1 (by decide)).trans w164_0_1e
        have e8 : s4.1 0 2 = w164_0_2 := (hG4.1 _ _ tsk_0 2 (by decide)).trans w164_0_2e
        have e9 : s4.1 0 3 = w164_0_3 := (hG4.1 _ _ tsk_0 3 (by decide)).trans w164_0_3e
        have e10 : s4.1 0 7 = ((84 : Nat) : Int) := (hG4.1 _ _ tsk_0 7 (by decide)).trans w164_0_7e
        have e11 : s4.1 2 11 = w164_2_11 := (hG4.1 _ _ tsk_2 11 (by decide)).trans w164_2_11e
        have e12 : s4.1 0 6 = ((83 : Nat) : Int) := (hG4.1 _ _ tsk_0 6 (by decide)).trans w164_0_6e
        have e13 : s4.1 0 4 = ((1 : Nat) : Int) := (hG4.1 _ _ tsk_0 4 (by decide)).trans w164_0_4e
        have e14 : s4.1 83 3 = z1 := (hG4.1 _ _ tsk_10 3 (by decide)).trans z1e
        refine ir_l (pc' := 197) rfl rfl rfl rfl rfl rfl ?_
        refine ir_getI (pc' := 200) rfl rfl rfl (gG_at tsk_0) rfl (by decide) (by decide) e7 (by omega) (by omega) ?_
        exact ir_iret rfl rfl ⟨_, rfl, hT4, hF4, by omega, by omega, (by first | omega | (dsimp only; omega))⟩
      · refine ir_l (pc' := 176) rfl rfl rfl rfl rfl rfl ?_
        refine ir_getR (pc' := 179) rfl rfl rfl (gG_at tsk_0) rfl w164_0_4e ?_
        refine ir_l (pc' := 180) rfl rfl rfl rfl rfl rfl ?_
        refine ir_cVV (pc' := 183) rfl rfl rfl rfl rfl (Nat.le_of_ble_eq_true rfl) oo_X4_insert (gG_at tsk_1) (sf_insert4 L ys (d + 78) s_164 hT_164 (q164_l3) (by omega) (by omega) ) (fun s16 hr => ?_)
        obtain ⟨hT16, hG16⟩ := hr
        have hF16 := fr_trans hF_164 hG16 (by decide)
        have e17 : s16.1 0 0 = w164_0_0 := (hG16.1 _ _ tsk_0 0 (by decide)).trans w164_0_0e
        have e18 : s16.1 0 5 = ((2 : Nat) : Int) := (hG16.1 _ _ tsk_0 5 (by decide)).trans w164_0_5e
        have e19 : s16.1 0 1 = w164_0_1 := (hG16.1 _ _ tsk_0 1 (by decide)).trans w164_0_1e
        have e20 : s16.1 0 2 = w164_0_2 := (hG16.1 _ _ tsk_0 2 (by decide)).trans w164_0_2e
        have e21 : s16.1 0 3 = w164_0_3 := (hG16.1 _ _ tsk_0 3 (by decide)).trans w164_0_3e
        have e22 : s16.1 0 7 = ((84 : Nat) : Int) := (hG16.1 _ _ tsk_0 7 (by decide)).trans w164_0_7e
        have e23 : s16.1 2 11 = w164_2_11 := (hG16.1 _ _ tsk_2 11 (by decide)).trans w164_2_11e
        have e24 : s16.1 0 6 = ((83 : Nat) : Int) := (hG16.1 _ _ tsk_0 6 (by decide)).trans w164_0_6e
        have e25 : s16.1 0 4 = ((1 : Nat) : Int) := (hG16.1 _ _ tsk_0 4 (by decide)).trans w164_0_4e
        have e26 : s16.1 83 3 = z1 := (hG16.1 _ _ tsk_10 3 (by decide)).trans z1e
        refine ir_inc (pc' := 186) rfl rfl rfl rfl rfl (by omega) (by omega) ?_
        refine ir_goto (pc' := 164) rfl rfl ?_
        refine ir_w [(0, (2, ((0 : Nat) : Int))), (3, (0, (q164_l3 + 1)))] ⟨rfl, rfl, trivial⟩ ?_
        exact ih164 ((q164_l3 + 1)) (by omega) (by omega) s16 hT16 hF16 (w164_0_0) (by omega) (by omega) e17 (w164_0_1) (by omega) (by omega) e19 (w164_0_2) (by omega) (by omega) e20 (w164_0_3) (by omega) (by omega) e21 e25 e18 e24 e22 (w164_2_11) (by omega) (by omega) e23 (by omega) (by omega)
  have J135 : ∀ n : Nat, ∀ (q135_l2 : Int) (q135_l2l : 0 ≤ q135_l2) (q135_l2h : q135_l2 ≤ 80) (q135_l3 : Int) (q135_l3l : 0 ≤ q135_l3) (q135_l3h : q135_l3 ≤ 80) (s_135 : im_S) (hT_135 : tI s_135) (hF_135 : fr [(0, 0), (0, 1), (0, 2), (0, 3), (1, 4), (1, 7), (1, 8), (1, 9), (1, 10), (2, 1), (2, 2), (2, 3), (2, 4), (2, 5), (2, 11), (2, 13), (4, 0), (10, 3), (10, 13), (10, 14), (10, 15), (10, 16), (11, 2), (14, 3), (14, 4), (15, 4), (15, 5), (16, 1), (16, 2), (19, 1), (19, 2), (23, 0), (23, 1), (23, 2), (23, 3), (23, 4), (23, 5), (23, 7), (23, 8), (23, 9), (25, 1), (25, 2)] s0 s_135) (w135_0_0 : Int) (w135_0_0l : 0 ≤ w135_0_0) (w135_0_0h : w135_0_0 ≤ 0) (w135_0_0e : s_135.1 0 0 = w135_0_0) (w135_0_1 : Int) (w135_0_1l : 0 ≤ w135_0_1) (w135_0_1h : w135_0_1 ≤ 3) (w135_0_1e : s_135.1 0 1 = w135_0_1) (w135_0_2 : Int) (w135_0_2l : -2 ≤ w135_0_2) (w135_0_2h : w135_0_2 ≤ 400) (w135_0_2e : s_135.1 0 2 = w135_0_2) (w135_0_3 : Int) (w135_0_3l : 1 ≤ w135_0_3) (w135_0_3h : w135_0_3 ≤ 1) (w135_0_3e : s_135.1 0 3 = w135_0_3) (w135_0_5e : s_135.1 0 5 = ((2 : Nat) : Int)) (w135_0_6e : s_135.1 0 6 = ((83 : Nat) : Int)) (w135_0_7e : s_135.1 0 7 = ((84 : Nat) : Int)) (w135_2_11 : Int) (w135_2_11l : 0 ≤ w135_2_11) (w135_2_11h : w135_2_11 ≤ 10) (w135_2_11e : s_135.1 2 11 = w135_2_11) (i135_0 : w135_0_0 = 0), (80 + 1 - q135_l3) ≤ (n : Int) → ir gG rm_P L ys (d + 85) rm_p_X9_load (135, [(0, (2, ((0 : Nat) : Int))), (2, (0, q135_l2)), (3, (0, q135_l3))], [], s_135) (fun r : im_Re => ∃ z, r.1 = some (0, z) ∧ (tI r.2 ∧ fr [(0, 0), (0, 1), (0, 2), (0, 3), (1, 4), (1, 7), (1, 8), (1, 9), (1, 10), (2, 1), (2, 2), (2, 3), (2, 4), (2, 5), (2, 11), (2, 13), (4, 0), (10, 3), (10, 13), (10, 14), (10, 15), (10, 16), (11, 2), (14, 3), (14, 4), (15, 4), (15, 5), (16, 1), (16, 2), (19, 1), (19, 2), (23, 0), (23, 1), (23, 2), (23, 3), (23, 4), (23, 5), (23, 7), (23, 8), (23, 9), (25, 1), (25, 2)] s0 r.2 ∧ 0 ≤ z ∧ z ≤ 3 ∧ r.2.1 0 0 = 0)) := by
    intro n
    induction n with
    | zero => intro q135_l2 q135_l2l q135_l2h q135_l3 q135_l3l q135_l3h s_135 hT_135 hF_135 w135_0_0 w135_0_0l w135_0_0h w135_0_0e w135_0_1 w135_0_1l w135_0_1h w135_0_1e w135_0_2 w135_0_2l w135_0_2h w135_0_2e w135_0_3 w135_0_3l w135_0_3h w135_0_3e w135_0_5e w135_0_6e w135_0_7e w135_2_11 w135_2_11l w135_2_11h w135_2_11e i135_0 hr; exfalso; omega
    | succ n ih135 =>
      intro q135_l2 q135_l2l q135_l2h q135_l3 q135_l3l q135_l3h s_135 hT_135 hF_135 w135_0_0 w135_0_0l w135_0_0h w135_0_0e w135_0_1 w135_0_1l w135_0_1h w135_0_1e w135_0_2 w135_0_2l w135_0_2h w135_0_2e w135_0_3 w135_0_3l w135_0_3h w135_0_3e w135_0_5e w135_0_6e w135_0_7e w135_2_11 w135_2_11l w135_2_11h w135_2_11e i135_0 hr
      refine ir_l (pc' := 136) rfl rfl rfl rfl rfl rfl ?_
      refine ir_l (pc' := 137) rfl rfl rfl rfl rfl rfl ?_
      refine ir_c_ge (pt := 154) (pc' := 140) rfl rfl rfl (fun c27 => ?_) (fun c27 => ?_)
      · refine ir_l (pc' := 155) rfl rfl rfl rfl rfl rfl ?_
        refine ir_tgr (pc' := 158) rfl rfl rfl tf_0_4 tsk_0 hT_135 (fun b28 b28e b28k => ?_)
        obtain rfl := tsg_1 b28k
        refine ir_k (pc' := 159) (v := (0, 0)) rfl rfl rfl (fun _ => rfl) ?_
        refine ir_tpi (pc' := 162) rfl rfl rfl tf_1_4 rfl tsk_1 hT_135 rfl (by omega) (by omega) (fun s29 hT29 e29 g29 r29 => ?_)
        have hF29 := fr_put (k := 1) hF_135 (by decide) tsk_1 g29 r29
        have e30 : s29.1 0 0 = w135_0_0 := (g29 0 0 (fun z => absurd z.2 (by decide))).trans w135_0_0e
        have e31 : s29.1 0 5 = ((2 : Nat) : Int) := (g29 0 5 (fun z => absurd z.2 (by decide))).trans w135_0_5e
        have e32 : s29.1 0 1 = w135_0_1 := (g29 0 1 (fun z => absurd z.2 (by decide))).trans w135_0_1e
        have e33 : s29.1 0 2 = w135_0_2 := (g29 0 2 (fun z => absurd z.2 (by decide))).trans w135_0_2e
        have e34 : s29.1 0 3 = w135_0_3 := (g29 0 3 (fun z => absurd z.2 (by decide))).trans w135_0_3e
        have e35 : s29.1 0 7 = ((84 : Nat) : Int) := (g29 0 7 (fun z => absurd z.2 (by decide))).trans w135_0_7e
        have e36 : s29.1 2 11 = w135_2_11 := (g29 2 11 (fun z => absurd z.2 (by decide))).trans w135_2_11e
        have e37 : s29.1 0 6 = ((83 : Nat) : Int) := (g29 0 6 (fun z => absurd z.2 (by decide))).trans w135_0_6e
        have e38 : s29.1 0 4 = ((1 : Nat) : Int) := (g29 0 4 (fun z => absurd z.1 (by decide))).trans b28e
        refine ir_k (pc' := 163) (v := (0, 0)) rfl rfl rfl (fun _ => rfl) ?_
        refine ir_s (pc' := 164) rfl rfl rfl rfl rfl rfl ?_
        refine ir_w [(0, (2, ((0 : Nat) : Int))), (3, (0, 0))] ⟨rfl, rfl, trivial⟩ ?_
        exact J164 _ (0) (by omega) (by omega) s29 hT29 hF29 (w135_0_0) (by omega) (by omega) e30 (w135_0_1) (by omega) (by omega) e32 (w135_0_2) (by omega) (by omega) e33 (w135_0_3) (by omega) (by omega) e34 e38 e31 e37 e35 (w135_2_11) (by omega) (by omega) e36 (by omega) (Int.self_le_toNat _)
      · refine ir_l (pc' := 141) rfl rfl rfl rfl rfl rfl ?_
        refine ir_getR (pc' := 144) rfl rfl rfl (gG_at tsk_0) rfl w135_0_6e ?_
        refine ir_l (pc' := 145) rfl rfl rfl rfl rfl rfl ?_
        refine ir_cVV (pc' := 148) rfl rfl rfl rfl rfl (Nat.le_of_ble_eq_true rfl) oo_X3_solve (gG_at tsk_10) (sf_solve3 L ys (d + 78) s_135 hT_135 (q135_l3) (by omega) (by omega) ) (fun s40 hr => ?_)
        obtain ⟨hT40, hG40⟩ := hr
        have hF40 := fr_trans hF_135 hG40 (by decide)
        have e41 : s40.1 0 0 = w135_0_0 := (hG40.1 _ _ tsk_0 0 (by decide)).trans w135_0_0e
        have e42 : s40.1 0 5 = ((2 : Nat) : Int) := (hG40.1 _ _ tsk_0 5 (by decide)).trans w135_0_5e
        have e43 : s40.1 0 1 = w135_0_1 := (hG40.1 _ _ tsk_0 1 (by decide)).trans w135_0_1e
        have e44 : s40.1 0 2 = w135_0_2 := (hG40.1 _ _ tsk_0 2 (by decide)).trans w135_0_2e
        have e45 : s40.1 0 3 = w135_0_3 := (hG40.1 _ _ tsk_0 3 (by decide)).trans w135_0_3e
        have e46 : s40.1 0 7 = ((84 : Nat) : Int) := (hG40.1 _ _ tsk_0 7 (by decide)).trans w135_0_7e
        have e47 : s40.1 2 11 = w135_2_11 := (hG40.1 _ _ tsk_2 11 (by decide)).trans w135_2_11e
        have e48 : s40.1 0 6 = ((83 : Nat) : Int) := (hG40.1 _ _ tsk_0 6 (by decide)).trans w135_0_6e
        refine ir_inc (pc' := 151) rfl rfl rfl rfl rfl (by omega) (by omega) ?_
        refine ir_goto (pc' := 135) rfl rfl ?_
        refine ir_w [(0, (2, ((0 : Nat) : Int))), (2, (0, q135_l2)), (3, (0, (q135_l3 + 1)))] ⟨rfl, rfl, rfl, trivial⟩ ?_
        exact ih135 (q135_l2) (by omega) (by omega) ((q135_l3 + 1)) (by omega) (by omega) s40 hT40 hF40 (w135_0_0) (by omega) (by omega) e41 (w135_0_1) (by omega) (by omega) e43 (w135_0_2) (by omega) (by omega) e44 (w135_0_3) (by omega) (by omega) e45 e42 e48 e46 (w135_2_11) (by omega) (by omega) e47 (by omega) (by omega)
  have J83 : ∀ n : Nat, ∀ (q83_l2 : Int) (q83_l2l : 0 ≤ q83_l2) (q83_l2h : q83_l2 ≤ 10) (s_83 : im_S) (hT_83 : tI s_83) (hF_83 : fr [(0, 0), (0, 1), (0, 2), (0, 3), (1, 4), (1, 7), (1, 8), (1, 9), (1, 10), (2, 1), (2, 2), (2, 3), (2, 4), (2, 5), (2, 11), (2, 13), (4, 0), (10, 3), (10, 13), (10, 14), (10, 15), (10, 16), (11, 2), (14, 3), (14, 4), (15, 4), (15, 5), (16, 1), (16, 2), (19, 1), (19, 2), (23, 0), (23, 1), (23, 2), (23, 3), (23, 4), (23, 5), (23, 7), (23, 8), (23, 9), (25, 1), (25, 2)] s0 s_83) (w83_0_0 : Int) (w83_0_0l : 0 ≤ w83_0_0) (w83_0_0h : w83_0_0 ≤ 0) (w83_0_0e : s_83.1 0 0 = w83_0_0) (w83_0_1 : Int) (w83_0_1l : 0 ≤ w83_0_1) (w83_0_1h : w83_0_1 ≤ 3) (w83_0_1e : s_83.1 0 1 = w83_0_1) (w83_0_2 : Int) (w83_0_2l : -2 ≤ w83_0_2) (w83_0_2h : w83_0_2 ≤ 400) (w83_0_2e : s_83.1 0 2 = w83_0_2) (w83_0_3 : Int) (w83_0_3l : 1 ≤ w83_0_3) (w83_0_3h : w83_0_3 ≤ 1) (w83_0_3e : s_83.1 0 3 = w83_0_3) (w83_0_5e : s_83.1 0 5 = ((2 : Nat) : Int)) (w83_0_7e : s_83.1 0 7 = ((84 : Nat) : Int)) (i83_0 : w83_0_0 = 0), (10 + 1 - q83_l2) ≤ (n : Int) → ir gG rm_P L ys (d + 85) rm_p_X9_load (83, [(0, (2, ((0 : Nat) : Int))), (2, (0, q83_l2))], [], s_83) (fun r : im_Re => ∃ z, r.1 = some (0, z) ∧ (tI r.2 ∧ fr [(0, 0), (0, 1), (0, 2), (0, 3), (1, 4), (1, 7), (1, 8), (1, 9), (1, 10), (2, 1), (2, 2), (2, 3), (2, 4), (2, 5), (2, 11), (2, 13), (4, 0), (10, 3), (10, 13), (10, 14), (10, 15), (10, 16), (11, 2), (14, 3), (14, 4), (15, 4), (15, 5), (16, 1), (16, 2), (19, 1), (19, 2), (23, 0), (23, 1), (23, 2), (23, 3), (23, 4), (23, 5), (23, 7), (23, 8), (23, 9), (25, 1), (25, 2)] s0 r.2 ∧ 0 ≤ z ∧ z ≤ 3 ∧ r.2.1 0 0 = 0)) := by
    intro n
    induction n with
    | zero => intro q83_l2 q83_l2l q83_l2h s_83 hT_83 hF_83 w83_0_0 w83_0_0l w83_0_0h w83_0_0e w83_0_1 w83_0_1l w83_0_1h w83_0_1e w83_0_2 w83_0_2l w83_0_2h w83_0_2e w83_0_3 w83_0_3l w83_0_3h w83_0_3e w83_0_5e w83_0_7e i83_0 hr; exfalso; omega
    | succ n ih83 =>
      intro q83_l2 q83_l2l q83_l2h s_83 hT_83 hF_83 w83_0_0 w83_0_0l w83_0_0h w83_0_0e w83_0_1 w83_0_1l w83_0_1h w83_0_1e w83_0_2 w83_0_2l w83_0_2h w83_0_2e w83_0_3 w83_0_3l w83_0_3h w83_0_3e w83_0_5e w83_0_7e i83_0 hr
      refine ir_l (pc' := 84) rfl rfl rfl rfl rfl rfl ?_
      refine ir_l (pc' := 85) rfl rfl rfl rfl rfl rfl ?_
      refine ir_getR (pc' := 88) rfl rfl rfl (gG_at tsk_0) rfl w83_0_5e ?_
      refine ir_tgi (pc' := 91) rfl rfl rfl tf_2_11 tsk_2 hT_83 (fun z49 z49e z49l z49h => ?_)
      refine ir_c_ge (pt := 117) (pc' := 94) rfl rfl rfl (fun c50 => ?_) (fun c50 => ?_)
      · refine ir_l (pc' := 118) rfl rfl rfl rfl rfl rfl ?_
        refine ir_tgr (pc' := 121) rfl rfl rfl tf_0_6 tsk_0 hT_83 (fun b51 b51e b51k => ?_)
        obtain rfl := tsg_10 b51k
        refine ir_k (pc' := 122) (v := (0, 0)) rfl rfl rfl (fun _ => rfl) ?_
        refine ir_tpi (pc' := 125) rfl rfl rfl tf_10_3 rfl tsk_10 hT_83 rfl (by omega) (by omega) (fun s52 hT52 e52 g52 r52 => ?_)
        have hF52 := fr_put (k := 10) hF_83 (by decide) tsk_10 g52 r52
        have e53 : s52.1 0 0 = w83_0_0 := (g52 0 0 (fun z => absurd z.2 (by decide))).trans w83_0_0e
        have e54 : s52.1 0 5 = ((2 : Nat) : Int) := (g52 0 5 (fun z => absurd z.2 (by decide))).trans w83_0_5e
        have e55 : s52.1 0 1 = w83_0_1 := (g52 0 1 (fun z => absurd z.2 (by decide))).trans w83_0_1e
        have e56 : s52.1 0 2 = w83_0_2 := (g52 0 2 (fun z => absurd z.2 (by decide))).trans w83_0_2e
        have e57 : s52.1 0 3 = w83_0_3 := (g52 0 3 (fun z => absurd z.1 (by decide))).trans w83_0_3e
        have e58 : s52.1 0 7 = ((84 : Nat) : Int) := (g52 0 7 (fun z => absurd z.2 (by decide))).trans w83_0_7e
        have e59 : s52.1 2 11 = z49 := (g52 2 11 (fun z => absurd z.2 (by decide))).trans z49e
        have e60 : s52.1 0 6 = ((83 : Nat) : Int) := (g52 0 6 (fun z => absurd z.2 (by decide))).trans b51e
        refine ir_l (pc' := 126) rfl rfl rfl rfl rfl rfl ?_
        refine ir_getR (pc' := 129) rfl rfl rfl (gG_at tsk_0) rfl e58 ?_
        refine ir_tgi (pc' := 132) rfl rfl rfl tf_11_2 tsk_11 hT52 (fun z61 z61e z61l z61h => ?_)
        refine ir_s (pc' := 133) rfl rfl rfl rfl rfl rfl ?_
        refine ir_k (pc' := 134) (v := (0, 0)) rfl rfl rfl (fun _ => rfl) ?_
        refine ir_s (pc' := 135) rfl rfl rfl rfl rfl rfl ?_
        refine ir_w [(0, (2, ((0 : Nat) : Int))), (2, (0, z61)), (3, (0, 0))] ⟨rfl, rfl, rfl, trivial⟩ ?_
        exact J135 _ (z61) (by omega) (by omega) (0) (by omega) (by omega) s52 hT52 hF52 (w83_0_0) (by omega) (by omega) e53 (w83_0_1) (by omega) (by omega) e55 (w83_0_2) (by omega) (by omega) e56 (w83_0_3) (by omega) (by omega) e57 e54 e60 e58 (z49) (by omega) (by omega) e59 (by omega) (Int.self_le_toNat _)
      · refine ir_l (pc' := 95) rfl rfl rfl rfl rfl rfl ?_
        refine ir_getR (pc' := 98) rfl rfl rfl (gG_at tsk_0) rfl w83_0_7e ?_
        refine ir_l (pc' := 99) rfl rfl rfl rfl rfl rfl ?_
        refine ir_getR (pc' := 102) rfl rfl rfl (gG_at tsk_0) rfl w83_0_5e ?_
        refine ir_tgr (pc' := 105) rfl rfl rfl tf_2_9 tsk_2 hT_83 (fun b62 b62e b62k => ?_)
        obtain rfl := tsg_7 b62k
        refine ir_l (pc' := 106) rfl rfl rfl rfl rfl rfl ?_
        refine ir_taa (pc' := 107) (k2 := 4) rfl rfl te_7 (by decide) tsk_7 hT_83 (by omega) (by omega) (fun b63 b63k => ?_)
        refine ir_l (pc' := 108) rfl rfl rfl rfl rfl rfl ?_
        refine ir_cVV (pc' := 111) rfl rfl rfl rfl rfl (Nat.le_of_ble_eq_true rfl) oo_X0_addAtom (gG_at tsk_11) (sf_addAtom0 L ys (d + 78) s_83 hT_83 b63 b63k (q83_l2) (by omega) (by omega) ) (fun s65 hr => ?_)
        obtain ⟨hT65, hG65⟩ := hr
        have hF65 := fr_trans hF_83 hG65 (by decide)
        have e66 : s65.1 0 0 = w83_0_0 := (hG65.1 _ _ tsk_0 0 (by decide)).trans w83_0_0e
        have e67 : s65.1 0 5 = ((2 : Nat) : Int) := (hG65.1 _ _ tsk_0 5 (by decide)).trans w83_0_5e
        have e68 : s65.1 0 1 = w83_0_1 := (hG65.1 _ _ tsk_0 1 (by decide)).trans w83_0_1e
        have e69 : s65.1 0 2 = w83_0_2 := (hG65.1 _ _ tsk_0 2 (by decide)).trans w83_0_2e
        have e70 : s65.1 0 3 = w83_0_3 := (hG65.1 _ _ tsk_0 3 (by decide)).trans w83_0_3e
        have e71 : s65.1 0 7 = ((84 : Nat) : Int) := (hG65.1 _ _ tsk_0 7 (by decide)).trans w83_0_7e
        have e72 : s65.1 2 11 = z49 := (hG65.1 _ _ tsk_2 11 (by decide)).trans z49e
        have e73 : s65.1 2 9 = ((60 : Nat) : Int) := (hG65.1 _ _ tsk_2 9 (by decide)).trans b62e
        refine ir_inc (pc' := 114) rfl rfl rfl rfl rfl (by omega) (by omega) ?_
        refine ir_goto (pc' := 83) rfl rfl ?_
        refine ir_w [(0, (2, ((0 : Nat) : Int))), (2, (0, (q83_l2 + 1)))] ⟨rfl, rfl, trivial⟩ ?_
        exact ih83 ((q83_l2 + 1)) (by omega) (by omega) s65 hT65 hF65 (w83_0_0) (by omega) (by omega) e66 (w83_0_1) (by omega) (by omega) e68 (w83_0_2) (by omega) (by omega) e69 (w83_0_3) (by omega) (by omega) e70 e67 e71 (by omega) (by omega)
  have J58 : ∀ (q58_s1 : Int) (q58_s1l : 0 ≤ q58_s1) (q58_s1h : q58_s1 ≤ 1) (s_58 : im_S) (hT_58 : tI s_58) (hF_58 : fr [(0, 0), (0, 1), (0, 2), (0, 3), (1, 4), (1, 7), (1, 8), (1, 9), (1, 10), (2, 1), (2, 2), (2, 3), (2, 4), (2, 5), (2, 11), (2, 13), (4, 0), (10, 3), (10, 13), (10, 14), (10, 15), (10, 16), (11, 2), (14, 3), (14, 4), (15, 4), (15, 5), (16, 1), (16, 2), (19, 1), (19, 2), (23, 0), (23, 1), (23, 2), (23, 3), (23, 4), (23, 5), (23, 7), (23, 8), (23, 9), (25, 1), (25, 2)] s0 s_58) (w58_0_0 : Int) (w58_0_0l : 0 ≤ w58_0_0) (w58_0_0h : w58_0_0 ≤ 0) (w58_0_0e : s_58.1 0 0 = w58_0_0) (w58_0_1 : Int) (w58_0_1l : 0 ≤ w58_0_1) (w58_0_1h : w58_0_1 ≤ 3) (w58_0_1e : s_58.1 0 1 = w58_0_1) (w58_0_2 : Int) (w58_0_2l : -2 ≤ w58_0_2) (w58_0_2h : w58_0_2 ≤ 400) (w58_0_2e : s_58.1 0 2 = w58_0_2) (w58_0_5e : s_58.1 0 5 = ((2 : Nat) : Int)) (i58_0 : w58_0_0 = 0), ir gG rm_P L ys (d + 85) rm_p_X9_load (58, [(0, (2, ((0 : Nat) : Int)))], [(0, q58_s1), (2, ((0 : Nat) : Int))], s_58) (fun r : im_Re => ∃ z, r.1 = some (0, z) ∧ (tI r.2 ∧ fr [(0, 0), (0, 1), (0, 2), (0, 3), (1, 4), (1, 7), (1, 8), (1, 9), (1, 10), (2, 1), (2, 2), (2, 3), (2, 4), (2, 5), (2, 11), (2, 13), (4, 0), (10, 3), (10, 13), (10, 14), (10, 15), (10, 16), (11, 2), (14, 3), (14, 4), (15, 4), (15, 5), (16, 1), (16, 2), (19, 1), (19, 2), (23, 0), (23, 1), (23, 2), (23, 3), (23, 4), (23, 5), (23, 7), (23, 8), (23, 9), (25, 1), (25, 2)] s0 r.2 ∧ 0 ≤ z ∧ z ≤ 3 ∧ r.2.1 0 0 = 0)) := by
    intro q58_s1 q58_s1l q58_s1h s_58 hT_58 hF_58 w58_0_0 w58_0_0l w58_0_0h w58_0_0e w58_0_1 w58_0_1l w58_0_1h w58_0_1e w58_0_2 w58_0_2l w58_0_2h w58_0_2e w58_0_5e i58_0
    refine ir_tpi (pc' := 61) rfl rfl rfl tf_0_3 rfl tsk_0 hT_58 (by first | rfl | exact im_fitZ rfl (by omega)) (by omega) (by omega) (fun s74 hT74 e74 g74 r74 => ?_)
    have hF74 := fr_put (k := 0) hF_58 (by decide) tsk_0 g74 r74
    have e75 : s74.1 0 0 = w58_0_0 := (g74 0 0 (fun z => absurd z.2 (by decide))).trans w58_0_0e
    have e76 : s74.1 0 5 = ((2 : Nat) : Int) := (g74 0 5 (fun z => absurd z.2 (by decide))).trans w58_0_5e
    have e77 : s74.1 0 1 = w58_0_1 := (g74 0 1 (fun z => absurd z.2 (by decide))).trans w58_0_1e
    have e78 : s74.1 0 2 = w58_0_2 := (g74 0 2 (fun z => absurd z.2 (by decide))).trans w58_0_2e
    refine ir_l (pc' := 62) rfl rfl rfl rfl rfl rfl ?_
    refine ir_getI (pc' := 65) rfl rfl rfl (gG_at tsk_0) rfl (by decide) (by decide) e74 (by omega) (by omega) ?_
    refine ir_z_ne (pt := 73) (pc' := 68) rfl rfl rfl (fun c79 => ?_) (fun c79 => ?_)
    · refine ir_l (pc' := 74) rfl rfl rfl rfl rfl rfl ?_
      refine ir_tgr (pc' := 77) rfl rfl rfl tf_0_7 tsk_0 hT74 (fun b80 b80e b80k => ?_)
      obtain rfl := tsg_11 b80k
      refine ir_k (pc' := 78) (v := (0, 0)) rfl rfl rfl (fun _ => rfl) ?_
      refine ir_tpi (pc' := 81) rfl rfl rfl tf_11_2 rfl tsk_11 hT74 rfl (by omega) (by omega) (fun s81 hT81 e81 g81 r81 => ?_)
      have hF81 := fr_put (k := 11) hF74 (by decide) tsk_11 g81 r81
      have e82 : s81.1 0 0 = w58_0_0 := (g81 0 0 (fun z => absurd z.2 (by decide))).trans e75
      have e83 : s81.1 0 5 = ((2 : Nat) : Int) := (g81 0 5 (fun z => absurd z.2 (by decide))).trans e76
      have e84 : s81.1 0 1 = w58_0_1 := (g81 0 1 (fun z => absurd z.2 (by decide))).trans e77
      have e85 : s81.1 0 2 = w58_0_2 := (g81 0 2 (fun z => absurd z.1 (by decide))).trans e78
      have e86 : s81.1 0 3 = q58_s1 := (g81 0 3 (fun z => absurd z.2 (by decide))).trans e74
      have e87 : s81.1 0 7 = ((84 : Nat) : Int) := (g81 0 7 (fun z => absurd z.2 (by decide))).trans b80e
      refine ir_k (pc' := 82) (v := (0, 0)) rfl rfl rfl (fun _ => rfl) ?_
      refine ir_s (pc' := 83) rfl rfl rfl rfl rfl rfl ?_
      refine ir_w [(0, (2, ((0 : Nat) : Int))), (2, (0, 0))] ⟨rfl, rfl, trivial⟩ ?_
      exact J83 _ (0) (by omega) (by omega) s81 hT81 hF81 (w58_0_0) (by omega) (by omega) e82 (w58_0_1) (by omega) (by omega) e84 (w58_0_2) (by omega) (by omega) e85 (q58_s1) (by omega) (by omega) e86 e83 e87 (by omega) (Int.self_le_toNat _)
    · refine ir_l (pc' := 69) rfl rfl rfl rfl rfl rfl ?_
      refine ir_getI (pc' := 72) rfl rfl rfl (gG_at tsk_0) rfl (by decide) (by decide) e77 (by omega) (by omega) ?_
      exact ir_iret rfl rfl ⟨_, rfl, hT74, hF74, by omega, by omega, (by first | omega | (dsimp only; omega))⟩
  have J42 : ∀ (q42_s1 : Int) (q42_s1l : -2 ≤ q42_s1) (q42_s1h : q42_s1 ≤ 400) (s_42 : im_S) (hT_42 : tI s_42) (hF_42 : fr [(0, 0), (0, 1), (0, 2), (0, 3), (1, 4), (1, 7), (1, 8), (1, 9), (1, 10), (2, 1), (2, 2), (2, 3), (2, 4), (2, 5), (2, 11), (2, 13), (4, 0), (10, 3), (10, 13), (10, 14), (10, 15), (10, 16), (11, 2), (14, 3), (14, 4), (15, 4), (15, 5), (16, 1), (16, 2), (19, 1), (19, 2), (23, 0), (23, 1), (23, 2), (23, 3), (23, 4), (23, 5), (23, 7), (23, 8), (23, 9), (25, 1), (25, 2)] s0 s_42) (w42_0_0 : Int) (w42_0_0l : 0 ≤ w42_0_0) (w42_0_0h : w42_0_0 ≤ 0) (w42_0_0e : s_42.1 0 0 = w42_0_0) (w42_0_1 : Int) (w42_0_1l : 0 ≤ w42_0_1) (w42_0_1h : w42_0_1 ≤ 3) (w42_0_1e : s_42.1 0 1 = w42_0_1) (w42_0_5e : s_42.1 0 5 = ((2 : Nat) : Int)) (i42_0 : w42_0_0 = 0), ir gG rm_P L ys (d + 85) rm_p_X9_load (42, [(0, (2, ((0 : Nat) : Int)))], [(0, q42_s1), (2, ((0 : Nat) : Int))], s_42) (fun r : im_Re => ∃ z, r.1 = some (0, z) ∧ (tI r.2 ∧ fr [(0, 0), (0, 1), (0, 2), (0, 3), (1, 4), (1, 7), (1, 8), (1, 9), (1, 10), (2, 1), (2, 2), (2, 3), (2, 4), (2, 5), (2, 11), (2, 13), (4, 0), (10, 3), (10, 13), (10, 14), (10, 15), (10, 16), (11, 2), (14, 3), (14, 4), (15, 4), (15, 5), (16, 1), (16, 2), (19, 1), (19, 2), (23, 0), (23, 1), (23, 2), (23, 3), (23, 4), (23, 5), (23, 7), (23, 8), (23, 9), (25, 1), (25, 2)] s0 r.2 ∧ 0 ≤ z ∧ z ≤ 3 ∧ r.2.1 0 0 = 0)) := by
    intro q42_s1 q42_s1l q42_s1h s_42 hT_42 hF_42 w42_0_0 w42_0_0l w42_0_0h w42_0_0e w42_0_1 w42_0_1l w42_0_1h w42_0_1e w42_0_5e i42_0
    refine ir_tpi (pc' := 45) rfl rfl rfl tf_0_2 rfl tsk_0 hT_42 rfl (by omega) (by omega) (fun s88 hT88 e88 g88 r88 => ?_)
    have hF88 := fr_put (k := 0) hF_42 (by decide) tsk_0 g88 r88
    have e89 : s88.1 0 0 = w42_0_0 := (g88 0 0 (fun z => absurd z.2 (by decide))).trans w42_0_0e
    have e90 : s88.1 0 5 = ((2 : Nat) : Int) := (g88 0 5 (fun z => absurd z.2 (by decide))).trans w42_0_5e
    have e91 : s88.1 0 1 = w42_0_1 := (g88 0 1 (fun z => absurd z.2 (by decide))).trans w42_0_1e
    refine ir_l (pc' := 46) rfl rfl rfl rfl rfl rfl ?_
    refine ir_l (pc' := 47) rfl rfl rfl rfl rfl rfl ?_
    refine ir_getI (pc' := 50) rfl rfl rfl (gG_at tsk_0) rfl (by decide) (by decide) e91 (by omega) (by omega) ?_
    refine ir_z_ne (pt := 57) (pc' := 53) rfl rfl rfl (fun c92 => ?_) (fun c92 => ?_)
    · refine ir_k (pc' := 58) (v := (0, 0)) rfl rfl rfl (fun _ => rfl) ?_
      refine ir_w [(0, (2, ((0 : Nat) : Int)))] ⟨rfl, trivial⟩ ?_
      exact J58 (0) (by omega) (by omega) s88 hT88 hF88 (w42_0_0) (by omega) (by omega) e89 (w42_0_1) (by omega) (by omega) e91 (q42_s1) (by omega) (by omega) e88 e90 (by omega)
    · refine ir_k (pc' := 54) (v := (0, 1)) rfl rfl rfl (fun _ => rfl) ?_
      refine ir_goto (pc' := 58) rfl rfl ?_
      refine ir_w [(0, (2, ((0 : Nat) : Int)))] ⟨rfl, trivial⟩ ?_
      exact J58 (1) (by omega) (by omega) s88 hT88 hF88 (w42_0_0) (by omega) (by omega) e89 (w42_0_1) (by omega) (by omega) e91 (q42_s1) (by omega) (by omega) e88 e90 (by omega)
  obtain ⟨z93, z93e, z93l, z93h⟩ := tI_i tf_0_0 tsk_0 hT0
  refine ir_l (pc' := 1) rfl rfl rfl rfl rfl rfl ?_
  refine ir_getI (pc' := 4) rfl rfl rfl (gG_at tsk_0) rfl (by decide) (by decide) z93e (by omega) (by omega) ?_
  refine ir_s (pc' := 5) rfl rfl rfl rfl rfl rfl ?_
  refine ir_l (pc' := 6) rfl rfl rfl rfl rfl rfl ?_
  refine ir_k (pc' := 7) (v := (0, 0)) rfl rfl rfl (fun _ => rfl) ?_
  refine ir_tpi (pc' := 10) rfl rfl rfl tf_0_0 rfl tsk_0 hT0 rfl (by omega) (by omega) (fun s94 hT94 e94 g94 r94 => ?_)
  have hF94 := fr_put (k := 0) hF0 (by decide) tsk_0 g94 r94
  refine ir_l (pc' := 11) rfl rfl rfl rfl rfl rfl ?_
  refine ir_l (pc' := 12) rfl rfl rfl rfl rfl rfl ?_
  refine ir_tgr (pc' := 15) rfl rfl rfl tf_0_5 tsk_0 hT94 (fun b95 b95e b95k => ?_)
  obtain rfl := tsg_2 b95k
  refine ir_l (pc' := 16) rfl rfl rfl rfl rfl rfl ?_
  refine ir_cVI (pc' := 19) rfl rfl rfl rfl rfl (Nat.le_of_ble_eq_true rfl) oo_X7_read (gG_at tsk_2) (sf_read7 L ys d s94 hT94 (z93) (by omega) (by omega) ) (fun z96 s97 hr => ?_)
  obtain ⟨hT97, hG97, z96l, z96h⟩ := hr
  have hF97 := fr_trans hF94 hG97 (by decide)
  have e98 : s97.1 0 0 = 0 := (hG97.1 _ _ tsk_0 0 (by decide)).trans e94
  have e99 : s97.1 0 5 = ((2 : Nat) : Int) := (hG97.1 _ _ tsk_0 5 (by decide)).trans b95e
  refine ir_tpi (pc' := 22) rfl rfl rfl tf_0_1 rfl tsk_0 hT97 rfl (by omega) (by omega) (fun s100 hT100 e100 g100 r100 => ?_)
  have hF100 := fr_put (k := 0) hF97 (by decide) tsk_0 g100 r100
  have e101 : s100.1 0 0 = 0 := (g100 0 0 (fun z => absurd z.2 (by decide))).trans e98
  have e102 : s100.1 0 5 = ((2 : Nat) : Int) := (g100 0 5 (fun z => absurd z.2 (by decide))).trans e99
  refine ir_l (pc' := 23) rfl rfl rfl rfl rfl rfl ?_
  refine ir_l (pc' := 24) rfl rfl rfl rfl rfl rfl ?_
  refine ir_getI (pc' := 27) rfl rfl rfl (gG_at tsk_0) rfl (by decide) (by decide) e100 (by omega) (by omega) ?_
  refine ir_z_ne (pt := 35) (pc' := 30) rfl rfl rfl (fun c103 => ?_) (fun c103 => ?_)
  · refine ir_l (pc' := 36) rfl rfl rfl rfl rfl rfl ?_
    refine ir_getR (pc' := 39) rfl rfl rfl (gG_at tsk_0) rfl e102 ?_
    refine ir_tgi (pc' := 42) rfl rfl rfl tf_2_5 tsk_2 hT100 (fun z104 z104e z104l z104h => ?_)
    refine ir_w [(0, (2, ((0 : Nat) : Int)))] ⟨rfl, trivial⟩ ?_
    exact J42 (z104) (by omega) (by omega) s100 hT100 hF100 (0) (by omega) (by omega) e101 (z96) (by omega) (by omega) e100 e102 (by omega)
  · refine ir_k (pc' := 32) (v := (0, (-2))) rfl rfl rfl (fun _ => rfl) ?_
    refine ir_goto (pc' := 42) rfl rfl ?_
    refine ir_w [(0, (2, ((0 : Nat) : Int)))] ⟨rfl, trivial⟩ ?_
    exact J42 ((-2)) (by omega) (by omega) s100 hT100 hF100 (0) (by omega) (by omega) e101 (z96) (by omega) (by omega) e100 e102 (by omega)
theorem sf_root9 (L : Nat) (ys : Nat → Int32) (d : Nat) (s0 : im_S) (hT0 : tI s0) (x1 : Int) (x1l : -2147483648 ≤ x1) (x1h : x1 ≤ 2147483647) (x2 : Int) (x2l : -2147483648 ≤ x2) (x2h : x2 ≤ 2147483647) (pr0 : ∀ b : Nat, gK[b]? = some 23 → (s0.1 b 1 = 0 ∨ 1 ≤ s0.1 b 3)) : icI gG rm_P L ys 1 (d + 7) 221 [(2, ((0 : Nat) : Int)), (0, x1), (0, x2)] s0 (fun z s => tI s ∧ fr [(19, 1), (19, 2), (25, 1), (25, 2)] s0 s ∧ -9223372036854775808 ≤ z ∧ z ≤ 9223372036854775807) := by
  refine ic_startM (M := rm_p_X9_root) om_X9_root (Nat.le_of_ble_eq_true rfl) ?_
  refine ir_w [(0, (2, ((0 : Nat) : Int))), (1, (0, x1)), (2, (0, x2))] ⟨rfl, rfl, rfl, trivial⟩ ?_
  have hF0 := fr_refl [(19, 1), (19, 2), (25, 1), (25, 2)] s0
  have J27 : ∀ n : Nat, ∀ (q27_l3 : Int) (q27_l3l : -9223372036854775808 ≤ q27_l3) (q27_l3h : q27_l3 ≤ 9223372036854775807) (q27_l5 : Int) (q27_l5l : 0 ≤ q27_l5) (q27_l5h : q27_l5 ≤ 8) (f27_2l : 0 ≤ x2) (f27_2h : x2 ≤ 8) (s_27 : im_S) (hT_27 : tI s_27) (hF_27 : fr [(19, 1), (19, 2), (25, 1), (25, 2)] s0 s_27), (8 + 1 - q27_l5) ≤ (n : Int) → ir gG rm_P L ys (d + 6) rm_p_X9_root (27, [(0, (2, ((0 : Nat) : Int))), (1, (0, x1)), (2, (0, x2)), (3, (1, q27_l3)), (5, (0, q27_l5))], [], s_27) (fun r : im_Re => ∃ z, r.1 = some (1, z) ∧ (tI r.2 ∧ fr [(19, 1), (19, 2), (25, 1), (25, 2)] s0 r.2 ∧ -9223372036854775808 ≤ z ∧ z ≤ 9223372036854775807)) := by
    intro n
    induction n with
    | zero => intro q27_l3 q27_l3l q27_l3h q27_l5 q27_l5l q27_l5h f27_2l f27_2h s_27 hT_27 hF_27 hr; exfalso; omega
    | succ n ih27 =>
      intro q27_l3 q27_l3l q27_l3h q27_l5 q27_l5l q27_l5h f27_2l f27_2h s_27 hT_27 hF_27 hr
      refine ir_l (pc' := 29) rfl rfl rfl rfl rfl rfl ?_
      refine ir_l (pc' := 30) rfl rfl rfl rfl rfl rfl ?_
      refine ir_c_ge (pt := 45) (pc' := 33) rfl rfl rfl (fun c1 => ?_) (fun c1 => ?_)
      · refine ir_l (pc' := 46) rfl rfl rfl rfl rfl rfl ?_
        refine ir_tgr (pc' := 49) rfl rfl rfl tf_0_6 tsk_0 hT_27 (fun b2 b2e b2k => ?_)
        obtain rfl := tsg_10 b2k
        refine ir_l (pc' := 50) rfl rfl rfl rfl rfl rfl ?_
        refine ir_tgr (pc' := 53) rfl rfl rfl tf_0_4 tsk_0 hT_27 (fun b3 b3e b3k => ?_)
        obtain rfl := tsg_1 b3k
        refine ir_l (pc' := 54) rfl rfl rfl rfl rfl rfl ?_
        refine ir_cVR (pc' := 57) rfl rfl rfl rfl rfl (Nat.le_of_ble_eq_true rfl) oo_X4_rootAt (gG_at tsk_1) (sf_rootAt4 L ys (d + 4) s_27 hT_27 (x1) (by omega) (by omega) ) (fun b4 s5 hr => ?_)
        obtain ⟨hT5, hG5, b4k⟩ := hr
        have hF5 := fr_trans hF_27 hG5 (by decide)
        have e6 : s5.1 0 6 = ((83 : Nat) : Int) := (hG5.1 _ _ tsk_0 6 (by decide)).trans b2e
        have e7 : s5.1 0 4 = ((1 : Nat) : Int) := (hG5.1 _ _ tsk_0 4 (by decide)).trans b3e
        refine ir_l (pc' := 58) rfl rfl rfl rfl rfl rfl ?_
        refine ir_cVI (pc' := 61) rfl rfl rfl rfl rfl (Nat.le_of_ble_eq_true rfl) oo_X3_scaledFloor (gG_at tsk_10) (sf_scaledFloor3 L ys d s5 hT5 b4 b4k (q27_l3) (by omega) (by omega) (by have h1 := hF5.1 _ _ b4k 1 (by decide); have h3 := hF5.1 _ _ b4k 3 (by decide); have h := pr0 _ b4k; omega)) (fun z8 s9 hr => ?_)
        obtain ⟨hT9, hG9, z8l, z8h⟩ := hr
        have hF9 := fr_trans hF5 hG9 (by decide)
        have e10 : s9.1 0 6 = ((83 : Nat) : Int) := (hG9.1 _ _ tsk_0 6 (by decide)).trans e6
        have e11 : s9.1 0 4 = ((1 : Nat) : Int) := (hG9.1 _ _ tsk_0 4 (by decide)).trans e7
        exact ir_lret rfl rfl ⟨_, rfl, hT9, hF9, by omega, by omega⟩
      · refine ir_l (pc' := 34) rfl rfl rfl rfl rfl rfl ?_
        refine ir_k (pc' := 37) (v := (1, 10)) rfl rfl rfl (fun _ => rfl) ?_
        refine ir_jjA (pc' := 38) rfl rfl rfl rfl (fun z12 z12l z12h => ?_)
        refine ir_s2 (pc' := 39) rfl rfl rfl rfl rfl rfl ?_
        refine ir_inc (pc' := 42) rfl rfl rfl rfl rfl (by omega) (by omega) ?_
        refine ir_goto (pc' := 27) rfl rfl ?_
        refine ir_w [(0, (2, ((0 : Nat) : Int))), (1, (0, x1)), (2, (0, x2)), (3, (1, z12)), (5, (0, (q27_l5 + 1)))] ⟨rfl, rfl, rfl, rfl, rfl, trivial⟩ ?_
        exact ih27 (z12) (by omega) (by omega) ((q27_l5 + 1)) (by omega) (by omega) (by omega) (by omega) s_27 hT_27 hF_27 (by omega)
  have J18 : ∀ (s_18 : im_S) (hT_18 : tI s_18) (hF_18 : fr [(19, 1), (19, 2), (25, 1), (25, 2)] s0 s_18), ir gG rm_P L ys (d + 6) rm_p_X9_root (18, [], [], s_18) (fun r : im_Re => ∃ z, r.1 = some (1, z) ∧ (tI r.2 ∧ fr [(19, 1), (19, 2), (25, 1), (25, 2)] s0 r.2 ∧ -9223372036854775808 ≤ z ∧ z ≤ 9223372036854775807)) := by
    intro s_18 hT_18 hF_18
    refine ir_k (pc' := 21) (v := (1, (-9000000000000000000))) rfl rfl rfl (fun _ => rfl) ?_
    exact ir_lret rfl rfl ⟨_, rfl, hT_18, hF_18, by omega, by omega⟩
  refine ir_l (pc' := 1) rfl rfl rfl rfl rfl rfl ?_
  refine ir_l (pc' := 2) rfl rfl rfl rfl rfl rfl ?_
  refine ir_cVI (pc' := 5) rfl rfl rfl rfl rfl (Nat.le_of_ble_eq_true rfl) oo_X9_isRoot (gG_at tsk_0) (sf_isRoot9 L ys (d + 5) s0 hT0 (x1) (by omega) (by omega) ) (fun z13 s14 hr => ?_)
  obtain ⟨hT14, hG14, z13l, z13h⟩ := hr
  have hF14 := fr_trans hF0 hG14 (by decide)
  refine ir_z_eq (pt := 18) (pc' := 8) rfl rfl rfl (fun c15 => ?_) (fun c15 => ?_)
  · refine ir_w [] trivial ?_
    exact J18 s14 hT14 hF14
  · refine ir_l (pc' := 9) rfl rfl rfl rfl rfl rfl ?_
    refine ir_z_lt (pt := 18) (pc' := 12) rfl rfl rfl (fun c16 => ?_) (fun c16 => ?_)
    · refine ir_w [] trivial ?_
      exact J18 s14 hT14 hF14
    · refine ir_l (pc' := 13) rfl rfl rfl rfl rfl rfl ?_
      refine ir_k (pc' := 15) (v := (0, 8)) rfl rfl rfl (fun _ => rfl) ?_
      refine ir_c_le (pt := 22) (pc' := 18) rfl rfl rfl (fun c17 => ?_) (fun c17 => ?_)
      · refine ir_k (pc' := 23) (v := (1, 1)) rfl rfl rfl (fun _ => rfl) ?_
        refine ir_s2 (pc' := 24) rfl rfl rfl rfl rfl rfl ?_
        refine ir_k (pc' := 25) (v := (0, 0)) rfl rfl rfl (fun _ => rfl) ?_
        refine ir_s (pc' := 27) rfl rfl rfl rfl rfl rfl ?_
        refine ir_w [(0, (2, ((0 : Nat) : Int))), (1, (0, x1)), (2, (0, x2)), (3, (1, 1)), (5, (0, 0))] ⟨rfl, rfl, rfl, rfl, rfl, trivial⟩ ?_
        exact J27 _ (1) (by omega) (by omega) (0) (by omega) (by omega) (by omega) (by omega) s14 hT14 hF14 (Int.self_le_toNat _)
      · refine ir_w [] trivial ?_
        exact J18 s14 hT14 hF14
theorem sf_sign9 (L : Nat) (ys : Nat → Int32) (d : Nat) (s0 : im_S) (hT0 : tI s0) (x1 : Int) (x1l : -2147483648 ≤ x1) (x1h : x1 ≤ 2147483647) (x2 : Int) (x2l : -2147483648 ≤ x2) (x2h : x2 ≤ 2147483647) : icI gG rm_P L ys 0 (d + 2) 222 [(2, ((0 : Nat) : Int)), (0, x1), (0, x2)] s0 (fun z s => tI s ∧ fr [] s0 s ∧ -128 ≤ z ∧ z ≤ 127) := by
  refine ic_startM (M := rm_p_X9_sign) om_X9_sign (Nat.le_of_ble_eq_true rfl) ?_
  refine ir_w [(0, (2, ((0 : Nat) : Int))), (1, (0, x1)), (2, (0, x2))] ⟨rfl, rfl, rfl, trivial⟩ ?_
  have hF0 := fr_refl [] s0
  have J16 : ∀ (s_16 : im_S) (hT_16 : tI s_16) (hF_16 : fr [] s0 s_16), ir gG rm_P L ys (d + 1) rm_p_X9_sign (16, [], [], s_16) (fun r : im_Re => ∃ z, r.1 = some (0, z) ∧ (tI r.2 ∧ fr [] s0 r.2 ∧ -128 ≤ z ∧ z ≤ 127)) := by
    intro s_16 hT_16 hF_16
    refine ir_k (pc' := 18) (v := (0, (-2))) rfl rfl rfl (fun _ => rfl) ?_
    exact ir_iret rfl rfl ⟨_, rfl, hT_16, hF_16, by omega, by omega⟩
  refine ir_l (pc' := 1) rfl rfl rfl rfl rfl rfl ?_
  refine ir_l (pc' := 2) rfl rfl rfl rfl rfl rfl ?_
  refine ir_cVI (pc' := 5) rfl rfl rfl rfl rfl (Nat.le_of_ble_eq_true rfl) oo_X9_isCell (gG_at tsk_0) (sf_isCell9 L ys d s0 hT0 (x1) (by omega) (by omega) ) (fun z1 s2 hr => ?_)
  obtain ⟨hT2, hG2, z1l, z1h, p2_0⟩ := hr
  have hF2 := fr_trans hF0 hG2 (by decide)
  refine ir_z_eq (pt := 16) (pc' := 8) rfl rfl rfl (fun c3 => ?_) (fun c3 => ?_)
  · refine ir_w [] trivial ?_
    exact J16 s2 hT2 hF2
  · refine ir_l (pc' := 9) rfl rfl rfl rfl rfl rfl ?_
    refine ir_l (pc' := 10) rfl rfl rfl rfl rfl rfl ?_
    refine ir_cVI (pc' := 13) rfl rfl rfl rfl rfl (Nat.le_of_ble_eq_true rfl) oo_X9_isAtom (gG_at tsk_0) (sf_isAtom9 L ys d s2 hT2 (x2) (by omega) (by omega) ) (fun z4 s5 hr => ?_)
    obtain ⟨hT5, hG5, z4l, z4h, p5_0⟩ := hr
    have hF5 := fr_trans hF2 hG5 (by decide)
    refine ir_z_ne (pt := 19) (pc' := 16) rfl rfl rfl (fun c6 => ?_) (fun c6 => ?_)
    · refine ir_l (pc' := 20) rfl rfl rfl rfl rfl rfl ?_
      refine ir_tgr (pc' := 23) rfl rfl rfl tf_0_4 tsk_0 hT5 (fun b7 b7e b7k => ?_)
      obtain rfl := tsg_1 b7k
      refine ir_tgr (pc' := 26) rfl rfl rfl tf_1_5 tsk_1 hT5 (fun b8 b8e b8k => ?_)
      obtain rfl := tsg_28 b8k
      refine ir_l (pc' := 27) rfl rfl rfl rfl rfl rfl ?_
      refine ir_k (pc' := 29) (v := (0, 10)) rfl rfl rfl (fun _ => rfl) ?_
      refine ir_mul (pc' := 30) rfl rfl (by omega) (by omega) ?_
      refine ir_l (pc' := 31) rfl rfl rfl rfl rfl rfl ?_
      refine ir_add (pc' := 32) rfl rfl (by omega) (by omega) ?_
      refine ir_tba (pc' := 33) rfl rfl te_28 (by decide) (by decide) tsk_28 hT5 (by omega) (by omega) (fun z9 z9e z9l z9h => ?_)
      clear z9e
      exact ir_iret rfl rfl ⟨_, rfl, hT5, hF5, by omega, by omega⟩
    · refine ir_w [] trivial ?_
      exact J16 s5 hT5 hF5
theorem sf_signAt9 (L : Nat) (ys : Nat → Int32) (d : Nat) (s0 : im_S) (hT0 : tI s0) (x1 : Int) (x1l : -2147483648 ≤ x1) (x1h : x1 ≤ 2147483647) (x2 : Int) (x2l : -2147483648 ≤ x2) (x2h : x2 ≤ 2147483647) (x3 : Int) (x3l : -2147483648 ≤ x3) (x3h : x3 ≤ 2147483647) : icI gG rm_P L ys 0 (d + 5) 223 [(2, ((0 : Nat) : Int)), (0, x1), (0, x2), (0, x3)] s0 (fun z s => tI s ∧ fr [(19, 1), (19, 2), (25, 1), (25, 2)] s0 s ∧ -2147483648 ≤ z ∧ z ≤ 2147483647) := by
  refine ic_startM (M := rm_p_X9_signAt) om_X9_signAt (Nat.le_of_ble_eq_true rfl) ?_
  refine ir_w [(0, (2, ((0 : Nat) : Int))), (1, (0, x1)), (2, (0, x2)), (3, (0, x3))] ⟨rfl, rfl, rfl, rfl, trivial⟩ ?_
  have hF0 := fr_refl [(19, 1), (19, 2), (25, 1), (25, 2)] s0
  have J16 : ∀ (s_16 : im_S) (hT_16 : tI s_16) (hF_16 : fr [(19, 1), (19, 2), (25, 1), (25, 2)] s0 s_16), ir gG rm_P L ys (d + 4) rm_p_X9_signAt (16, [], [], s_16) (fun r : im_Re => ∃ z, r.1 = some (0, z) ∧ (tI r.2 ∧ fr [(19, 1), (19, 2), (25, 1), (25, 2)] s0 r.2 ∧ -2147483648 ≤ z ∧ z ≤ 2147483647)) := by
    intro s_16 hT_16 hF_16
    refine ir_k (pc' := 18) (v := (0, (-2))) rfl rfl rfl (fun _ => rfl) ?_
    exact ir_iret rfl rfl ⟨_, rfl, hT_16, hF_16, by omega, by omega⟩
  refine ir_l (pc' := 1) rfl rfl rfl rfl rfl rfl ?_
  refine ir_l (pc' := 2) rfl rfl rfl rfl rfl rfl ?_
  refine ir_cVI (pc' := 5) rfl rfl rfl rfl rfl (Nat.le_of_ble_eq_true rfl) oo_X9_isAtom (gG_at tsk_0) (sf_isAtom9 L ys (d + 3) s0 hT0 (x1) (by omega) (by omega) ) (fun z1 s2 hr => ?_)
  obtain ⟨hT2, hG2, z1l, z1h, p2_0⟩ := hr
  have hF2 := fr_trans hF0 hG2 (by decide)
  refine ir_z_eq (pt := 16) (pc' := 8) rfl rfl rfl (fun c3 => ?_) (fun c3 => ?_)
  · refine ir_w [] trivial ?_
    exact J16 s2 hT2 hF2
  · refine ir_l (pc' := 9) rfl rfl rfl rfl rfl rfl ?_
    refine ir_l (pc' := 10) rfl rfl rfl rfl rfl rfl ?_
    refine ir_cSI (pc' := 13) rfl rfl rfl rfl rfl rfl (Nat.le_of_ble_eq_true rfl) (sf_isFraction9 L ys (d + 3) s2 hT2 (x2) (by omega) (by omega) (x3) (by omega) (by omega) ) (fun z4 s5 hr => ?_)
    obtain ⟨hT5, hG5, z4l, z4h, p5_0⟩ := hr
    have hF5 := fr_trans hF2 hG5 (by decide)
    refine ir_z_ne (pt := 19) (pc' := 16) rfl rfl rfl (fun c6 => ?_) (fun c6 => ?_)
    · refine ir_l (pc' := 20) rfl rfl rfl rfl rfl rfl ?_
      refine ir_tgr (pc' := 23) rfl rfl rfl tf_0_6 tsk_0 hT5 (fun b7 b7e b7k => ?_)
      obtain rfl := tsg_10 b7k
      refine ir_l (pc' := 24) rfl rfl rfl rfl rfl rfl ?_
      refine ir_tgr (pc' := 27) rfl rfl rfl tf_0_5 tsk_0 hT5 (fun b8 b8e b8k => ?_)
      obtain rfl := tsg_2 b8k
      refine ir_tgr (pc' := 30) rfl rfl rfl tf_2_9 tsk_2 hT5 (fun b9 b9e b9k => ?_)
      obtain rfl := tsg_7 b9k
      refine ir_l (pc' := 31) rfl rfl rfl rfl rfl rfl ?_
      refine ir_taa (pc' := 32) (k2 := 4) rfl rfl te_7 (by decide) tsk_7 hT5 (by omega) (by omega) (fun b10 b10k => ?_)
      refine ir_l (pc' := 33) rfl rfl rfl rfl rfl rfl ?_
      refine ir_i2l (pc' := 34) rfl rfl (by omega) (by omega) ?_
      refine ir_l (pc' := 35) rfl rfl rfl rfl rfl rfl ?_
      refine ir_i2l (pc' := 36) rfl rfl (by omega) (by omega) ?_
      refine ir_cVI (pc' := 39) rfl rfl rfl rfl rfl (Nat.le_of_ble_eq_true rfl) oo_X3_signAtFraction (gG_at tsk_10) (sf_signAtFraction3 L ys d s5 hT5 b10 b10k (x2) (by omega) (by omega) (x3) (by omega) (by omega) ) (fun z11 s12 hr => ?_)
      obtain ⟨hT12, hG12, z11l, z11h⟩ := hr
      have hF12 := fr_trans hF5 hG12 (by decide)
      have e13 : s12.1 0 6 = ((83 : Nat) : Int) := (hG12.1 _ _ tsk_0 6 (by decide)).trans b7e
      have e14 : s12.1 0 5 = ((2 : Nat) : Int) := (hG12.1 _ _ tsk_0 5 (by decide)).trans b8e
      have e15 : s12.1 2 9 = ((60 : Nat) : Int) := (hG12.1 _ _ tsk_2 9 (by decide)).trans b9e
      exact ir_iret rfl rfl ⟨_, rfl, hT12, hF12, by omega, by omega⟩
    · refine ir_w [] trivial ?_
      exact J16 s5 hT5 hF5
theorem sf_simple9 (L : Nat) (ys : Nat → Int32) (d : Nat) (s0 : im_S) (hT0 : tI s0) (x1 : Int) (x1l : -2147483648 ≤ x1) (x1h : x1 ≤ 2147483647) (x2 : Int) (x2l : -2147483648 ≤ x2) (x2h : x2 ≤ 2147483647) : icI gG rm_P L ys 1 (d + 8) 224 [(2, ((0 : Nat) : Int)), (0, x1), (0, x2)] s0 (fun z s => tI s ∧ fr [(19, 1), (19, 2), (25, 1), (25, 2)] s0 s ∧ -9223372036854775808 ≤ z ∧ z ≤ 9223372036854775807) := by
  refine ic_startM (M := rm_p_X9_simple) om_X9_simple (Nat.le_of_ble_eq_true rfl) ?_
  refine ir_w [(0, (2, ((0 : Nat) : Int))), (1, (0, x1)), (2, (0, x2))] ⟨rfl, rfl, rfl, trivial⟩ ?_
  have hF0 := fr_refl [(19, 1), (19, 2), (25, 1), (25, 2)] s0
  have J85 : ∀ (q85_s0 : Int) (q85_s0l : -9223372036854775808 ≤ q85_s0) (q85_s0h : q85_s0 ≤ 9223372036854775807) (s_85 : im_S) (hT_85 : tI s_85) (hF_85 : fr [(19, 1), (19, 2), (25, 1), (25, 2)] s0 s_85) (w85_0_4e : s_85.1 0 4 = ((1 : Nat) : Int)) (w85_1_12e : s_85.1 1 12 = ((581 : Nat) : Int)), ir gG rm_P L ys (d + 7) rm_p_X9_simple (85, [], [(1, q85_s0)], s_85) (fun r : im_Re => ∃ z, r.1 = some (1, z) ∧ (tI r.2 ∧ fr [(19, 1), (19, 2), (25, 1), (25, 2)] s0 r.2 ∧ -9223372036854775808 ≤ z ∧ z ≤ 9223372036854775807)) := by
    intro q85_s0 q85_s0l q85_s0h s_85 hT_85 hF_85 w85_0_4e w85_1_12e
    exact ir_lret rfl rfl ⟨_, rfl, hT_85, hF_85, by omega, by omega⟩
  have J46 : ∀ (f46_1l : 0 ≤ x1) (f46_1h : x1 ≤ 160) (f46_2l : 0 ≤ x2) (f46_2h : x2 ≤ 1) (s_46 : im_S) (hT_46 : tI s_46) (hF_46 : fr [(19, 1), (19, 2), (25, 1), (25, 2)] s0 s_46) (w46_0_4e : s_46.1 0 4 = ((1 : Nat) : Int)), ir gG rm_P L ys (d + 7) rm_p_X9_simple (46, [(0, (2, ((0 : Nat) : Int))), (1, (0, x1)), (2, (0, x2))], [], s_46) (fun r : im_Re => ∃ z, r.1 = some (1, z) ∧ (tI r.2 ∧ fr [(19, 1), (19, 2), (25, 1), (25, 2)] s0 r.2 ∧ -9223372036854775808 ≤ z ∧ z ≤ 9223372036854775807)) := by
    intro f46_1l f46_1h f46_2l f46_2h s_46 hT_46 hF_46 w46_0_4e
    refine ir_l (pc' := 47) rfl rfl rfl rfl rfl rfl ?_
    refine ir_getR (pc' := 50) rfl rfl rfl (gG_at tsk_0) rfl w46_0_4e ?_
    refine ir_tgr (pc' := 53) rfl rfl rfl tf_1_12 tsk_1 hT_46 (fun b1 b1e b1k => ?_)
    obtain rfl := tsg_31 b1k
    refine ir_l (pc' := 54) rfl rfl rfl rfl rfl rfl ?_
    refine ir_tia (pc' := 55) rfl rfl te_31 (by decide) tsk_31 hT_46 (by omega) (by omega) (fun z2 z2e z2l z2h => ?_)
    clear z2e
    refine ir_s (pc' := 56) rfl rfl rfl rfl rfl rfl ?_
    refine ir_l (pc' := 57) rfl rfl rfl rfl rfl rfl ?_
    refine ir_z_ge (pt := 67) (pc' := 60) rfl rfl rfl (fun c3 => ?_) (fun c3 => ?_)
    · refine ir_l (pc' := 68) rfl rfl rfl rfl rfl rfl ?_
      refine ir_z_ne (pt := 83) (pc' := 71) rfl rfl rfl (fun c4 => ?_) (fun c4 => ?_)
      · refine ir_l (pc' := 84) rfl rfl rfl rfl rfl rfl ?_
        refine ir_i2l (pc' := 85) rfl rfl (by omega) (by omega) ?_
        refine ir_w [] trivial ?_
        exact J85 (z2) (by omega) (by omega) s_46 hT_46 hF_46 w46_0_4e b1e
      · refine ir_l (pc' := 72) rfl rfl rfl rfl rfl rfl ?_
        refine ir_getR (pc' := 75) rfl rfl rfl (gG_at tsk_0) rfl w46_0_4e ?_
        refine ir_tgr (pc' := 78) rfl rfl rfl tf_1_11 tsk_1 hT_46 (fun b5 b5e b5k => ?_)
        obtain rfl := tsg_30 b5k
        refine ir_l (pc' := 79) rfl rfl rfl rfl rfl rfl ?_
        refine ir_tla (pc' := 80) rfl rfl te_30 (by decide) tsk_30 hT_46 (by omega) (by omega) (fun z6 z6e z6l z6h => ?_)
        clear z6e
        refine ir_goto (pc' := 85) rfl rfl ?_
        refine ir_w [] trivial ?_
        exact J85 (z6) (by omega) (by omega) s_46 hT_46 hF_46 w46_0_4e b1e
    · refine ir_k (pc' := 63) (v := (1, (-9000000000000000000))) rfl rfl rfl (fun _ => rfl) ?_
      refine ir_l (pc' := 64) rfl rfl rfl rfl rfl rfl ?_
      refine ir_i2l (pc' := 65) rfl rfl (by omega) (by omega) ?_
      refine ir_ladd (pc' := 66) rfl rfl (by omega) (by omega) ?_
      exact ir_lret rfl rfl ⟨_, rfl, hT_46, hF_46, by omega, by omega⟩
  have J17 : ∀ (s_17 : im_S) (hT_17 : tI s_17) (hF_17 : fr [(19, 1), (19, 2), (25, 1), (25, 2)] s0 s_17), ir gG rm_P L ys (d + 7) rm_p_X9_simple (17, [], [], s_17) (fun r : im_Re => ∃ z, r.1 = some (1, z) ∧ (tI r.2 ∧ fr [(19, 1), (19, 2), (25, 1), (25, 2)] s0 r.2 ∧ -9223372036854775808 ≤ z ∧ z ≤ 9223372036854775807)) := by
    intro s_17 hT_17 hF_17
    refine ir_k (pc' := 20) (v := (1, (-9000000000000000001))) rfl rfl rfl (fun _ => rfl) ?_
    exact ir_lret rfl rfl ⟨_, rfl, hT_17, hF_17, by omega, by omega⟩
  refine ir_l (pc' := 1) rfl rfl rfl rfl rfl rfl ?_
  refine ir_l (pc' := 2) rfl rfl rfl rfl rfl rfl ?_
  refine ir_cVI (pc' := 5) rfl rfl rfl rfl rfl (Nat.le_of_ble_eq_true rfl) oo_X9_isCell (gG_at tsk_0) (sf_isCell9 L ys (d + 6) s0 hT0 (x1) (by omega) (by omega) ) (fun z7 s8 hr => ?_)
  obtain ⟨hT8, hG8, z7l, z7h, p8_0⟩ := hr
  have hF8 := fr_trans hF0 hG8 (by decide)
  refine ir_z_eq (pt := 17) (pc' := 8) rfl rfl rfl (fun c9 => ?_) (fun c9 => ?_)
  · refine ir_w [] trivial ?_
    exact J17 s8 hT8 hF8
  · refine ir_l (pc' := 9) rfl rfl rfl rfl rfl rfl ?_
    refine ir_z_lt (pt := 17) (pc' := 12) rfl rfl rfl (fun c10 => ?_) (fun c10 => ?_)
    · refine ir_w [] trivial ?_
      exact J17 s8 hT8 hF8
    · refine ir_l (pc' := 13) rfl rfl rfl rfl rfl rfl ?_
      refine ir_k (pc' := 14) (v := (0, 1)) rfl rfl rfl (fun _ => rfl) ?_
      refine ir_c_le (pt := 21) (pc' := 17) rfl rfl rfl (fun c11 => ?_) (fun c11 => ?_)
      · refine ir_l (pc' := 22) rfl rfl rfl rfl rfl rfl ?_
        refine ir_k (pc' := 23) (v := (0, 2)) rfl rfl rfl (fun _ => rfl) ?_
        refine ir_remN (pc' := 24) rfl rfl (by omega) (by omega) (by omega) (by omega) ?_
        refine ir_z_ne (pt := 38) (pc' := 27) rfl rfl rfl (fun c12 => ?_) (fun c12 => ?_)
        · refine ir_l (pc' := 39) rfl rfl rfl rfl rfl rfl ?_
          refine ir_tgr (pc' := 42) rfl rfl rfl tf_0_4 tsk_0 hT8 (fun b13 b13e b13k => ?_)
          obtain rfl := tsg_1 b13k
          refine ir_l (pc' := 43) rfl rfl rfl rfl rfl rfl ?_
          refine ir_cVV (pc' := 46) rfl rfl rfl rfl rfl (Nat.le_of_ble_eq_true rfl) oo_X4_fillAt (gG_at tsk_1) (sf_fillAt4 L ys (d + 4) s8 hT8 (x1) (by omega) (by omega) ) (fun s15 hr => ?_)
          obtain ⟨hT15, hG15⟩ := hr
          have hF15 := fr_trans hF8 hG15 (by decide)
          have e16 : s15.1 0 4 = ((1 : Nat) : Int) := (hG15.1 _ _ tsk_0 4 (by decide)).trans b13e
          refine ir_w [(0, (2, ((0 : Nat) : Int))), (1, (0, x1)), (2, (0, x2))] ⟨rfl, rfl, rfl, trivial⟩ ?_
          exact J46 (by omega) (by omega) (by omega) (by omega) s15 hT15 hF15 e16
        · refine ir_l (pc' := 28) rfl rfl rfl rfl rfl rfl ?_
          refine ir_tgr (pc' := 31) rfl rfl rfl tf_0_4 tsk_0 hT8 (fun b17 b17e b17k => ?_)
          obtain rfl := tsg_1 b17k
          refine ir_l (pc' := 32) rfl rfl rfl rfl rfl rfl ?_
          refine ir_cVV (pc' := 35) rfl rfl rfl rfl rfl (Nat.le_of_ble_eq_true rfl) oo_X4_fillBetween (gG_at tsk_1) (sf_fillBetween4 L ys d s8 hT8 (x1) (by omega) (by omega) ) (fun s19 hr => ?_)
          obtain ⟨hT19, hG19⟩ := hr
          have hF19 := fr_trans hF8 hG19 (by decide)
          have e20 : s19.1 0 4 = ((1 : Nat) : Int) := (hG19.1 _ _ tsk_0 4 (by decide)).trans b17e
          refine ir_goto (pc' := 46) rfl rfl ?_
          refine ir_w [(0, (2, ((0 : Nat) : Int))), (1, (0, x1)), (2, (0, x2))] ⟨rfl, rfl, rfl, trivial⟩ ?_
          exact J46 (by omega) (by omega) (by omega) (by omega) s19 hT19 hF19 e20
      · refine ir_w [] trivial ?_
        exact J17 s8 hT8 hF8
theorem sf_times9 (L : Nat) (ys : Nat → Int32) (d : Nat) (s0 : im_S) (hT0 : tI s0) (x1 : Int) (x1l : -2147483648 ≤ x1) (x1h : x1 ≤ 2147483647) (x2 : Int) (x2l : -2147483648 ≤ x2) (x2h : x2 ≤ 2147483647) : icI gG rm_P L ys 0 (d + 3) 225 [(2, ((0 : Nat) : Int)), (0, x1), (0, x2)] s0 (fun z s => tI s ∧ fr [] s0 s ∧ -2147483648 ≤ z ∧ z ≤ 2147483647) := by
  refine ic_startM (M := rm_p_X9_times) om_X9_times (Nat.le_of_ble_eq_true rfl) ?_
  refine ir_w [(0, (2, ((0 : Nat) : Int))), (1, (0, x1)), (2, (0, x2))] ⟨rfl, rfl, rfl, trivial⟩ ?_
  have hF0 := fr_refl [] s0
  have J16 : ∀ (s_16 : im_S) (hT_16 : tI s_16) (hF_16 : fr [] s0 s_16), ir gG rm_P L ys (d + 2) rm_p_X9_times (16, [], [], s_16) (fun r : im_Re => ∃ z, r.1 = some (0, z) ∧ (tI r.2 ∧ fr [] s0 r.2 ∧ -2147483648 ≤ z ∧ z ≤ 2147483647)) := by
    intro s_16 hT_16 hF_16
    refine ir_k (pc' := 17) (v := (0, (-1))) rfl rfl rfl (fun _ => rfl) ?_
    exact ir_iret rfl rfl ⟨_, rfl, hT_16, hF_16, by omega, by omega⟩
  refine ir_l (pc' := 1) rfl rfl rfl rfl rfl rfl ?_
  refine ir_l (pc' := 2) rfl rfl rfl rfl rfl rfl ?_
  refine ir_cVI (pc' := 5) rfl rfl rfl rfl rfl (Nat.le_of_ble_eq_true rfl) oo_X9_isRoot (gG_at tsk_0) (sf_isRoot9 L ys (d + 1) s0 hT0 (x1) (by omega) (by omega) ) (fun z1 s2 hr => ?_)
  obtain ⟨hT2, hG2, z1l, z1h⟩ := hr
  have hF2 := fr_trans hF0 hG2 (by decide)
  refine ir_z_eq (pt := 16) (pc' := 8) rfl rfl rfl (fun c3 => ?_) (fun c3 => ?_)
  · refine ir_w [] trivial ?_
    exact J16 s2 hT2 hF2
  · refine ir_l (pc' := 9) rfl rfl rfl rfl rfl rfl ?_
    refine ir_l (pc' := 10) rfl rfl rfl rfl rfl rfl ?_
    refine ir_cVI (pc' := 13) rfl rfl rfl rfl rfl (Nat.le_of_ble_eq_true rfl) oo_X9_isAtom (gG_at tsk_0) (sf_isAtom9 L ys (d + 1) s2 hT2 (x2) (by omega) (by omega) ) (fun z4 s5 hr => ?_)
    obtain ⟨hT5, hG5, z4l, z4h, p5_0⟩ := hr
    have hF5 := fr_trans hF2 hG5 (by decide)
    refine ir_z_ne (pt := 18) (pc' := 16) rfl rfl rfl (fun c6 => ?_) (fun c6 => ?_)
    · refine ir_l (pc' := 19) rfl rfl rfl rfl rfl rfl ?_
      refine ir_tgr (pc' := 22) rfl rfl rfl tf_0_5 tsk_0 hT5 (fun b7 b7e b7k => ?_)
      obtain rfl := tsg_2 b7k
      refine ir_tgr (pc' := 25) rfl rfl rfl tf_2_9 tsk_2 hT5 (fun b8 b8e b8k => ?_)
      obtain rfl := tsg_7 b8k
      refine ir_l (pc' := 26) rfl rfl rfl rfl rfl rfl ?_
      refine ir_taa (pc' := 27) (k2 := 4) rfl rfl te_7 (by decide) tsk_7 hT5 (by omega) (by omega) (fun b9 b9k => ?_)
      refine ir_tgi (pc' := 30) rfl rfl rfl tf_4_0 b9k hT5 (fun z10 z10e z10l z10h => ?_)
      refine ir_z_ge (pt := 36) (pc' := 33) rfl rfl rfl (fun c11 => ?_) (fun c11 => ?_)
      · refine ir_l (pc' := 37) rfl rfl rfl rfl rfl rfl ?_
        refine ir_tgr (pc' := 40) rfl rfl rfl tf_0_7 tsk_0 hT5 (fun b12 b12e b12k => ?_)
        obtain rfl := tsg_11 b12k
        refine ir_l (pc' := 41) rfl rfl rfl rfl rfl rfl ?_
        refine ir_tgr (pc' := 44) rfl rfl rfl tf_0_4 tsk_0 hT5 (fun b13 b13e b13k => ?_)
        obtain rfl := tsg_1 b13k
        refine ir_l (pc' := 45) rfl rfl rfl rfl rfl rfl ?_
        refine ir_cVR (pc' := 48) rfl rfl rfl rfl rfl (Nat.le_of_ble_eq_true rfl) oo_X4_rootAt (gG_at tsk_1) (sf_rootAt4 L ys d s5 hT5 (x1) (by omega) (by omega) ) (fun b14 s15 hr => ?_)
        obtain ⟨hT15, hG15, b14k⟩ := hr
        have hF15 := fr_trans hF5 hG15 (by decide)
        have e16 : s15.1 0 5 = ((2 : Nat) : Int) := (hG15.1 _ _ tsk_0 5 (by decide)).trans b7e
        have e17 : s15.1 2 9 = ((60 : Nat) : Int) := (hG15.1 _ _ tsk_2 9 (by decide)).trans b8e
        have e18 : s15.1 b9 0 = z10 := (hG15.1 _ _ b9k 0 (by decide)).trans z10e
        have e19 : s15.1 0 7 = ((84 : Nat) : Int) := (hG15.1 _ _ tsk_0 7 (by decide)).trans b12e
        have e20 : s15.1 0 4 = ((1 : Nat) : Int) := (hG15.1 _ _ tsk_0 4 (by decide)).trans b13e
        refine ir_tgi (pc' := 51) rfl rfl rfl tf_23_0 b14k hT15 (fun z21 z21e z21l z21h => ?_)
        refine ir_l (pc' := 52) rfl rfl rfl rfl rfl rfl ?_
        refine ir_cVI (pc' := 55) rfl rfl rfl rfl rfl (Nat.le_of_ble_eq_true rfl) oo_X0_multiplicity (gG_at tsk_11) (sf_multiplicity0 L ys (d + 1) s15 hT15 (z21) (by omega) (by omega) (x2) (by omega) (by omega) ) (fun z22 s23 hr => ?_)
        obtain ⟨hT23, hG23, z22l, z22h⟩ := hr
        have hF23 := fr_trans hF15 hG23 (by decide)
        have e24 : s23.1 0 5 = ((2 : Nat) : Int) := (hG23.1 _ _ tsk_0 5 (by decide)).trans e16
        have e25 : s23.1 2 9 = ((60 : Nat) : Int) := (hG23.1 _ _ tsk_2 9 (by decide)).trans e17
        have e26 : s23.1 b9 0 = z10 := (hG23.1 _ _ b9k 0 (by decide)).trans e18
        have e27 : s23.1 0 7 = ((84 : Nat) : Int) := (hG23.1 _ _ tsk_0 7 (by decide)).trans e19
        have e28 : s23.1 0 4 = ((1 : Nat) : Int) := (hG23.1 _ _ tsk_0 4 (by decide)).trans e20
        have e29 : s23.1 b14 0 = z21 := (hG23.1 _ _ b14k 0 (by decide)).trans z21e
        exact ir_iret rfl rfl ⟨_, rfl, hT23, hF23, by omega, by omega⟩
      · refine ir_k (pc' := 35) (v := (0, (-2))) rfl rfl rfl (fun _ => rfl) ?_
        exact ir_iret rfl rfl ⟨_, rfl, hT5, hF5, by omega, by omega⟩
    · refine ir_w [] trivial ?_
      exact J16 s5 hT5 hF5
theorem sf_type9 (L : Nat) (ys : Nat → Int32) (d : Nat) (s0 : im_S) (hT0 : tI s0) (x1 : Int) (x1l : -2147483648 ≤ x1) (x1h : x1 ≤ 2147483647) : icI gG rm_P L ys 0 (d + 2) 226 [(2, ((0 : Nat) : Int)), (0, x1)] s0 (fun z s => tI s ∧ fr [(0, 0)] s0 s ∧ -1 ≤ z ∧ z ≤ 400 ∧ ((z = -1 ∧ s.1 0 0 = s0.1 0 0 ∧ (x1 < 32 ∨ 126 < x1 ∨ s0.1 0 0 = 400)) ∨ (z = s0.1 0 0 + 1 ∧ s.1 0 0 = z ∧ 32 ≤ x1 ∧ x1 ≤ 126 ∧ s0.1 0 0 < 400))) := by
  refine ic_startM (M := rm_p_X9_type) om_X9_type (Nat.le_of_ble_eq_true rfl) ?_
  refine ir_w [(0, (2, ((0 : Nat) : Int))), (1, (0, x1))] ⟨rfl, rfl, trivial⟩ ?_
  have hF0 := fr_refl [(0, 0)] s0
  have J17 : ∀ (s_17 : im_S) (hT_17 : tI s_17) (hF_17 : fr [(0, 0)] s0 s_17) (w17_0_0 : Int) (w17_0_0l : 0 ≤ w17_0_0) (w17_0_0h : w17_0_0 ≤ 400) (w17_0_0e : s_17.1 0 0 = w17_0_0) (i17_0 : (x1 < 32 ∨ 126 < x1 ∨ s0.1 0 0 = 400)) (i17_1 : w17_0_0 = s0.1 0 0), ir gG rm_P L ys (d + 1) rm_p_X9_type (17, [], [], s_17) (fun r : im_Re => ∃ z, r.1 = some (0, z) ∧ (tI r.2 ∧ fr [(0, 0)] s0 r.2 ∧ -1 ≤ z ∧ z ≤ 400 ∧ ((z = -1 ∧ r.2.1 0 0 = s0.1 0 0 ∧ (x1 < 32 ∨ 126 < x1 ∨ s0.1 0 0 = 400)) ∨ (z = s0.1 0 0 + 1 ∧ r.2.1 0 0 = z ∧ 32 ≤ x1 ∧ x1 ≤ 126 ∧ s0.1 0 0 < 400)))) := by
    intro s_17 hT_17 hF_17 w17_0_0 w17_0_0l w17_0_0h w17_0_0e i17_0 i17_1
    refine ir_k (pc' := 18) (v := (0, (-1))) rfl rfl rfl (fun _ => rfl) ?_
    exact ir_iret rfl rfl ⟨_, rfl, hT_17, hF_17, by omega, by omega, (by first | omega | (dsimp only; omega))⟩
  obtain ⟨z1, z1e, z1l, z1h⟩ := tI_i tf_0_0 tsk_0 hT0
  refine ir_l (pc' := 1) rfl rfl rfl rfl rfl rfl ?_
  refine ir_cSI (pc' := 4) rfl rfl rfl rfl rfl rfl (Nat.le_of_ble_eq_true rfl) (sf_isSign9 L ys d s0 hT0 (x1) (by omega) (by omega) ) (fun z2 s3 hr => ?_)
  obtain ⟨hT3, hG3, z2l, z2h, p3_0⟩ := hr
  have hF3 := fr_trans hF0 hG3 (by decide)
  have e4 : s3.1 0 0 = z1 := (hG3.1 _ _ tsk_0 0 (by decide)).trans z1e
  refine ir_z_eq (pt := 17) (pc' := 7) rfl rfl rfl (fun c5 => ?_) (fun c5 => ?_)
  · refine ir_w [] trivial ?_
    exact J17 s3 hT3 hF3 (z1) (by omega) (by omega) e4 (by omega) (by omega)
  · refine ir_l (pc' := 8) rfl rfl rfl rfl rfl rfl ?_
    refine ir_getI (pc' := 11) rfl rfl rfl (gG_at tsk_0) rfl (by decide) (by decide) e4 (by omega) (by omega) ?_
    refine ir_k (pc' := 14) (v := (0, 400)) rfl rfl rfl (fun _ => rfl) ?_
    refine ir_c_lt (pt := 19) (pc' := 17) rfl rfl rfl (fun c6 => ?_) (fun c6 => ?_)
    · refine ir_l (pc' := 20) rfl rfl rfl rfl rfl rfl ?_
      refine ir_tgr (pc' := 23) rfl rfl rfl tf_0_5 tsk_0 hT3 (fun b7 b7e b7k => ?_)
      obtain rfl := tsg_2 b7k
      refine ir_tgr (pc' := 26) rfl rfl rfl tf_2_0 tsk_2 hT3 (fun b8 b8e b8k => ?_)
      obtain rfl := tsg_3 b8k
      refine ir_l (pc' := 27) rfl rfl rfl rfl rfl rfl ?_
      refine ir_getI (pc' := 30) rfl rfl rfl (gG_at tsk_0) rfl (by decide) (by decide) e4 (by omega) (by omega) ?_
      refine ir_l (pc' := 31) rfl rfl rfl rfl rfl rfl ?_
      refine ir_i2cA (pc' := 32) rfl rfl (fun z9 z9l z9h => ?_)
      refine ir_tis (pc' := 33) rfl rfl rfl rfl te_3 tsk_3 hT3 (by omega) (by omega) (im_fit_of (lo := 0) (hi := 65535) (by decide) (by omega) (by omega)) (by omega) (by omega) (fun s10 hT10 r10 o10 => ?_)
      have hF10 := fr_row hF3 r10 o10
      have e11 : s10.1 0 0 = z1 := by rw [r10]; exact e4
      have e12 : s10.1 0 5 = ((2 : Nat) : Int) := by rw [r10]; exact b7e
      have e13 : s10.1 2 0 = ((3 : Nat) : Int) := by rw [r10]; exact b8e
      refine ir_l (pc' := 34) rfl rfl rfl rfl rfl rfl ?_
      refine ir_x (pc' := 35) rfl rfl rfl (fun _ => rfl) ?_
      refine ir_getI (pc' := 38) rfl rfl rfl (gG_at tsk_0) rfl (by decide) (by decide) e11 (by omega) (by omega) ?_
      refine ir_k (pc' := 39) (v := (0, 1)) rfl rfl rfl (fun _ => rfl) ?_
      refine ir_add (pc' := 40) rfl rfl (by omega) (by omega) ?_
      refine ir_tpi (pc' := 43) rfl rfl rfl tf_0_0 rfl tsk_0 hT10 rfl (by omega) (by omega) (fun s14 hT14 e14 g14 r14 => ?_)
      have hF14 := fr_put (k := 0) hF10 (by decide) tsk_0 g14 r14
      have e15 : s14.1 0 5 = ((2 : Nat) : Int) := (g14 0 5 (fun z => absurd z.2 (by decide))).trans e12
      have e16 : s14.1 2 0 = ((3 : Nat) : Int) := (g14 2 0 (fun z => absurd z.1 (by decide))).trans e13
      refine ir_l (pc' := 44) rfl rfl rfl rfl rfl rfl ?_
      refine ir_getI (pc' := 47) rfl rfl rfl (gG_at tsk_0) rfl (by decide) (by decide) e14 (by omega) (by omega) ?_
      exact ir_iret rfl rfl ⟨_, rfl, hT14, hF14, by omega, by omega, (by first | omega | (dsimp only; omega))⟩
    · refine ir_w [] trivial ?_
      exact J17 s3 hT3 hF3 (z1) (by omega) (by omega) e4 (by omega) (by omega)
