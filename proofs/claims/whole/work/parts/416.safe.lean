/-! WALKS OF THE CLASS'S METHODS, by program -/
theorem sf_insert4 (L : Nat) (ys : Nat → Int32) (d : Nat) (s0 : im_S) (hT0 : tI s0) (x1 : Int) (x1l : 0 ≤ x1) (x1h : x1 ≤ 79) : icV gG rm_P L ys (d + 7) 155 [(2, ((1 : Nat) : Int)), (0, x1)] s0 (fun s => tI s ∧ fr [(1, 4), (10, 13), (10, 14), (10, 15), (10, 16), (19, 1), (19, 2), (23, 1), (23, 7), (23, 8), (25, 1), (25, 2)] s0 s) := by
  refine ic_startM (M := rm_p_X4_insert) om_X4_insert (Nat.le_of_ble_eq_true rfl) ?_
  refine ir_w [(0, (2, ((1 : Nat) : Int))), (1, (0, x1))] ⟨rfl, rfl, trivial⟩ ?_
  have hF0 := fr_refl [(1, 4), (10, 13), (10, 14), (10, 15), (10, 16), (19, 1), (19, 2), (23, 1), (23, 7), (23, 8), (25, 1), (25, 2)] s0
  have J107 : ∀ (q107_l3 : Int) (q107_l3l : 0 ≤ q107_l3) (q107_l3h : q107_l3 ≤ 79) (s_107 : im_S) (hT_107 : tI s_107) (hF_107 : fr [(1, 4), (10, 13), (10, 14), (10, 15), (10, 16), (19, 1), (19, 2), (23, 1), (23, 7), (23, 8), (25, 1), (25, 2)] s0 s_107) (w107_1_1e : s_107.1 1 1 = ((83 : Nat) : Int)) (w107_1_4 : Int) (w107_1_4l : 0 ≤ w107_1_4) (w107_1_4h : w107_1_4 ≤ 79) (w107_1_4e : s_107.1 1 4 = w107_1_4) (w107_83_2e : s_107.1 83 2 = ((310 : Nat) : Int)), ir gG rm_P L ys (d + 6) rm_p_X4_insert (107, [(0, (2, ((1 : Nat) : Int))), (1, (0, x1)), (3, (0, q107_l3))], [], s_107) (fun r : im_Re => r.1 = none ∧ (tI r.2 ∧ fr [(1, 4), (10, 13), (10, 14), (10, 15), (10, 16), (19, 1), (19, 2), (23, 1), (23, 7), (23, 8), (25, 1), (25, 2)] s0 r.2)) := by
    intro q107_l3 q107_l3l q107_l3h s_107 hT_107 hF_107 w107_1_1e w107_1_4 w107_1_4l w107_1_4h w107_1_4e w107_83_2e
    refine ir_l (pc' := 108) rfl rfl rfl rfl rfl rfl ?_
    refine ir_tgr (pc' := 111) rfl rfl rfl tf_1_3 tsk_1 hT_107 (fun b1 b1e b1k => ?_)
    obtain rfl := tsg_27 b1k
    refine ir_l (pc' := 112) rfl rfl rfl rfl rfl rfl ?_
    refine ir_l (pc' := 113) rfl rfl rfl rfl rfl rfl ?_
    refine ir_tis (pc' := 114) rfl rfl rfl rfl te_27 tsk_27 hT_107 (by omega) (by omega) (rfl) (by omega) (by omega) (fun s2 hT2 r2 o2 => ?_)
    have hF2 := fr_row hF_107 r2 o2
    have e3 : s2.1 1 4 = w107_1_4 := by rw [r2]; exact w107_1_4e
    have e4 : s2.1 1 1 = ((83 : Nat) : Int) := by rw [r2]; exact w107_1_1e
    have e5 : s2.1 83 2 = ((310 : Nat) : Int) := by rw [r2]; exact w107_83_2e
    have e6 : s2.1 1 3 = ((577 : Nat) : Int) := by rw [r2]; exact b1e
    refine ir_l (pc' := 115) rfl rfl rfl rfl rfl rfl ?_
    refine ir_x (pc' := 116) rfl rfl rfl (fun _ => rfl) ?_
    refine ir_getI (pc' := 119) rfl rfl rfl (gG_at tsk_1) rfl (by decide) (by decide) e3 (by omega) (by omega) ?_
    refine ir_k (pc' := 120) (v := (0, 1)) rfl rfl rfl (fun _ => rfl) ?_
    refine ir_add (pc' := 121) rfl rfl (by omega) (by omega) ?_
    refine ir_tpi (pc' := 124) rfl rfl rfl tf_1_4 rfl tsk_1 hT2 rfl (by omega) (by omega) (fun s7 hT7 e7 g7 r7 => ?_)
    have hF7 := fr_put (k := 1) hF2 (by decide) tsk_1 g7 r7
    have e8 : s7.1 1 1 = ((83 : Nat) : Int) := (g7 1 1 (fun z => absurd z.2 (by decide))).trans e4
    have e9 : s7.1 83 2 = ((310 : Nat) : Int) := (g7 83 2 (fun z => absurd z.2 (by decide))).trans e5
    have e10 : s7.1 1 3 = ((577 : Nat) : Int) := (g7 1 3 (fun z => absurd z.2 (by decide))).trans e6
    exact ir_vret rfl rfl ⟨rfl, hT7, hF7⟩
  have J25 : ∀ n : Nat, ∀ (q25_l2 : Nat) (q25_l2k : gK[q25_l2]? = some 23) (q25_l3 : Int) (q25_l3l : 0 ≤ q25_l3) (q25_l3h : q25_l3 ≤ 79) (s_25 : im_S) (hT_25 : tI s_25) (hF_25 : fr [(1, 4), (10, 13), (10, 14), (10, 15), (10, 16), (19, 1), (19, 2), (23, 1), (23, 7), (23, 8), (25, 1), (25, 2)] s0 s_25) (w25_1_1e : s_25.1 1 1 = ((83 : Nat) : Int)) (w25_1_4 : Int) (w25_1_4l : 0 ≤ w25_1_4) (w25_1_4h : w25_1_4 ≤ 79) (w25_1_4e : s_25.1 1 4 = w25_1_4) (w25_83_2e : s_25.1 83 2 = ((310 : Nat) : Int)), (q25_l3 - 0 + 1) ≤ (n : Int) → ir gG rm_P L ys (d + 6) rm_p_X4_insert (25, [(0, (2, ((1 : Nat) : Int))), (1, (0, x1)), (2, (2, ((q25_l2 : Nat) : Int))), (3, (0, q25_l3))], [], s_25) (fun r : im_Re => r.1 = none ∧ (tI r.2 ∧ fr [(1, 4), (10, 13), (10, 14), (10, 15), (10, 16), (19, 1), (19, 2), (23, 1), (23, 7), (23, 8), (25, 1), (25, 2)] s0 r.2)) := by
    intro n
    induction n with
    | zero => intro q25_l2 q25_l2k q25_l3 q25_l3l q25_l3h s_25 hT_25 hF_25 w25_1_1e w25_1_4 w25_1_4l w25_1_4h w25_1_4e w25_83_2e hr; exfalso; omega
    | succ n ih25 =>
      intro q25_l2 q25_l2k q25_l3 q25_l3l q25_l3h s_25 hT_25 hF_25 w25_1_1e w25_1_4 w25_1_4l w25_1_4h w25_1_4e w25_83_2e hr
      have J79 : ∀ (q79_l5 : Int) (q79_l5l : -1 ≤ q79_l5) (q79_l5h : q79_l5 ≤ 1) (f79_3l : 1 ≤ q25_l3) (s_79 : im_S) (hT_79 : tI s_79) (hF_79 : fr [(1, 4), (10, 13), (10, 14), (10, 15), (10, 16), (19, 1), (19, 2), (23, 1), (23, 7), (23, 8), (25, 1), (25, 2)] s0 s_79) (w79_1_1e : s_79.1 1 1 = ((83 : Nat) : Int)) (w79_1_4 : Int) (w79_1_4l : 0 ≤ w79_1_4) (w79_1_4h : w79_1_4 ≤ 79) (w79_1_4e : s_79.1 1 4 = w79_1_4) (w79_83_2e : s_79.1 83 2 = ((310 : Nat) : Int)), ir gG rm_P L ys (d + 6) rm_p_X4_insert (79, [(0, (2, ((1 : Nat) : Int))), (1, (0, x1)), (2, (2, ((q25_l2 : Nat) : Int))), (3, (0, q25_l3)), (5, (0, q79_l5))], [], s_79) (fun r : im_Re => r.1 = none ∧ (tI r.2 ∧ fr [(1, 4), (10, 13), (10, 14), (10, 15), (10, 16), (19, 1), (19, 2), (23, 1), (23, 7), (23, 8), (25, 1), (25, 2)] s0 r.2)) := by
        intro q79_l5 q79_l5l q79_l5h f79_3l s_79 hT_79 hF_79 w79_1_1e w79_1_4 w79_1_4l w79_1_4h w79_1_4e w79_83_2e
        refine ir_l (pc' := 81) rfl rfl rfl rfl rfl rfl ?_
        refine ir_z_lt (pt := 87) (pc' := 84) rfl rfl rfl (fun c11 => ?_) (fun c11 => ?_)
        · refine ir_l (pc' := 88) rfl rfl rfl rfl rfl rfl ?_
          refine ir_tgr (pc' := 91) rfl rfl rfl tf_1_3 tsk_1 hT_79 (fun b12 b12e b12k => ?_)
          obtain rfl := tsg_27 b12k
          refine ir_l (pc' := 92) rfl rfl rfl rfl rfl rfl ?_
          refine ir_l (pc' := 93) rfl rfl rfl rfl rfl rfl ?_
          refine ir_getR (pc' := 96) rfl rfl rfl (gG_at tsk_1) rfl b12e ?_
          refine ir_l (pc' := 97) rfl rfl rfl rfl rfl rfl ?_
          refine ir_k (pc' := 98) (v := (0, 1)) rfl rfl rfl (fun _ => rfl) ?_
          refine ir_sub (pc' := 99) rfl rfl (by omega) (by omega) ?_
          refine ir_tia (pc' := 100) rfl rfl te_27 (by decide) tsk_27 hT_79 (by omega) (by omega) (fun z13 z13e z13l z13h => ?_)
          clear z13e
          refine ir_tis (pc' := 101) rfl rfl rfl rfl te_27 tsk_27 hT_79 (by omega) (by omega) (rfl) (by omega) (by omega) (fun s14 hT14 r14 o14 => ?_)
          have hF14 := fr_row hF_79 r14 o14
          have e15 : s14.1 1 4 = w79_1_4 := by rw [r14]; exact w79_1_4e
          have e16 : s14.1 1 1 = ((83 : Nat) : Int) := by rw [r14]; exact w79_1_1e
          have e17 : s14.1 83 2 = ((310 : Nat) : Int) := by rw [r14]; exact w79_83_2e
          have e18 : s14.1 1 3 = ((577 : Nat) : Int) := by rw [r14]; exact b12e
          refine ir_inc (pc' := 104) rfl rfl rfl rfl rfl (by omega) (by omega) ?_
          refine ir_goto (pc' := 25) rfl rfl ?_
          refine ir_w [(0, (2, ((1 : Nat) : Int))), (1, (0, x1)), (2, (2, ((q25_l2 : Nat) : Int))), (3, (0, (q25_l3 + (-1))))] ⟨rfl, rfl, rfl, rfl, trivial⟩ ?_
          exact ih25 q25_l2 q25_l2k ((q25_l3 + (-1))) (by omega) (by omega) s14 hT14 hF14 e16 (w79_1_4) (by omega) (by omega) e15 e17 (by omega)
        · refine ir_goto (pc' := 107) rfl rfl ?_
          refine ir_w [(0, (2, ((1 : Nat) : Int))), (1, (0, x1)), (3, (0, q25_l3))] ⟨rfl, rfl, rfl, trivial⟩ ?_
          exact J107 (q25_l3) (by omega) (by omega) s_79 hT_79 hF_79 w79_1_1e (w79_1_4) (by omega) (by omega) w79_1_4e w79_83_2e
      refine ir_l (pc' := 26) rfl rfl rfl rfl rfl rfl ?_
      refine ir_z_le (pt := 107) (pc' := 29) rfl rfl rfl (fun c19 => ?_) (fun c19 => ?_)
      · refine ir_w [(0, (2, ((1 : Nat) : Int))), (1, (0, x1)), (3, (0, q25_l3))] ⟨rfl, rfl, rfl, trivial⟩ ?_
        exact J107 (q25_l3) (by omega) (by omega) s_25 hT_25 hF_25 w25_1_1e (w25_1_4) (by omega) (by omega) w25_1_4e w25_83_2e
      · refine ir_l (pc' := 30) rfl rfl rfl rfl rfl rfl ?_
        refine ir_l (pc' := 31) rfl rfl rfl rfl rfl rfl ?_
        refine ir_k (pc' := 32) (v := (0, 1)) rfl rfl rfl (fun _ => rfl) ?_
        refine ir_sub (pc' := 33) rfl rfl (by omega) (by omega) ?_
        refine ir_cVR (pc' := 36) rfl rfl rfl rfl rfl (Nat.le_of_ble_eq_true rfl) oo_X4_rootAt (gG_at tsk_1) (sf_rootAt4 L ys (d + 4) s_25 hT_25 ((q25_l3 - 1)) (by omega) (by omega) ) (fun b20 s21 hr => ?_)
        obtain ⟨hT21, hG21, b20k⟩ := hr
        have hF21 := fr_trans hF_25 hG21 (by decide)
        have e22 : s21.1 1 4 = w25_1_4 := (hG21.1 _ _ tsk_1 4 (by decide)).trans w25_1_4e
        have e23 : s21.1 1 1 = ((83 : Nat) : Int) := (hG21.1 _ _ tsk_1 1 (by decide)).trans w25_1_1e
        have e24 : s21.1 83 2 = ((310 : Nat) : Int) := (hG21.1 _ _ tsk_10 2 (by decide)).trans w25_83_2e
        refine ir_s (pc' := 38) rfl rfl rfl rfl rfl rfl ?_
        refine ir_l (pc' := 39) rfl rfl rfl rfl rfl rfl ?_
        refine ir_getR (pc' := 42) rfl rfl rfl (gG_at tsk_1) rfl e23 ?_
        refine ir_l (pc' := 43) rfl rfl rfl rfl rfl rfl ?_
        refine ir_l (pc' := 45) rfl rfl rfl rfl rfl rfl ?_
        refine ir_cVI (pc' := 48) rfl rfl rfl rfl rfl (Nat.le_of_ble_eq_true rfl) oo_X3_compareQuickly (gG_at tsk_10) (sf_compareQuickly3 L ys d s21 hT21 q25_l2 q25_l2k b20 b20k ) (fun z25 s26 hr => ?_)
        obtain ⟨hT26, hG26, z25l, z25h⟩ := hr
        have hF26 := fr_trans hF21 hG26 (by decide)
        have e27 : s26.1 1 4 = w25_1_4 := (hG26.1 _ _ tsk_1 4 (by decide)).trans e22
        have e28 : s26.1 1 1 = ((83 : Nat) : Int) := (hG26.1 _ _ tsk_1 1 (by decide)).trans e23
        have e29 : s26.1 83 2 = ((310 : Nat) : Int) := (hG26.1 _ _ tsk_10 2 (by decide)).trans e24
        refine ir_s (pc' := 50) rfl rfl rfl rfl rfl rfl ?_
        refine ir_l (pc' := 52) rfl rfl rfl rfl rfl rfl ?_
        refine ir_z_ne (pt := 79) (pc' := 55) rfl rfl rfl (fun c30 => ?_) (fun c30 => ?_)
        · refine ir_w [(0, (2, ((1 : Nat) : Int))), (1, (0, x1)), (2, (2, ((q25_l2 : Nat) : Int))), (3, (0, q25_l3)), (5, (0, z25))] ⟨rfl, rfl, rfl, rfl, rfl, trivial⟩ ?_
          exact J79 (z25) (by omega) (by omega) (by omega) s26 hT26 hF26 e28 (w25_1_4) (by omega) (by omega) e27 e29
        · refine ir_l (pc' := 56) rfl rfl rfl rfl rfl rfl ?_
          refine ir_tgi (pc' := 59) rfl rfl rfl tf_23_0 q25_l2k hT26 (fun z31 z31e z31l z31h => ?_)
          refine ir_l (pc' := 61) rfl rfl rfl rfl rfl rfl ?_
          refine ir_tgi (pc' := 64) rfl rfl rfl tf_23_0 b20k hT26 (fun z32 z32e z32l z32h => ?_)
          refine ir_c_eq (pt := 79) (pc' := 67) rfl rfl rfl (fun c33 => ?_) (fun c33 => ?_)
          · refine ir_w [(0, (2, ((1 : Nat) : Int))), (1, (0, x1)), (2, (2, ((q25_l2 : Nat) : Int))), (3, (0, q25_l3)), (5, (0, z25))] ⟨rfl, rfl, rfl, rfl, rfl, trivial⟩ ?_
            exact J79 (z25) (by omega) (by omega) (by omega) s26 hT26 hF26 e28 (w25_1_4) (by omega) (by omega) e27 e29
          · refine ir_l (pc' := 68) rfl rfl rfl rfl rfl rfl ?_
            refine ir_getR (pc' := 71) rfl rfl rfl (gG_at tsk_1) rfl e28 ?_
            refine ir_l (pc' := 72) rfl rfl rfl rfl rfl rfl ?_
            refine ir_l (pc' := 74) rfl rfl rfl rfl rfl rfl ?_
            refine ir_cVI (pc' := 77) rfl rfl rfl rfl rfl (Nat.le_of_ble_eq_true rfl) oo_X3_compareDeeply (gG_at tsk_10) (sf_compareDeeply3 L ys d s26 hT26 q25_l2 q25_l2k b20 b20k ) (fun z34 s35 hr => ?_)
            obtain ⟨hT35, hG35, z34l, z34h⟩ := hr
            have hF35 := fr_trans hF26 hG35 (by decide)
            have e36 : s35.1 1 4 = w25_1_4 := (hG35.1 _ _ tsk_1 4 (by decide)).trans e27
            have e37 : s35.1 1 1 = ((83 : Nat) : Int) := (hG35.1 _ _ tsk_1 1 (by decide)).trans e28
            have e38 : s35.1 83 2 = ((310 : Nat) : Int) := (hG35.1 _ _ tsk_10 2 (by decide)).trans e29
            have e39 : s35.1 q25_l2 0 = z31 := (hG35.1 _ _ q25_l2k 0 (by decide)).trans z31e
            refine ir_s (pc' := 79) rfl rfl rfl rfl rfl rfl ?_
            refine ir_w [(0, (2, ((1 : Nat) : Int))), (1, (0, x1)), (2, (2, ((q25_l2 : Nat) : Int))), (3, (0, q25_l3)), (5, (0, z34))] ⟨rfl, rfl, rfl, rfl, rfl, trivial⟩ ?_
            exact J79 (z34) (by omega) (by omega) (by omega) s35 hT35 hF35 e37 (w25_1_4) (by omega) (by omega) e36 e38
  refine ir_l (pc' := 1) rfl rfl rfl rfl rfl rfl ?_
  refine ir_tgi (pc' := 4) rfl rfl rfl tf_1_4 tsk_1 hT0 (fun z40 z40e z40l z40h => ?_)
  refine ir_k (pc' := 6) (v := (0, 80)) rfl rfl rfl (fun _ => rfl) ?_
  refine ir_c_lt (pt := 10) (pc' := 9) rfl rfl rfl (fun c41 => ?_) (fun c41 => ?_)
  · refine ir_l (pc' := 11) rfl rfl rfl rfl rfl rfl ?_
    refine ir_tgr (pc' := 14) rfl rfl rfl tf_1_1 tsk_1 hT0 (fun b42 b42e b42k => ?_)
    obtain rfl := tsg_10 b42k
    refine ir_tgr (pc' := 17) rfl rfl rfl tf_10_2 tsk_10 hT0 (fun b43 b43e b43k => ?_)
    obtain rfl := tsg_24 b43k
    refine ir_l (pc' := 18) rfl rfl rfl rfl rfl rfl ?_
    refine ir_taa (pc' := 19) (k2 := 23) rfl rfl te_24 (by decide) tsk_24 hT0 (by omega) (by omega) (fun b44 b44k => ?_)
    refine ir_s (pc' := 20) rfl rfl rfl rfl rfl rfl ?_
    refine ir_l (pc' := 21) rfl rfl rfl rfl rfl rfl ?_
    refine ir_getI (pc' := 24) rfl rfl rfl (gG_at tsk_1) rfl (by decide) (by decide) z40e (by omega) (by omega) ?_
    refine ir_s (pc' := 25) rfl rfl rfl rfl rfl rfl ?_
    refine ir_w [(0, (2, ((1 : Nat) : Int))), (1, (0, x1)), (2, (2, ((b44 : Nat) : Int))), (3, (0, z40))] ⟨rfl, rfl, rfl, rfl, trivial⟩ ?_
    exact J25 _ b44 b44k (z40) (by omega) (by omega) s0 hT0 hF0 b42e (z40) (by omega) (by omega) z40e b43e (Int.self_le_toNat _)
  · exact ir_vret rfl rfl ⟨rfl, hT0, hF0⟩
theorem sf_rootsOf4 (L : Nat) (ys : Nat → Int32) (d : Nat) (s0 : im_S) (hT0 : tI s0) (x1 : Int) (x1l : 0 ≤ x1) (x1h : x1 ≤ 9) : icI gG rm_P L ys 0 (d + 3) 158 [(2, ((1 : Nat) : Int)), (0, x1)] s0 (fun z s => tI s ∧ fr [] s0 s ∧ -2147483648 ≤ z ∧ z ≤ 2147483647) := by
  refine ic_startM (M := rm_p_X4_rootsOf) om_X4_rootsOf (Nat.le_of_ble_eq_true rfl) ?_
  refine ir_w [(0, (2, ((1 : Nat) : Int))), (1, (0, x1))] ⟨rfl, rfl, trivial⟩ ?_
  have hF0 := fr_refl [] s0
  have J4 : ∀ n : Nat, ∀ (q4_l2 : Int) (q4_l2l : -2147483648 ≤ q4_l2) (q4_l2h : q4_l2 ≤ 2147483647) (q4_l3 : Int) (q4_l3l : 0 ≤ q4_l3) (q4_l3h : q4_l3 ≤ 80) (s_4 : im_S) (hT_4 : tI s_4) (hF_4 : fr [] s0 s_4), (80 + 1 - q4_l3) ≤ (n : Int) → ir gG rm_P L ys (d + 2) rm_p_X4_rootsOf (4, [(0, (2, ((1 : Nat) : Int))), (1, (0, x1)), (2, (0, q4_l2)), (3, (0, q4_l3))], [], s_4) (fun r : im_Re => ∃ z, r.1 = some (0, z) ∧ (tI r.2 ∧ fr [] s0 r.2 ∧ -2147483648 ≤ z ∧ z ≤ 2147483647)) := by
    intro n
    induction n with
    | zero => intro q4_l2 q4_l2l q4_l2h q4_l3 q4_l3l q4_l3h s_4 hT_4 hF_4 hr; exfalso; omega
    | succ n ih4 =>
      intro q4_l2 q4_l2l q4_l2h q4_l3 q4_l3l q4_l3h s_4 hT_4 hF_4 hr
      have J37 : ∀ (q37_s0 : Int) (q37_s0l : -2147483648 ≤ q37_s0) (q37_s0h : q37_s0 ≤ 2147483647) (q37_s1 : Int) (q37_s1l : 0 ≤ q37_s1) (q37_s1h : q37_s1 ≤ 1) (f37_3h : q4_l3 ≤ 79) (s_37 : im_S) (hT_37 : tI s_37) (hF_37 : fr [] s0 s_37) (w37_1_2e : s_37.1 1 2 = ((84 : Nat) : Int)) (w37_1_4 : Int) (w37_1_4l : 1 ≤ w37_1_4) (w37_1_4h : w37_1_4 ≤ 80) (w37_1_4e : s_37.1 1 4 = w37_1_4), ir gG rm_P L ys (d + 2) rm_p_X4_rootsOf (37, [(0, (2, ((1 : Nat) : Int))), (1, (0, x1)), (3, (0, q4_l3))], [(0, q37_s1), (0, q37_s0)], s_37) (fun r : im_Re => ∃ z, r.1 = some (0, z) ∧ (tI r.2 ∧ fr [] s0 r.2 ∧ -2147483648 ≤ z ∧ z ≤ 2147483647)) := by
        intro q37_s0 q37_s0l q37_s0h q37_s1 q37_s1l q37_s1h f37_3h s_37 hT_37 hF_37 w37_1_2e w37_1_4 w37_1_4l w37_1_4h w37_1_4e
        refine ir_iiA (pc' := 38) rfl rfl rfl rfl (fun z1 z1l z1h => ?_)
        refine ir_s (pc' := 39) rfl rfl rfl rfl rfl rfl ?_
        refine ir_inc (pc' := 42) rfl rfl rfl rfl rfl (by omega) (by omega) ?_
        refine ir_goto (pc' := 4) rfl rfl ?_
        refine ir_w [(0, (2, ((1 : Nat) : Int))), (1, (0, x1)), (2, (0, z1)), (3, (0, (q4_l3 + 1)))] ⟨rfl, rfl, rfl, rfl, trivial⟩ ?_
        exact ih4 (z1) (by omega) (by omega) ((q4_l3 + 1)) (by omega) (by omega) s_37 hT_37 hF_37 (by omega)
      refine ir_l (pc' := 5) rfl rfl rfl rfl rfl rfl ?_
      refine ir_l (pc' := 6) rfl rfl rfl rfl rfl rfl ?_
      refine ir_tgi (pc' := 9) rfl rfl rfl tf_1_4 tsk_1 hT_4 (fun z2 z2e z2l z2h => ?_)
      refine ir_c_ge (pt := 45) (pc' := 12) rfl rfl rfl (fun c3 => ?_) (fun c3 => ?_)
      · refine ir_l (pc' := 46) rfl rfl rfl rfl rfl rfl ?_
        exact ir_iret rfl rfl ⟨_, rfl, hT_4, hF_4, by omega, by omega⟩
      · refine ir_l (pc' := 13) rfl rfl rfl rfl rfl rfl ?_
        refine ir_l (pc' := 14) rfl rfl rfl rfl rfl rfl ?_
        refine ir_tgr (pc' := 17) rfl rfl rfl tf_1_2 tsk_1 hT_4 (fun b4 b4e b4k => ?_)
        obtain rfl := tsg_11 b4k
        refine ir_l (pc' := 18) rfl rfl rfl rfl rfl rfl ?_
        refine ir_l (pc' := 19) rfl rfl rfl rfl rfl rfl ?_
        refine ir_cVR (pc' := 22) rfl rfl rfl rfl rfl (Nat.le_of_ble_eq_true rfl) oo_X4_rootAt (gG_at tsk_1) (sf_rootAt4 L ys d s_4 hT_4 (q4_l3) (by omega) (by omega) ) (fun b5 s6 hr => ?_)
        obtain ⟨hT6, hG6, b5k⟩ := hr
        have hF6 := fr_trans hF_4 hG6 (by decide)
        have e7 : s6.1 1 4 = z2 := (hG6.1 _ _ tsk_1 4 (by decide)).trans z2e
        have e8 : s6.1 1 2 = ((84 : Nat) : Int) := (hG6.1 _ _ tsk_1 2 (by decide)).trans b4e
        refine ir_tgi (pc' := 25) rfl rfl rfl tf_23_0 b5k hT6 (fun z9 z9e z9l z9h => ?_)
        refine ir_l (pc' := 26) rfl rfl rfl rfl rfl rfl ?_
        refine ir_cVI (pc' := 29) rfl rfl rfl rfl rfl (Nat.le_of_ble_eq_true rfl) oo_X0_multiplicity (gG_at tsk_11) (sf_multiplicity0 L ys (d + 1) s6 hT6 (z9) (by omega) (by omega) (x1) (by omega) (by omega) ) (fun z10 s11 hr => ?_)
        obtain ⟨hT11, hG11, z10l, z10h⟩ := hr
        have hF11 := fr_trans hF6 hG11 (by decide)
        have e12 : s11.1 1 4 = z2 := (hG11.1 _ _ tsk_1 4 (by decide)).trans e7
        have e13 : s11.1 1 2 = ((84 : Nat) : Int) := (hG11.1 _ _ tsk_1 2 (by decide)).trans e8
        have e14 : s11.1 b5 0 = z9 := (hG11.1 _ _ b5k 0 (by decide)).trans z9e
        refine ir_z_le (pt := 36) (pc' := 32) rfl rfl rfl (fun c15 => ?_) (fun c15 => ?_)
        · refine ir_k (pc' := 37) (v := (0, 0)) rfl rfl rfl (fun _ => rfl) ?_
          refine ir_w [(0, (2, ((1 : Nat) : Int))), (1, (0, x1)), (3, (0, q4_l3))] ⟨rfl, rfl, rfl, trivial⟩ ?_
          exact J37 (q4_l2) (by omega) (by omega) (0) (by omega) (by omega) (by omega) s11 hT11 hF11 e13 (z2) (by omega) (by omega) e12
        · refine ir_k (pc' := 33) (v := (0, 1)) rfl rfl rfl (fun _ => rfl) ?_
          refine ir_goto (pc' := 37) rfl rfl ?_
          refine ir_w [(0, (2, ((1 : Nat) : Int))), (1, (0, x1)), (3, (0, q4_l3))] ⟨rfl, rfl, rfl, trivial⟩ ?_
          exact J37 (q4_l2) (by omega) (by omega) (1) (by omega) (by omega) (by omega) s11 hT11 hF11 e13 (z2) (by omega) (by omega) e12
  refine ir_k (pc' := 1) (v := (0, 0)) rfl rfl rfl (fun _ => rfl) ?_
  refine ir_s (pc' := 2) rfl rfl rfl rfl rfl rfl ?_
  refine ir_k (pc' := 3) (v := (0, 0)) rfl rfl rfl (fun _ => rfl) ?_
  refine ir_s (pc' := 4) rfl rfl rfl rfl rfl rfl ?_
  refine ir_w [(0, (2, ((1 : Nat) : Int))), (1, (0, x1)), (2, (0, 0)), (3, (0, 0))] ⟨rfl, rfl, rfl, rfl, trivial⟩ ?_
  exact J4 _ (0) (by omega) (by omega) (0) (by omega) (by omega) s0 hT0 hF0 (Int.self_le_toNat _)
theorem sf_fail7 (L : Nat) (ys : Nat → Int32) (d : Nat) (s0 : im_S) (hT0 : tI s0) (x1 : Int) (x1l : 1 ≤ x1) (x1h : x1 ≤ 3) (x2 : Int) (x2l : 0 ≤ x2) (x2h : x2 ≤ 400) : icV gG rm_P L ys (d + 1) 183 [(2, ((2 : Nat) : Int)), (0, x1), (0, x2)] s0 (fun s => tI s ∧ fr [(2, 3), (2, 4), (2, 5)] s0 s ∧ s.1 2 4 ≠ 0) := by
  refine ic_startM (M := rm_p_X7_fail) om_X7_fail (Nat.le_of_ble_eq_true rfl) ?_
  refine ir_w [(0, (2, ((2 : Nat) : Int))), (1, (0, x1)), (2, (0, x2))] ⟨rfl, rfl, rfl, trivial⟩ ?_
  have hF0 := fr_refl [(2, 3), (2, 4), (2, 5)] s0
  have J17 : ∀ (s_17 : im_S) (hT_17 : tI s_17) (hF_17 : fr [(2, 3), (2, 4), (2, 5)] s0 s_17) (w17_2_4 : Int) (w17_2_4l : 1 ≤ w17_2_4) (w17_2_4h : w17_2_4 ≤ 3) (w17_2_4e : s_17.1 2 4 = w17_2_4), ir gG rm_P L ys d rm_p_X7_fail (17, [(0, (2, ((2 : Nat) : Int)))], [], s_17) (fun r : im_Re => r.1 = none ∧ (tI r.2 ∧ fr [(2, 3), (2, 4), (2, 5)] s0 r.2 ∧ r.2.1 2 4 ≠ 0)) := by
    intro s_17 hT_17 hF_17 w17_2_4 w17_2_4l w17_2_4h w17_2_4e
    refine ir_l (pc' := 18) rfl rfl rfl rfl rfl rfl ?_
    refine ir_k (pc' := 19) (v := (0, 1)) rfl rfl rfl (fun _ => rfl) ?_
    refine ir_tpi (pc' := 22) rfl rfl rfl tf_2_3 rfl tsk_2 hT_17 rfl (by omega) (by omega) (fun s1 hT1 e1 g1 r1 => ?_)
    have hF1 := fr_put (k := 2) hF_17 (by decide) tsk_2 g1 r1
    have e2 : s1.1 2 4 = w17_2_4 := (g1 2 4 (fun z => absurd z.2 (by decide))).trans w17_2_4e
    exact ir_vret rfl rfl ⟨rfl, hT1, hF1, (by first | omega | (dsimp only; omega))⟩
  obtain ⟨z3, z3e, z3l, z3h⟩ := tI_i tf_2_4 tsk_2 hT0
  refine ir_l (pc' := 1) rfl rfl rfl rfl rfl rfl ?_
  refine ir_getI (pc' := 4) rfl rfl rfl (gG_at tsk_2) rfl (by decide) (by decide) z3e (by omega) (by omega) ?_
  refine ir_z_ne (pt := 17) (pc' := 7) rfl rfl rfl (fun c4 => ?_) (fun c4 => ?_)
  · refine ir_w [(0, (2, ((2 : Nat) : Int)))] ⟨rfl, trivial⟩ ?_
    exact J17 s0 hT0 hF0 (z3) (by omega) (by omega) z3e
  · refine ir_l (pc' := 8) rfl rfl rfl rfl rfl rfl ?_
    refine ir_l (pc' := 9) rfl rfl rfl rfl rfl rfl ?_
    refine ir_tpi (pc' := 12) rfl rfl rfl tf_2_4 rfl tsk_2 hT0 rfl (by omega) (by omega) (fun s5 hT5 e5 g5 r5 => ?_)
    have hF5 := fr_put (k := 2) hF0 (by decide) tsk_2 g5 r5
    refine ir_l (pc' := 13) rfl rfl rfl rfl rfl rfl ?_
    refine ir_l (pc' := 14) rfl rfl rfl rfl rfl rfl ?_
    refine ir_tpi (pc' := 17) rfl rfl rfl tf_2_5 rfl tsk_2 hT5 rfl (by omega) (by omega) (fun s6 hT6 e6 g6 r6 => ?_)
    have hF6 := fr_put (k := 2) hF5 (by decide) tsk_2 g6 r6
    have e7 : s6.1 2 4 = x1 := (g6 2 4 (fun z => absurd z.2 (by decide))).trans e5
    refine ir_w [(0, (2, ((2 : Nat) : Int)))] ⟨rfl, trivial⟩ ?_
    exact J17 s6 hT6 hF6 (x1) (by omega) (by omega) e7
theorem sf_accept7 (L : Nat) (ys : Nat → Int32) (d : Nat) (s0 : im_S) (hT0 : tI s0) (a1 : Nat) (a1k : gK[a1]? = some 4) (x2 : Int) (x2l : 0 ≤ x2) (x2h : x2 ≤ 400) (pr0 : s0.1 2 2 ≤ s0.1 2 1) (pr1 : (s0.1 2 4 ≠ 0 ∨ s0.1 2 3 = 0 ∨ s0.1 2 2 < s0.1 2 1)) : icV gG rm_P L ys (d + 2) 179 [(2, ((2 : Nat) : Int)), (2, (a1 : Int)), (0, x2)] s0 (fun s => tI s ∧ fr [(2, 3), (2, 4), (2, 5), (4, 0)] s0 s ∧ s.1 2 2 ≤ s.1 2 1 ∧ (s.1 2 4 ≠ 0 ∨ s.1 2 3 = 0 ∨ s.1 2 2 < s.1 2 1)) := by
  refine ic_startM (M := rm_p_X7_accept) om_X7_accept (Nat.le_of_ble_eq_true rfl) ?_
  refine ir_w [(0, (2, ((2 : Nat) : Int))), (1, (2, ((a1 : Nat) : Int))), (2, (0, x2))] ⟨rfl, rfl, rfl, trivial⟩ ?_
  have hF0 := fr_refl [(2, 3), (2, 4), (2, 5), (4, 0)] s0
  have J10 : ∀ n : Nat, ∀ (q10_l3 : Int) (q10_l3l : 0 ≤ q10_l3) (q10_l3h : q10_l3 ≤ 9) (s_10 : im_S) (hT_10 : tI s_10) (hF_10 : fr [(2, 3), (2, 4), (2, 5), (4, 0)] s0 s_10) (w10_2_1 : Int) (w10_2_1l : 0 ≤ w10_2_1) (w10_2_1h : w10_2_1 ≤ 400) (w10_2_1e : s_10.1 2 1 = w10_2_1) (w10_2_2 : Int) (w10_2_2l : 0 ≤ w10_2_2) (w10_2_2h : w10_2_2 ≤ 400) (w10_2_2e : s_10.1 2 2 = w10_2_2) (w10_2_3 : Int) (w10_2_3l : 0 ≤ w10_2_3) (w10_2_3h : w10_2_3 ≤ 65535) (w10_2_3e : s_10.1 2 3 = w10_2_3) (w10_2_4 : Int) (w10_2_4l : 0 ≤ w10_2_4) (w10_2_4h : w10_2_4 ≤ 0) (w10_2_4e : s_10.1 2 4 = w10_2_4) (i10_0 : w10_2_2 ≤ w10_2_1) (i10_1 : (w10_2_4 ≠ 0 ∨ w10_2_3 = 0 ∨ w10_2_2 < w10_2_1)), (9 + 1 - q10_l3) ≤ (n : Int) → ir gG rm_P L ys (d + 1) rm_p_X7_accept (10, [(0, (2, ((2 : Nat) : Int))), (1, (2, ((a1 : Nat) : Int))), (2, (0, x2)), (3, (0, q10_l3))], [], s_10) (fun r : im_Re => r.1 = none ∧ (tI r.2 ∧ fr [(2, 3), (2, 4), (2, 5), (4, 0)] s0 r.2 ∧ r.2.1 2 2 ≤ r.2.1 2 1 ∧ (r.2.1 2 4 ≠ 0 ∨ r.2.1 2 3 = 0 ∨ r.2.1 2 2 < r.2.1 2 1))) := by
    intro n
    induction n with
    | zero => intro q10_l3 q10_l3l q10_l3h s_10 hT_10 hF_10 w10_2_1 w10_2_1l w10_2_1h w10_2_1e w10_2_2 w10_2_2l w10_2_2h w10_2_2e w10_2_3 w10_2_3l w10_2_3h w10_2_3e w10_2_4 w10_2_4l w10_2_4h w10_2_4e i10_0 i10_1 hr; exfalso; omega
    | succ n ih10 =>
      intro q10_l3 q10_l3l q10_l3h s_10 hT_10 hF_10 w10_2_1 w10_2_1l w10_2_1h w10_2_1e w10_2_2 w10_2_2l w10_2_2h w10_2_2e w10_2_3 w10_2_3l w10_2_3h w10_2_3e w10_2_4 w10_2_4l w10_2_4h w10_2_4e i10_0 i10_1 hr
      refine ir_l (pc' := 11) rfl rfl rfl rfl rfl rfl ?_
      refine ir_k (pc' := 13) (v := (0, 8)) rfl rfl rfl (fun _ => rfl) ?_
      refine ir_c_gt (pt := 57) (pc' := 16) rfl rfl rfl (fun c1 => ?_) (fun c1 => ?_)
      · refine ir_l (pc' := 58) rfl rfl rfl rfl rfl rfl ?_
        refine ir_cVV (pc' := 61) rfl rfl rfl rfl rfl (Nat.le_of_ble_eq_true rfl) oo_X6_measure (gG_at a1k) (sf_measure6 L ys d s_10 hT_10 a1 a1k ) (fun s3 hr => ?_)
        obtain ⟨hT3, hG3⟩ := hr
        have hF3 := fr_trans hF_10 hG3 (by decide)
        have e4 : s3.1 2 1 = w10_2_1 := (hG3.1 _ _ tsk_2 1 (by decide)).trans w10_2_1e
        have e5 : s3.1 2 2 = w10_2_2 := (hG3.1 _ _ tsk_2 2 (by decide)).trans w10_2_2e
        have e6 : s3.1 2 3 = w10_2_3 := (hG3.1 _ _ tsk_2 3 (by decide)).trans w10_2_3e
        have e7 : s3.1 2 4 = w10_2_4 := (hG3.1 _ _ tsk_2 4 (by decide)).trans w10_2_4e
        exact ir_vret rfl rfl ⟨rfl, hT3, hF3, (by first | omega | (dsimp only; omega)), (by first | omega | (dsimp only; omega))⟩
      · refine ir_l (pc' := 17) rfl rfl rfl rfl rfl rfl ?_
        refine ir_tgr (pc' := 20) rfl rfl rfl tf_2_8 tsk_2 hT_10 (fun b8 b8e b8k => ?_)
        refine ir_l (pc' := 21) rfl rfl rfl rfl rfl rfl ?_
        refine ir_tla (pc' := 22) rfl rfl te_6 (by decide) b8k hT_10 (by omega) (by omega) (fun z9 z9e z9l z9h => ?_)
        clear z9e
        refine ir_cSI (pc' := 25) rfl rfl rfl rfl rfl rfl (Nat.le_of_ble_eq_true rfl) (sf_absJ L ys d s_10 (z9) (by omega) (by omega)) (fun z10 s11 hr => ?_)
        obtain ⟨rfl, z10p0, z10p1, z10p2⟩ := hr
        refine ir_k (pc' := 28) (v := (1, 1000000000)) rfl rfl rfl (fun _ => rfl) ?_
        refine ir_lcmp (pc' := 29) rfl rfl (by omega) (by omega) (by omega) (by omega) (fun z12 z12c => ?_)
        refine ir_z_le (pt := 39) (pc' := 32) rfl rfl rfl (fun c13 => ?_) (fun c13 => ?_)
        · refine ir_l (pc' := 40) rfl rfl rfl rfl rfl rfl ?_
          refine ir_tgr (pc' := 43) rfl rfl rfl tf_4_1 a1k hT_10 (fun b14 b14e b14k => ?_)
          refine ir_l (pc' := 44) rfl rfl rfl rfl rfl rfl ?_
          refine ir_l (pc' := 45) rfl rfl rfl rfl rfl rfl ?_
          refine ir_getR (pc' := 48) rfl rfl rfl (gG_at tsk_2) rfl b8e ?_
          refine ir_l (pc' := 49) rfl rfl rfl rfl rfl rfl ?_
          refine ir_tla (pc' := 50) rfl rfl te_6 (by decide) b8k hT_10 (by omega) (by omega) (fun z15 z15e z15l z15h => ?_)
          clear z15e
          refine ir_tls (pc' := 51) rfl rfl te_6 b14k hT_10 (by omega) (by omega) (by omega) (by omega) (fun s16 hT16 r16 o16 => ?_)
          have hF16 := fr_row hF_10 r16 o16
          have e17 : s16.1 2 1 = w10_2_1 := by rw [r16]; exact w10_2_1e
          have e18 : s16.1 2 2 = w10_2_2 := by rw [r16]; exact w10_2_2e
          have e19 : s16.1 2 3 = w10_2_3 := by rw [r16]; exact w10_2_3e
          have e20 : s16.1 2 4 = w10_2_4 := by rw [r16]; exact w10_2_4e
          have e21 : s16.1 2 8 = ((b8 : Nat) : Int) := by rw [r16]; exact b8e
          have e22 : s16.1 a1 1 = ((b14 : Nat) : Int) := by rw [r16]; exact b14e
          refine ir_inc (pc' := 54) rfl rfl rfl rfl rfl (by omega) (by omega) ?_
          refine ir_goto (pc' := 10) rfl rfl ?_
          refine ir_w [(0, (2, ((2 : Nat) : Int))), (1, (2, ((a1 : Nat) : Int))), (2, (0, x2)), (3, (0, (q10_l3 + 1)))] ⟨rfl, rfl, rfl, rfl, trivial⟩ ?_
          exact ih10 ((q10_l3 + 1)) (by omega) (by omega) s16 hT16 hF16 (w10_2_1) (by omega) (by omega) e17 (w10_2_2) (by omega) (by omega) e18 (w10_2_3) (by omega) (by omega) e19 (w10_2_4) (by omega) (by omega) e20 (by omega) (by omega) (by omega)
        · refine ir_l (pc' := 33) rfl rfl rfl rfl rfl rfl ?_
          refine ir_k (pc' := 34) (v := (0, 3)) rfl rfl rfl (fun _ => rfl) ?_
          refine ir_l (pc' := 35) rfl rfl rfl rfl rfl rfl ?_
          refine ir_cVV (pc' := 38) rfl rfl rfl rfl rfl (Nat.le_of_ble_eq_true rfl) oo_X7_fail (gG_at tsk_2) (sf_fail7 L ys d s_10 hT_10 (3) (by omega) (by omega) (x2) (by omega) (by omega) ) (fun s24 hr => ?_)
          obtain ⟨hT24, hG24, p24_0⟩ := hr
          have hF24 := fr_trans hF_10 hG24 (by decide)
          have e25 : s24.1 2 1 = w10_2_1 := (hG24.1 _ _ tsk_2 1 (by decide)).trans w10_2_1e
          have e26 : s24.1 2 2 = w10_2_2 := (hG24.1 _ _ tsk_2 2 (by decide)).trans w10_2_2e
          have e27 : s24.1 2 8 = ((b8 : Nat) : Int) := (hG24.1 _ _ tsk_2 8 (by decide)).trans b8e
          obtain ⟨z28, z28e, z28l, z28h⟩ := tI_i tf_2_3 tsk_2 hT24
          obtain ⟨z29, z29e, z29l, z29h⟩ := tI_i tf_2_4 tsk_2 hT24
          exact ir_vret rfl rfl ⟨rfl, hT24, hF24, (by first | omega | (dsimp only; omega)), (by first | omega | (dsimp only; omega))⟩
  obtain ⟨z30, z30e, z30l, z30h⟩ := tI_i tf_2_1 tsk_2 hT0
  obtain ⟨z31, z31e, z31l, z31h⟩ := tI_i tf_2_2 tsk_2 hT0
  obtain ⟨z32, z32e, z32l, z32h⟩ := tI_i tf_2_3 tsk_2 hT0
  obtain ⟨z33, z33e, z33l, z33h⟩ := tI_i tf_2_4 tsk_2 hT0
  refine ir_l (pc' := 1) rfl rfl rfl rfl rfl rfl ?_
  refine ir_getI (pc' := 4) rfl rfl rfl (gG_at tsk_2) rfl (by decide) (by decide) z33e (by omega) (by omega) ?_
  refine ir_z_eq (pt := 8) (pc' := 7) rfl rfl rfl (fun c34 => ?_) (fun c34 => ?_)
  · refine ir_k (pc' := 9) (v := (0, 0)) rfl rfl rfl (fun _ => rfl) ?_
    refine ir_s (pc' := 10) rfl rfl rfl rfl rfl rfl ?_
    refine ir_w [(0, (2, ((2 : Nat) : Int))), (1, (2, ((a1 : Nat) : Int))), (2, (0, x2)), (3, (0, 0))] ⟨rfl, rfl, rfl, rfl, trivial⟩ ?_
    exact J10 _ (0) (by omega) (by omega) s0 hT0 hF0 (z30) (by omega) (by omega) z30e (z31) (by omega) (by omega) z31e (z32) (by omega) (by omega) z32e (z33) (by omega) (by omega) z33e (by omega) (by omega) (Int.self_le_toNat _)
  · exact ir_vret rfl rfl ⟨rfl, hT0, hF0, (by first | omega | (dsimp only; omega)), (by first | omega | (dsimp only; omega))⟩
theorem sf_addTo7 (L : Nat) (ys : Nat → Int32) (d : Nat) (s0 : im_S) (hT0 : tI s0) (a1 : Nat) (a1k : gK[a1]? = some 4) (a2 : Nat) (a2k : gK[a2]? = some 4) (x3 : Int) (x3l : -2147483648 ≤ x3) (x3h : x3 ≤ 2147483647) (x4 : Int) (x4l : 0 ≤ x4) (x4h : x4 ≤ 400) (pr0 : s0.1 2 2 ≤ s0.1 2 1) (pr1 : (s0.1 2 4 ≠ 0 ∨ s0.1 2 3 = 0 ∨ s0.1 2 2 < s0.1 2 1)) : icV gG rm_P L ys (d + 3) 180 [(2, ((2 : Nat) : Int)), (2, (a1 : Int)), (2, (a2 : Int)), (0, x3), (0, x4)] s0 (fun s => tI s ∧ fr [(2, 3), (2, 4), (2, 5), (4, 0)] s0 s ∧ s.1 2 2 ≤ s.1 2 1 ∧ (s.1 2 4 ≠ 0 ∨ s.1 2 3 = 0 ∨ s.1 2 2 < s.1 2 1)) := by
  refine ic_startM (M := rm_p_X7_addTo) om_X7_addTo (Nat.le_of_ble_eq_true rfl) ?_
  refine ir_w [(0, (2, ((2 : Nat) : Int))), (1, (2, ((a1 : Nat) : Int))), (2, (2, ((a2 : Nat) : Int))), (3, (0, x3)), (4, (0, x4))] ⟨rfl, rfl, rfl, rfl, rfl, trivial⟩ ?_
  have hF0 := fr_refl [(2, 3), (2, 4), (2, 5), (4, 0)] s0
  have J3 : ∀ n : Nat, ∀ (q3_l5 : Int) (q3_l5l : 0 ≤ q3_l5) (q3_l5h : q3_l5 ≤ 9) (s_3 : im_S) (hT_3 : tI s_3) (hF_3 : fr [(2, 3), (2, 4), (2, 5), (4, 0)] s0 s_3) (w3_2_1 : Int) (w3_2_1l : 0 ≤ w3_2_1) (w3_2_1h : w3_2_1 ≤ 400) (w3_2_1e : s_3.1 2 1 = w3_2_1) (w3_2_2 : Int) (w3_2_2l : 0 ≤ w3_2_2) (w3_2_2h : w3_2_2 ≤ 400) (w3_2_2e : s_3.1 2 2 = w3_2_2) (w3_2_3 : Int) (w3_2_3l : 0 ≤ w3_2_3) (w3_2_3h : w3_2_3 ≤ 65535) (w3_2_3e : s_3.1 2 3 = w3_2_3) (w3_2_4 : Int) (w3_2_4l : 0 ≤ w3_2_4) (w3_2_4h : w3_2_4 ≤ 3) (w3_2_4e : s_3.1 2 4 = w3_2_4) (i3_0 : w3_2_2 ≤ w3_2_1) (i3_1 : (w3_2_4 ≠ 0 ∨ w3_2_3 = 0 ∨ w3_2_2 < w3_2_1)), (9 + 1 - q3_l5) ≤ (n : Int) → ir gG rm_P L ys (d + 2) rm_p_X7_addTo (3, [(0, (2, ((2 : Nat) : Int))), (1, (2, ((a1 : Nat) : Int))), (2, (2, ((a2 : Nat) : Int))), (3, (0, x3)), (4, (0, x4)), (5, (0, q3_l5))], [], s_3) (fun r : im_Re => r.1 = none ∧ (tI r.2 ∧ fr [(2, 3), (2, 4), (2, 5), (4, 0)] s0 r.2 ∧ r.2.1 2 2 ≤ r.2.1 2 1 ∧ (r.2.1 2 4 ≠ 0 ∨ r.2.1 2 3 = 0 ∨ r.2.1 2 2 < r.2.1 2 1))) := by
    intro n
    induction n with
    | zero => intro q3_l5 q3_l5l q3_l5h s_3 hT_3 hF_3 w3_2_1 w3_2_1l w3_2_1h w3_2_1e w3_2_2 w3_2_2l w3_2_2h w3_2_2e w3_2_3 w3_2_3l w3_2_3h w3_2_3e w3_2_4 w3_2_4l w3_2_4h w3_2_4e i3_0 i3_1 hr; exfalso; omega
    | succ n ih3 =>
      intro q3_l5 q3_l5l q3_l5h s_3 hT_3 hF_3 w3_2_1 w3_2_1l w3_2_1h w3_2_1e w3_2_2 w3_2_2l w3_2_2h w3_2_2e w3_2_3 w3_2_3l w3_2_3h w3_2_3e w3_2_4 w3_2_4l w3_2_4h w3_2_4e i3_0 i3_1 hr
      refine ir_l (pc' := 5) rfl rfl rfl rfl rfl rfl ?_
      refine ir_k (pc' := 7) (v := (0, 8)) rfl rfl rfl (fun _ => rfl) ?_
      refine ir_c_gt (pt := 41) (pc' := 10) rfl rfl rfl (fun c1 => ?_) (fun c1 => ?_)
      · refine ir_l (pc' := 42) rfl rfl rfl rfl rfl rfl ?_
        refine ir_l (pc' := 43) rfl rfl rfl rfl rfl rfl ?_
        refine ir_l (pc' := 45) rfl rfl rfl rfl rfl rfl ?_
        refine ir_cVV (pc' := 48) rfl rfl rfl rfl rfl (Nat.le_of_ble_eq_true rfl) oo_X7_accept (gG_at tsk_2) (sf_accept7 L ys d s_3 hT_3 a1 a1k (x4) (by omega) (by omega) (by omega) (by omega)) (fun s3 hr => ?_)
        obtain ⟨hT3, hG3, p3_0, p3_1⟩ := hr
        have hF3 := fr_trans hF_3 hG3 (by decide)
        have e4 : s3.1 2 1 = w3_2_1 := (hG3.1 _ _ tsk_2 1 (by decide)).trans w3_2_1e
        have e5 : s3.1 2 2 = w3_2_2 := (hG3.1 _ _ tsk_2 2 (by decide)).trans w3_2_2e
        obtain ⟨z6, z6e, z6l, z6h⟩ := tI_i tf_2_3 tsk_2 hT3
        obtain ⟨z7, z7e, z7l, z7h⟩ := tI_i tf_2_4 tsk_2 hT3
        exact ir_vret rfl rfl ⟨rfl, hT3, hF3, (by first | omega | (dsimp only; omega)), (by first | omega | (dsimp only; omega))⟩
      · refine ir_l (pc' := 11) rfl rfl rfl rfl rfl rfl ?_
        refine ir_tgr (pc' := 14) rfl rfl rfl tf_2_8 tsk_2 hT_3 (fun b8 b8e b8k => ?_)
        refine ir_l (pc' := 16) rfl rfl rfl rfl rfl rfl ?_
        refine ir_l (pc' := 17) rfl rfl rfl rfl rfl rfl ?_
        refine ir_tgr (pc' := 20) rfl rfl rfl tf_4_1 a1k hT_3 (fun b9 b9e b9k => ?_)
        refine ir_l (pc' := 22) rfl rfl rfl rfl rfl rfl ?_
        refine ir_tla (pc' := 23) rfl rfl te_6 (by decide) b9k hT_3 (by omega) (by omega) (fun z10 z10e z10l z10h => ?_)
        clear z10e
        refine ir_l (pc' := 24) rfl rfl rfl rfl rfl rfl ?_
        refine ir_i2l (pc' := 25) rfl rfl (by omega) (by omega) ?_
        refine ir_l (pc' := 26) rfl rfl rfl rfl rfl rfl ?_
        refine ir_tgr (pc' := 29) rfl rfl rfl tf_4_1 a2k hT_3 (fun b11 b11e b11k => ?_)
        refine ir_l (pc' := 31) rfl rfl rfl rfl rfl rfl ?_
        refine ir_tla (pc' := 32) rfl rfl te_6 (by decide) b11k hT_3 (by omega) (by omega) (fun z12 z12e z12l z12h => ?_)
        clear z12e
        refine ir_jjA (pc' := 33) rfl rfl rfl rfl (fun z13 z13l z13h => ?_)
        refine ir_jjA (pc' := 34) rfl rfl rfl rfl (fun z14 z14l z14h => ?_)
        refine ir_tls (pc' := 35) rfl rfl te_6 b8k hT_3 (by omega) (by omega) (by omega) (by omega) (fun s15 hT15 r15 o15 => ?_)
        have hF15 := fr_row hF_3 r15 o15
        have e16 : s15.1 2 1 = w3_2_1 := by rw [r15]; exact w3_2_1e
        have e17 : s15.1 2 2 = w3_2_2 := by rw [r15]; exact w3_2_2e
        have e18 : s15.1 2 3 = w3_2_3 := by rw [r15]; exact w3_2_3e
        have e19 : s15.1 2 4 = w3_2_4 := by rw [r15]; exact w3_2_4e
        have e20 : s15.1 2 8 = ((b8 : Nat) : Int) := by rw [r15]; exact b8e
        have e21 : s15.1 a1 1 = ((b9 : Nat) : Int) := by rw [r15]; exact b9e
        have e22 : s15.1 a2 1 = ((b11 : Nat) : Int) := by rw [r15]; exact b11e
        refine ir_inc (pc' := 38) rfl rfl rfl rfl rfl (by omega) (by omega) ?_
        refine ir_goto (pc' := 3) rfl rfl ?_
        refine ir_w [(0, (2, ((2 : Nat) : Int))), (1, (2, ((a1 : Nat) : Int))), (2, (2, ((a2 : Nat) : Int))), (3, (0, x3)), (4, (0, x4)), (5, (0, (q3_l5 + 1)))] ⟨rfl, rfl, rfl, rfl, rfl, rfl, trivial⟩ ?_
        exact ih3 ((q3_l5 + 1)) (by omega) (by omega) s15 hT15 hF15 (w3_2_1) (by omega) (by omega) e16 (w3_2_2) (by omega) (by omega) e17 (w3_2_3) (by omega) (by omega) e18 (w3_2_4) (by omega) (by omega) e19 (by omega) (by omega) (by omega)
  obtain ⟨z23, z23e, z23l, z23h⟩ := tI_i tf_2_1 tsk_2 hT0
  obtain ⟨z24, z24e, z24l, z24h⟩ := tI_i tf_2_2 tsk_2 hT0
  obtain ⟨z25, z25e, z25l, z25h⟩ := tI_i tf_2_3 tsk_2 hT0
  obtain ⟨z26, z26e, z26l, z26h⟩ := tI_i tf_2_4 tsk_2 hT0
  refine ir_k (pc' := 1) (v := (0, 0)) rfl rfl rfl (fun _ => rfl) ?_
  refine ir_s (pc' := 3) rfl rfl rfl rfl rfl rfl ?_
  refine ir_w [(0, (2, ((2 : Nat) : Int))), (1, (2, ((a1 : Nat) : Int))), (2, (2, ((a2 : Nat) : Int))), (3, (0, x3)), (4, (0, x4)), (5, (0, 0))] ⟨rfl, rfl, rfl, rfl, rfl, rfl, trivial⟩ ?_
  exact J3 _ (0) (by omega) (by omega) s0 hT0 hF0 (z23) (by omega) (by omega) z23e (z24) (by omega) (by omega) z24e (z25) (by omega) (by omega) z25e (z26) (by omega) (by omega) z26e (by omega) (by omega) (Int.self_le_toNat _)
theorem sf_emit7 (L : Nat) (ys : Nat → Int32) (d : Nat) (s0 : im_S) (hT0 : tI s0) (x1 : Int) (x1l : -2147483648 ≤ x1) (x1h : x1 ≤ 2147483647) : icV gG rm_P L ys (d + 1) 181 [(2, ((2 : Nat) : Int)), (0, x1)] s0 (fun s => tI s ∧ fr [(2, 13)] s0 s) := by
  refine ic_startM (M := rm_p_X7_emit) om_X7_emit (Nat.le_of_ble_eq_true rfl) ?_
  refine ir_w [(0, (2, ((2 : Nat) : Int))), (1, (0, x1))] ⟨rfl, rfl, trivial⟩ ?_
  have hF0 := fr_refl [(2, 13)] s0
  have J30 : ∀ (s_30 : im_S) (hT_30 : tI s_30) (hF_30 : fr [(2, 13)] s0 s_30) (w30_2_13 : Int) (w30_2_13l : 1 ≤ w30_2_13) (w30_2_13h : w30_2_13 ≤ 160) (w30_2_13e : s_30.1 2 13 = w30_2_13), ir gG rm_P L ys d rm_p_X7_emit (30, [], [], s_30) (fun r : im_Re => r.1 = none ∧ (tI r.2 ∧ fr [(2, 13)] s0 r.2)) := by
    intro s_30 hT_30 hF_30 w30_2_13 w30_2_13l w30_2_13h w30_2_13e
    exact ir_vret rfl rfl ⟨rfl, hT_30, hF_30⟩
  refine ir_l (pc' := 1) rfl rfl rfl rfl rfl rfl ?_
  refine ir_tgi (pc' := 4) rfl rfl rfl tf_2_13 tsk_2 hT0 (fun z1 z1e z1l z1h => ?_)
  refine ir_k (pc' := 7) (v := (0, 160)) rfl rfl rfl (fun _ => rfl) ?_
  refine ir_c_ge (pt := 30) (pc' := 10) rfl rfl rfl (fun c2 => ?_) (fun c2 => ?_)
  · refine ir_w [] trivial ?_
    exact J30 s0 hT0 hF0 (z1) (by omega) (by omega) z1e
  · refine ir_l (pc' := 11) rfl rfl rfl rfl rfl rfl ?_
    refine ir_tgr (pc' := 14) rfl rfl rfl tf_2_12 tsk_2 hT0 (fun b3 b3e b3k => ?_)
    obtain rfl := tsg_9 b3k
    refine ir_l (pc' := 15) rfl rfl rfl rfl rfl rfl ?_
    refine ir_getI (pc' := 18) rfl rfl rfl (gG_at tsk_2) rfl (by decide) (by decide) z1e (by omega) (by omega) ?_
    refine ir_l (pc' := 19) rfl rfl rfl rfl rfl rfl ?_
    refine ir_tis (pc' := 20) rfl rfl rfl rfl te_9 tsk_9 hT0 (by omega) (by omega) (rfl) (by omega) (by omega) (fun s4 hT4 r4 o4 => ?_)
    have hF4 := fr_row hF0 r4 o4
    have e5 : s4.1 2 13 = z1 := by rw [r4]; exact z1e
    have e6 : s4.1 2 12 = ((82 : Nat) : Int) := by rw [r4]; exact b3e
    refine ir_l (pc' := 21) rfl rfl rfl rfl rfl rfl ?_
    refine ir_x (pc' := 22) rfl rfl rfl (fun _ => rfl) ?_
    refine ir_getI (pc' := 25) rfl rfl rfl (gG_at tsk_2) rfl (by decide) (by decide) e5 (by omega) (by omega) ?_
    refine ir_k (pc' := 26) (v := (0, 1)) rfl rfl rfl (fun _ => rfl) ?_
    refine ir_add (pc' := 27) rfl rfl (by omega) (by omega) ?_
    refine ir_tpi (pc' := 30) rfl rfl rfl tf_2_13 rfl tsk_2 hT4 rfl (by omega) (by omega) (fun s7 hT7 e7 g7 r7 => ?_)
    have hF7 := fr_put (k := 2) hF4 (by decide) tsk_2 g7 r7
    have e8 : s7.1 2 12 = ((82 : Nat) : Int) := (g7 2 12 (fun z => absurd z.2 (by decide))).trans e6
    refine ir_w [] trivial ?_
    exact J30 s7 hT7 hF7 ((z1 + 1)) (by omega) (by omega) e7
theorem sf_isDigit7 (L : Nat) (ys : Nat → Int32) (d : Nat) (s0 : im_S) (hT0 : tI s0) (x0 : Int) (x0l : -2147483648 ≤ x0) (x0h : x0 ≤ 2147483647) : icI gG rm_P L ys 0 (d + 1) 186 [(0, x0)] s0 (fun z s => tI s ∧ fr [] s0 s ∧ 0 ≤ z ∧ z ≤ 1) := by
  refine ic_startM (M := rm_p_X7_isDigit) om_X7_isDigit (Nat.le_of_ble_eq_true rfl) ?_
  refine ir_w [(0, (0, x0))] ⟨rfl, trivial⟩ ?_
  have hF0 := fr_refl [] s0
  have J17 : ∀ (q17_s0 : Int) (q17_s0l : 0 ≤ q17_s0) (q17_s0h : q17_s0 ≤ 1) (s_17 : im_S) (hT_17 : tI s_17) (hF_17 : fr [] s0 s_17), ir gG rm_P L ys d rm_p_X7_isDigit (17, [], [(0, q17_s0)], s_17) (fun r : im_Re => ∃ z, r.1 = some (0, z) ∧ (tI r.2 ∧ fr [] s0 r.2 ∧ 0 ≤ z ∧ z ≤ 1)) := by
    intro q17_s0 q17_s0l q17_s0h s_17 hT_17 hF_17
    exact ir_zret rfl rfl (by omega) ⟨_, rfl, hT_17, hF_17, by omega, by omega⟩
  have J16 : ∀ (s_16 : im_S) (hT_16 : tI s_16) (hF_16 : fr [] s0 s_16), ir gG rm_P L ys d rm_p_X7_isDigit (16, [], [], s_16) (fun r : im_Re => ∃ z, r.1 = some (0, z) ∧ (tI r.2 ∧ fr [] s0 r.2 ∧ 0 ≤ z ∧ z ≤ 1)) := by
    intro s_16 hT_16 hF_16
    refine ir_k (pc' := 17) (v := (0, 0)) rfl rfl rfl (fun _ => rfl) ?_
    refine ir_w [] trivial ?_
    exact J17 (0) (by omega) (by omega) s_16 hT_16 hF_16
  refine ir_l (pc' := 1) rfl rfl rfl rfl rfl rfl ?_
  refine ir_k (pc' := 3) (v := (0, 48)) rfl rfl rfl (fun _ => rfl) ?_
  refine ir_c_lt (pt := 16) (pc' := 6) rfl rfl rfl (fun c1 => ?_) (fun c1 => ?_)
  · refine ir_w [] trivial ?_
    exact J16 s0 hT0 hF0
  · refine ir_l (pc' := 7) rfl rfl rfl rfl rfl rfl ?_
    refine ir_k (pc' := 9) (v := (0, 57)) rfl rfl rfl (fun _ => rfl) ?_
    refine ir_c_gt (pt := 16) (pc' := 12) rfl rfl rfl (fun c2 => ?_) (fun c2 => ?_)
    · refine ir_w [] trivial ?_
      exact J16 s0 hT0 hF0
    · refine ir_k (pc' := 13) (v := (0, 1)) rfl rfl rfl (fun _ => rfl) ?_
      refine ir_goto (pc' := 17) rfl rfl ?_
      refine ir_w [] trivial ?_
      exact J17 (1) (by omega) (by omega) s0 hT0 hF0
theorem sf_J0_isLatin1_aae02_2 (L : Nat) (ys : Nat → Int32) (d : Nat) (s0 : im_S) (hT0 : tI s0)  : icI gG rm_P L ys 0 (d + 1) 230 [(4, 2)] s0 (fun z s => tI s ∧ fr [] s0 s ∧ 1 ≤ z ∧ z ≤ 1) := by
  refine ic_startM (M := rm_p_J0_isLatin1_aae02) om_J0_isLatin1_aae02 (Nat.le_of_ble_eq_true rfl) ?_
  refine ir_w [(0, (4, 2))] ⟨rfl, trivial⟩ ?_
  have hF0 := fr_refl [] s0
  have J18 : ∀ (q18_s0 : Int) (q18_s0l : 1 ≤ q18_s0) (q18_s0h : q18_s0 ≤ 1) (s_18 : im_S) (hT_18 : tI s_18) (hF_18 : fr [] s0 s_18), ir gG rm_P L ys d rm_p_J0_isLatin1_aae02 (18, [], [(0, q18_s0)], s_18) (fun r : im_Re => ∃ z, r.1 = some (0, z) ∧ (tI r.2 ∧ fr [] s0 r.2 ∧ 1 ≤ z ∧ z ≤ 1)) := by
    intro q18_s0 q18_s0l q18_s0h s_18 hT_18 hF_18
    exact ir_zret rfl rfl (by omega) ⟨_, rfl, hT_18, hF_18, by omega, by omega⟩
  refine ir_k (pc' := 3) (v := (0, 1)) rfl rfl rfl (fun _ => rfl) ?_
  refine ir_z_eq (pt := 17) (pc' := 6) rfl rfl rfl (fun c1 => ?_) (fun c1 => ?_)
  · exfalso; omega
  · refine ir_l (pc' := 7) rfl rfl rfl rfl rfl rfl ?_
    refine ir_x (pc' := 10) (st' := (0, 0) :: _) rfl rfl rfl (fun _ => rfl) ?_
    refine ir_z_ne (pt := 17) (pc' := 13) rfl rfl rfl (fun c2 => ?_) (fun c2 => ?_)
    · exfalso; omega
    · refine ir_k (pc' := 14) (v := (0, 1)) rfl rfl rfl (fun _ => rfl) ?_
      refine ir_goto (pc' := 18) rfl rfl ?_
      refine ir_w [] trivial ?_
      exact J18 (1) (by omega) (by omega) s0 hT0 hF0
theorem sf_J0_coder_7d493_2 (L : Nat) (ys : Nat → Int32) (d : Nat) (s0 : im_S) (hT0 : tI s0)  : icI gG rm_P L ys 0 (d + 1) 227 [(4, 2)] s0 (fun z s => tI s ∧ fr [] s0 s ∧ 0 ≤ z ∧ z ≤ 0) := by
  refine ic_startM (M := rm_p_J0_coder_7d493) om_J0_coder_7d493 (Nat.le_of_ble_eq_true rfl) ?_
  refine ir_w [(0, (4, 2))] ⟨rfl, trivial⟩ ?_
  have hF0 := fr_refl [] s0
  have J14 : ∀ (q14_s0 : Int) (q14_s0l : 0 ≤ q14_s0) (q14_s0h : q14_s0 ≤ 0) (s_14 : im_S) (hT_14 : tI s_14) (hF_14 : fr [] s0 s_14), ir gG rm_P L ys d rm_p_J0_coder_7d493 (14, [], [(0, q14_s0)], s_14) (fun r : im_Re => ∃ z, r.1 = some (0, z) ∧ (tI r.2 ∧ fr [] s0 r.2 ∧ 0 ≤ z ∧ z ≤ 0)) := by
    intro q14_s0 q14_s0l q14_s0h s_14 hT_14 hF_14
    exact ir_bret rfl rfl (by omega) ⟨_, rfl, hT_14, hF_14, by omega, by omega⟩
  refine ir_k (pc' := 3) (v := (0, 1)) rfl rfl rfl (fun _ => rfl) ?_
  refine ir_z_eq (pt := 13) (pc' := 6) rfl rfl rfl (fun c1 => ?_) (fun c1 => ?_)
  · exfalso; omega
  · refine ir_l (pc' := 7) rfl rfl rfl rfl rfl rfl ?_
    refine ir_x (pc' := 10) (st' := (0, 0) :: _) rfl rfl rfl (fun _ => rfl) ?_
    refine ir_goto (pc' := 14) rfl rfl ?_
    refine ir_w [] trivial ?_
    exact J14 (0) (by omega) (by omega) s0 hT0 hF0
theorem sf_J0_length_8abf5_2 (L : Nat) (ys : Nat → Int32) (d : Nat) (s0 : im_S) (hT0 : tI s0)  : icI gG rm_P L ys 0 (d + 2) 231 [(4, 2)] s0 (fun z s => tI s ∧ fr [] s0 s ∧ 15 ≤ z ∧ z ≤ 15) := by
  refine ic_startM (M := rm_p_J0_length_8abf5) om_J0_length_8abf5 (Nat.le_of_ble_eq_true rfl) ?_
  refine ir_w [(0, (4, 2))] ⟨rfl, trivial⟩ ?_
  have hF0 := fr_refl [] s0
  refine ir_l (pc' := 1) rfl rfl rfl rfl rfl rfl ?_
  refine ir_x (pc' := 4) (st' := (4, 3) :: _) rfl rfl rfl (fun _ => rfl) ?_
  refine ir_x (pc' := 5) (st' := (0, 15) :: _) rfl rfl rfl (fun _ => rfl) ?_
  refine ir_l (pc' := 6) rfl rfl rfl rfl rfl rfl ?_
  refine ir_cFI (pc' := 9) rfl rfl rfl rfl rfl (Nat.le_of_ble_eq_true rfl) (by decide) (sf_J0_coder_7d493_2 L ys d s0 hT0  ) (fun z1 s2 hr => ?_)
  obtain ⟨hT2, hG2, z1l, z1h⟩ := hr
  have hF2 := fr_trans hF0 hG2 (by decide)
  obtain rfl : z1 = 0 := by omega
  refine ir_shr (pc' := 10) (y := 0) (k := 0) (m := 1) rfl rfl (by decide) rfl (by decide) (by omega) (by omega) ?_
  exact ir_iret rfl rfl ⟨_, rfl, hT2, hF2, by omega, by omega⟩
theorem sf_J1_canEncode_9a6ad_1_65535 (L : Nat) (ys : Nat → Int32) (d : Nat) (s0 : im_S) (hT0 : tI s0) (x0 : Int) (x0l : 1 ≤ x0) (x0h : x0 ≤ 65535) : icI gG rm_P L ys 0 (d + 1) 233 [(0, x0)] s0 (fun z s => tI s ∧ fr [] s0 s ∧ 0 ≤ z ∧ z ≤ 1) := by
  refine ic_startM (M := rm_p_J1_canEncode_9a6ad) om_J1_canEncode_9a6ad (Nat.le_of_ble_eq_true rfl) ?_
  refine ir_w [(0, (0, x0))] ⟨rfl, trivial⟩ ?_
  have hF0 := fr_refl [] s0
  have J16 : ∀ (q16_s0 : Int) (q16_s0l : 0 ≤ q16_s0) (q16_s0h : q16_s0 ≤ 1) (s_16 : im_S) (hT_16 : tI s_16) (hF_16 : fr [] s0 s_16), ir gG rm_P L ys d rm_p_J1_canEncode_9a6ad (16, [], [(0, q16_s0)], s_16) (fun r : im_Re => ∃ z, r.1 = some (0, z) ∧ (tI r.2 ∧ fr [] s0 r.2 ∧ 0 ≤ z ∧ z ≤ 1)) := by
    intro q16_s0 q16_s0l q16_s0h s_16 hT_16 hF_16
    exact ir_zret rfl rfl (by omega) ⟨_, rfl, hT_16, hF_16, by omega, by omega⟩
  have J15 : ∀ (s_15 : im_S) (hT_15 : tI s_15) (hF_15 : fr [] s0 s_15), ir gG rm_P L ys d rm_p_J1_canEncode_9a6ad (15, [], [], s_15) (fun r : im_Re => ∃ z, r.1 = some (0, z) ∧ (tI r.2 ∧ fr [] s0 r.2 ∧ 0 ≤ z ∧ z ≤ 1)) := by
    intro s_15 hT_15 hF_15
    refine ir_k (pc' := 16) (v := (0, 0)) rfl rfl rfl (fun _ => rfl) ?_
    refine ir_w [] trivial ?_
    exact J16 (0) (by omega) (by omega) s_15 hT_15 hF_15
  refine ir_l (pc' := 1) rfl rfl rfl rfl rfl rfl ?_
  refine ir_z_lt (pt := 15) (pc' := 4) rfl rfl rfl (fun c1 => ?_) (fun c1 => ?_)
  · exfalso; omega
  · refine ir_l (pc' := 5) rfl rfl rfl rfl rfl rfl ?_
    refine ir_k (pc' := 8) (v := (0, 255)) rfl rfl rfl (fun _ => rfl) ?_
    refine ir_c_gt (pt := 15) (pc' := 11) rfl rfl rfl (fun c2 => ?_) (fun c2 => ?_)
    · refine ir_w [] trivial ?_
      exact J15 s0 hT0 hF0
    · refine ir_k (pc' := 12) (v := (0, 1)) rfl rfl rfl (fun _ => rfl) ?_
      refine ir_goto (pc' := 16) rfl rfl ?_
      refine ir_w [] trivial ?_
      exact J16 (1) (by omega) (by omega) s0 hT0 hF0
theorem sf_J1_indexOfChar_4cfef_3_1_65535_0_0_15_15 (L : Nat) (ys : Nat → Int32) (d : Nat) (s0 : im_S) (hT0 : tI s0) (x1 : Int) (x1l : 1 ≤ x1) (x1h : x1 ≤ 65535) (x2 : Int) (x2l : 0 ≤ x2) (x2h : x2 ≤ 0) (x3 : Int) (x3l : 15 ≤ x3) (x3h : x3 ≤ 15) : icI gG rm_P L ys 0 (d + 1) 234 [(4, 3), (0, x1), (0, x2), (0, x3)] s0 (fun z s => tI s ∧ fr [] s0 s ∧ -1 ≤ z ∧ z ≤ 14) := by
  refine ic_startM (M := rm_p_J1_indexOfChar_4cfef) om_J1_indexOfChar_4cfef (Nat.le_of_ble_eq_true rfl) ?_
  refine ir_w [(0, (4, 3)), (1, (0, x1)), (2, (0, x2)), (3, (0, x3))] ⟨rfl, rfl, rfl, rfl, trivial⟩ ?_
  have hF0 := fr_refl [] s0
  have J7 : ∀ n : Nat, ∀ (q7_l4 : Int) (q7_l4l : -128 ≤ q7_l4) (q7_l4h : q7_l4 ≤ 127) (q7_l5 : Int) (q7_l5l : 0 ≤ q7_l5) (q7_l5h : q7_l5 ≤ 16) (s_7 : im_S) (hT_7 : tI s_7) (hF_7 : fr [] s0 s_7), (16 + 1 - q7_l5) ≤ (n : Int) → ir gG rm_P L ys d rm_p_J1_indexOfChar_4cfef (7, [(0, (4, 3)), (3, (0, x3)), (4, (0, q7_l4)), (5, (0, q7_l5))], [], s_7) (fun r : im_Re => ∃ z, r.1 = some (0, z) ∧ (tI r.2 ∧ fr [] s0 r.2 ∧ -1 ≤ z ∧ z ≤ 14)) := by
    intro n
    induction n with
    | zero => intro q7_l4 q7_l4l q7_l4h q7_l5 q7_l5l q7_l5h s_7 hT_7 hF_7 hr; exfalso; omega
    | succ n ih7 =>
      intro q7_l4 q7_l4l q7_l4h q7_l5 q7_l5l q7_l5h s_7 hT_7 hF_7 hr
      refine ir_l (pc' := 9) rfl rfl rfl rfl rfl rfl ?_
      refine ir_l (pc' := 10) rfl rfl rfl rfl rfl rfl ?_
      refine ir_c_ge (pt := 31) (pc' := 13) rfl rfl rfl (fun c1 => ?_) (fun c1 => ?_)
      · refine ir_k (pc' := 32) (v := (0, (-1))) rfl rfl rfl (fun _ => rfl) ?_
        exact ir_iret rfl rfl ⟨_, rfl, hT_7, hF_7, by omega, by omega⟩
      · refine ir_l (pc' := 14) rfl rfl rfl rfl rfl rfl ?_
        refine ir_l (pc' := 16) rfl rfl rfl rfl rfl rfl ?_
        refine ir_text0 (pc' := 17) rfl rfl (by omega) (by omega) (fun z2 z2l z2h => ?_)
        refine ir_l (pc' := 19) rfl rfl rfl rfl rfl rfl ?_
        refine ir_c_ne (pt := 25) (pc' := 22) rfl rfl rfl (fun c3 => ?_) (fun c3 => ?_)
        · refine ir_inc (pc' := 28) rfl rfl rfl rfl rfl (by omega) (by omega) ?_
          refine ir_goto (pc' := 7) rfl rfl ?_
          refine ir_w [(0, (4, 3)), (3, (0, x3)), (4, (0, q7_l4)), (5, (0, (q7_l5 + 1)))] ⟨rfl, rfl, rfl, rfl, trivial⟩ ?_
          exact ih7 (q7_l4) (by omega) (by omega) ((q7_l5 + 1)) (by omega) (by omega) s_7 hT_7 hF_7 (by omega)
        · refine ir_l (pc' := 24) rfl rfl rfl rfl rfl rfl ?_
          exact ir_iret rfl rfl ⟨_, rfl, hT_7, hF_7, by omega, by omega⟩
  refine ir_l (pc' := 1) rfl rfl rfl rfl rfl rfl ?_
  refine ir_i2bA (pc' := 2) rfl rfl (fun z4 z4l z4h => ?_)
  refine ir_s (pc' := 4) rfl rfl rfl rfl rfl rfl ?_
  refine ir_l (pc' := 5) rfl rfl rfl rfl rfl rfl ?_
  refine ir_s (pc' := 7) rfl rfl rfl rfl rfl rfl ?_
  refine ir_w [(0, (4, 3)), (3, (0, x3)), (4, (0, z4)), (5, (0, x2))] ⟨rfl, rfl, rfl, rfl, trivial⟩ ?_
  exact J7 _ (z4) (by omega) (by omega) (x2) (by omega) (by omega) s0 hT0 hF0 (Int.self_le_toNat _)
theorem sf_J1_indexOf_4cfef_3_1_65535_0_0_15_15 (L : Nat) (ys : Nat → Int32) (d : Nat) (s0 : im_S) (hT0 : tI s0) (x1 : Int) (x1l : 1 ≤ x1) (x1h : x1 ≤ 65535) (x2 : Int) (x2l : 0 ≤ x2) (x2h : x2 ≤ 0) (x3 : Int) (x3l : 15 ≤ x3) (x3h : x3 ≤ 15) : icI gG rm_P L ys 0 (d + 2) 235 [(4, 3), (0, x1), (0, x2), (0, x3)] s0 (fun z s => tI s ∧ fr [] s0 s ∧ -1 ≤ z ∧ z ≤ 14) := by
  refine ic_startM (M := rm_p_J1_indexOf_4cfef) om_J1_indexOf_4cfef (Nat.le_of_ble_eq_true rfl) ?_
  refine ir_w [(0, (4, 3)), (1, (0, x1)), (2, (0, x2)), (3, (0, x3))] ⟨rfl, rfl, rfl, rfl, trivial⟩ ?_
  have hF0 := fr_refl [] s0
  refine ir_l (pc' := 1) rfl rfl rfl rfl rfl rfl ?_
  refine ir_cSI (pc' := 4) rfl rfl rfl rfl rfl rfl (Nat.le_of_ble_eq_true rfl) (sf_J1_canEncode_9a6ad_1_65535 L ys d s0 hT0 (x1) (by omega) (by omega) ) (fun z1 s2 hr => ?_)
  obtain ⟨hT2, hG2, z1l, z1h⟩ := hr
  have hF2 := fr_trans hF0 hG2 (by decide)
  refine ir_z_ne (pt := 9) (pc' := 7) rfl rfl rfl (fun c3 => ?_) (fun c3 => ?_)
  · refine ir_l (pc' := 10) rfl rfl rfl rfl rfl rfl ?_
    refine ir_k (pc' := 11) (v := (0, 0)) rfl rfl rfl (fun _ => rfl) ?_
    refine ir_cSI (pc' := 14) rfl rfl rfl rfl rfl rfl (Nat.le_of_ble_eq_true rfl) (sf_max L ys d s2 (x2) (by omega) (by omega) (0) (by omega) (by omega)) (fun z4 s5 hr => ?_)
    obtain ⟨rfl, z4p0, z4p1, z4p2⟩ := hr
    refine ir_s (pc' := 15) rfl rfl rfl rfl rfl rfl ?_
    refine ir_l (pc' := 16) rfl rfl rfl rfl rfl rfl ?_
    refine ir_l (pc' := 17) rfl rfl rfl rfl rfl rfl ?_
    refine ir_x (pc' := 18) (st' := (0, 15) :: _) rfl rfl rfl (fun _ => rfl) ?_
    refine ir_cSI (pc' := 21) rfl rfl rfl rfl rfl rfl (Nat.le_of_ble_eq_true rfl) (sf_min L ys d s2 (x3) (by omega) (by omega) (15) (by omega) (by omega)) (fun z6 s7 hr => ?_)
    obtain ⟨rfl, z6p0, z6p1, z6p2⟩ := hr
    refine ir_s (pc' := 22) rfl rfl rfl rfl rfl rfl ?_
    refine ir_l (pc' := 23) rfl rfl rfl rfl rfl rfl ?_
    refine ir_l (pc' := 24) rfl rfl rfl rfl rfl rfl ?_
    refine ir_c_lt (pt := 29) (pc' := 27) rfl rfl rfl (fun c8 => ?_) (fun c8 => ?_)
    · refine ir_l (pc' := 30) rfl rfl rfl rfl rfl rfl ?_
      refine ir_l (pc' := 31) rfl rfl rfl rfl rfl rfl ?_
      refine ir_l (pc' := 32) rfl rfl rfl rfl rfl rfl ?_
      refine ir_l (pc' := 33) rfl rfl rfl rfl rfl rfl ?_
      refine ir_cSI (pc' := 36) rfl rfl rfl rfl rfl rfl (Nat.le_of_ble_eq_true rfl) (sf_J1_indexOfChar_4cfef_3_1_65535_0_0_15_15 L ys d s2 hT2 (x1) (by omega) (by omega) (z4) (by omega) (by omega) (z6) (by omega) (by omega) ) (fun z9 s10 hr => ?_)
      obtain ⟨hT10, hG10, z9l, z9h⟩ := hr
      have hF10 := fr_trans hF2 hG10 (by decide)
      exact ir_iret rfl rfl ⟨_, rfl, hT10, hF10, by omega, by omega⟩
    · exfalso; omega
  · refine ir_k (pc' := 8) (v := (0, (-1))) rfl rfl rfl (fun _ => rfl) ?_
    exact ir_iret rfl rfl ⟨_, rfl, hT2, hF2, by omega, by omega⟩
theorem sf_J0_indexOf_7cf53_2_1_65535_0_0 (L : Nat) (ys : Nat → Int32) (d : Nat) (s0 : im_S) (hT0 : tI s0) (x1 : Int) (x1l : 1 ≤ x1) (x1h : x1 ≤ 65535) (x2 : Int) (x2l : 0 ≤ x2) (x2h : x2 ≤ 0) : icI gG rm_P L ys 0 (d + 3) 229 [(4, 2), (0, x1), (0, x2)] s0 (fun z s => tI s ∧ fr [] s0 s ∧ -1 ≤ z ∧ z ≤ 14) := by
  refine ic_startM (M := rm_p_J0_indexOf_7cf53) om_J0_indexOf_7cf53 (Nat.le_of_ble_eq_true rfl) ?_
  refine ir_w [(0, (4, 2)), (1, (0, x1)), (2, (0, x2))] ⟨rfl, rfl, rfl, trivial⟩ ?_
  have hF0 := fr_refl [] s0
  have J36 : ∀ (q36_s0 : Int) (q36_s0l : -1 ≤ q36_s0) (q36_s0h : q36_s0 ≤ 14) (s_36 : im_S) (hT_36 : tI s_36) (hF_36 : fr [] s0 s_36), ir gG rm_P L ys (d + 2) rm_p_J0_indexOf_7cf53 (36, [], [(0, q36_s0)], s_36) (fun r : im_Re => ∃ z, r.1 = some (0, z) ∧ (tI r.2 ∧ fr [] s0 r.2 ∧ -1 ≤ z ∧ z ≤ 14)) := by
    intro q36_s0 q36_s0l q36_s0h s_36 hT_36 hF_36
    exact ir_iret rfl rfl ⟨_, rfl, hT_36, hF_36, by omega, by omega⟩
  refine ir_l (pc' := 1) rfl rfl rfl rfl rfl rfl ?_
  refine ir_cFI (pc' := 4) rfl rfl rfl rfl rfl (Nat.le_of_ble_eq_true rfl) (by decide) (sf_J0_isLatin1_aae02_2 L ys (d + 1) s0 hT0  ) (fun z1 s2 hr => ?_)
  obtain ⟨hT2, hG2, z1l, z1h⟩ := hr
  have hF2 := fr_trans hF0 hG2 (by decide)
  refine ir_z_eq (pt := 23) (pc' := 7) rfl rfl rfl (fun c3 => ?_) (fun c3 => ?_)
  · exfalso; omega
  · refine ir_l (pc' := 8) rfl rfl rfl rfl rfl rfl ?_
    refine ir_x (pc' := 11) (st' := (4, 3) :: _) rfl rfl rfl (fun _ => rfl) ?_
    refine ir_l (pc' := 12) rfl rfl rfl rfl rfl rfl ?_
    refine ir_l (pc' := 13) rfl rfl rfl rfl rfl rfl ?_
    refine ir_l (pc' := 14) rfl rfl rfl rfl rfl rfl ?_
    refine ir_cFI (pc' := 17) rfl rfl rfl rfl rfl (Nat.le_of_ble_eq_true rfl) (by decide) (sf_J0_length_8abf5_2 L ys d s2 hT2  ) (fun z4 s5 hr => ?_)
    obtain ⟨hT5, hG5, z4l, z4h⟩ := hr
    have hF5 := fr_trans hF2 hG5 (by decide)
    refine ir_cSI (pc' := 20) rfl rfl rfl rfl rfl rfl (Nat.le_of_ble_eq_true rfl) (sf_J1_indexOf_4cfef_3_1_65535_0_0_15_15 L ys d s5 hT5 (x1) (by omega) (by omega) (x2) (by omega) (by omega) (z4) (by omega) (by omega) ) (fun z6 s7 hr => ?_)
    obtain ⟨hT7, hG7, z6l, z6h⟩ := hr
    have hF7 := fr_trans hF5 hG7 (by decide)
    refine ir_goto (pc' := 36) rfl rfl ?_
    refine ir_w [] trivial ?_
    exact J36 (z6) (by omega) (by omega) s7 hT7 hF7
theorem sf_J0_indexOf_0f7a4_2_1_65535 (L : Nat) (ys : Nat → Int32) (d : Nat) (s0 : im_S) (hT0 : tI s0) (x1 : Int) (x1l : 1 ≤ x1) (x1h : x1 ≤ 65535) : icI gG rm_P L ys 0 (d + 4) 228 [(4, 2), (0, x1)] s0 (fun z s => tI s ∧ fr [] s0 s ∧ -1 ≤ z ∧ z ≤ 14) := by
  refine ic_startM (M := rm_p_J0_indexOf_0f7a4) om_J0_indexOf_0f7a4 (Nat.le_of_ble_eq_true rfl) ?_
  refine ir_w [(0, (4, 2)), (1, (0, x1))] ⟨rfl, rfl, trivial⟩ ?_
  have hF0 := fr_refl [] s0
  refine ir_l (pc' := 1) rfl rfl rfl rfl rfl rfl ?_
  refine ir_l (pc' := 2) rfl rfl rfl rfl rfl rfl ?_
  refine ir_k (pc' := 3) (v := (0, 0)) rfl rfl rfl (fun _ => rfl) ?_
  refine ir_cFI (pc' := 6) rfl rfl rfl rfl rfl (Nat.le_of_ble_eq_true rfl) (by decide) (sf_J0_indexOf_7cf53_2_1_65535_0_0 L ys d s0 hT0 (x1) (by omega) (by omega) (0) (by omega) (by omega) ) (fun z1 s2 hr => ?_)
  obtain ⟨hT2, hG2, z1l, z1h⟩ := hr
  have hF2 := fr_trans hF0 hG2 (by decide)
  exact ir_iret rfl rfl ⟨_, rfl, hT2, hF2, by omega, by omega⟩
theorem sf_look7 (L : Nat) (ys : Nat → Int32) (d : Nat) (s0 : im_S) (hT0 : tI s0) (pr0 : s0.1 2 2 ≤ s0.1 2 1) : icV gG rm_P L ys (d + 5) 187 [(2, ((2 : Nat) : Int))] s0 (fun s => tI s ∧ fr [(2, 2), (2, 3), (2, 4), (2, 5)] s0 s ∧ s.1 2 2 ≤ s.1 2 1 ∧ (s.1 2 4 ≠ 0 ∨ s.1 2 3 = 0 ∨ s.1 2 2 < s.1 2 1)) := by
  refine ic_startM (M := rm_p_X7_look) om_X7_look (Nat.le_of_ble_eq_true rfl) ?_
  refine ir_w [(0, (2, ((2 : Nat) : Int)))] ⟨rfl, trivial⟩ ?_
  have hF0 := fr_refl [(2, 2), (2, 3), (2, 4), (2, 5)] s0
  have J105 : ∀ (s_105 : im_S) (hT_105 : tI s_105) (hF_105 : fr [(2, 2), (2, 3), (2, 4), (2, 5)] s0 s_105) (w105_2_1 : Int) (w105_2_1l : 0 ≤ w105_2_1) (w105_2_1h : w105_2_1 ≤ 400) (w105_2_1e : s_105.1 2 1 = w105_2_1) (w105_2_2 : Int) (w105_2_2l : 0 ≤ w105_2_2) (w105_2_2h : w105_2_2 ≤ 400) (w105_2_2e : s_105.1 2 2 = w105_2_2) (w105_2_3 : Int) (w105_2_3l : 0 ≤ w105_2_3) (w105_2_3h : w105_2_3 ≤ 65535) (w105_2_3e : s_105.1 2 3 = w105_2_3) (w105_2_4 : Int) (w105_2_4l : 0 ≤ w105_2_4) (w105_2_4h : w105_2_4 ≤ 3) (w105_2_4e : s_105.1 2 4 = w105_2_4) (i105_0 : (w105_2_4 ≠ 0 ∨ w105_2_3 = 0 ∨ w105_2_2 < w105_2_1)) (i105_1 : w105_2_2 ≤ w105_2_1), ir gG rm_P L ys (d + 4) rm_p_X7_look (105, [], [], s_105) (fun r : im_Re => r.1 = none ∧ (tI r.2 ∧ fr [(2, 2), (2, 3), (2, 4), (2, 5)] s0 r.2 ∧ r.2.1 2 2 ≤ r.2.1 2 1 ∧ (r.2.1 2 4 ≠ 0 ∨ r.2.1 2 3 = 0 ∨ r.2.1 2 2 < r.2.1 2 1))) := by
    intro s_105 hT_105 hF_105 w105_2_1 w105_2_1l w105_2_1h w105_2_1e w105_2_2 w105_2_2l w105_2_2h w105_2_2e w105_2_3 w105_2_3l w105_2_3h w105_2_3e w105_2_4 w105_2_4l w105_2_4h w105_2_4e i105_0 i105_1
    exact ir_vret rfl rfl ⟨rfl, hT_105, hF_105, (by first | omega | (dsimp only; omega)), (by first | omega | (dsimp only; omega))⟩
  have J63 : ∀ (q63_s1 : Int) (q63_s1l : 0 ≤ q63_s1) (q63_s1h : q63_s1 ≤ 65535) (s_63 : im_S) (hT_63 : tI s_63) (hF_63 : fr [(2, 2), (2, 3), (2, 4), (2, 5)] s0 s_63) (w63_2_1 : Int) (w63_2_1l : 0 ≤ w63_2_1) (w63_2_1h : w63_2_1 ≤ 400) (w63_2_1e : s_63.1 2 1 = w63_2_1) (w63_2_2 : Int) (w63_2_2l : 0 ≤ w63_2_2) (w63_2_2h : w63_2_2 ≤ 400) (w63_2_2e : s_63.1 2 2 = w63_2_2) (w63_2_3 : Int) (w63_2_3l : 0 ≤ w63_2_3) (w63_2_3h : w63_2_3 ≤ 65535) (w63_2_3e : s_63.1 2 3 = w63_2_3) (w63_2_4 : Int) (w63_2_4l : 0 ≤ w63_2_4) (w63_2_4h : w63_2_4 ≤ 3) (w63_2_4e : s_63.1 2 4 = w63_2_4) (i63_0 : (q63_s1 = 0 ∨ w63_2_2 < w63_2_1)) (i63_1 : w63_2_2 ≤ w63_2_1), ir gG rm_P L ys (d + 4) rm_p_X7_look (63, [(0, (2, ((2 : Nat) : Int)))], [(0, q63_s1), (2, ((2 : Nat) : Int))], s_63) (fun r : im_Re => r.1 = none ∧ (tI r.2 ∧ fr [(2, 2), (2, 3), (2, 4), (2, 5)] s0 r.2 ∧ r.2.1 2 2 ≤ r.2.1 2 1 ∧ (r.2.1 2 4 ≠ 0 ∨ r.2.1 2 3 = 0 ∨ r.2.1 2 2 < r.2.1 2 1))) := by
    intro q63_s1 q63_s1l q63_s1h s_63 hT_63 hF_63 w63_2_1 w63_2_1l w63_2_1h w63_2_1e w63_2_2 w63_2_2l w63_2_2h w63_2_2e w63_2_3 w63_2_3l w63_2_3h w63_2_3e w63_2_4 w63_2_4l w63_2_4h w63_2_4e i63_0 i63_1
    refine ir_tpi (pc' := 66) rfl rfl rfl tf_2_3 rfl tsk_2 hT_63 rfl (by omega) (by omega) (fun s1 hT1 e1 g1 r1 => ?_)
    have hF1 := fr_put (k := 2) hF_63 (by decide) tsk_2 g1 r1
    have e2 : s1.1 2 1 = w63_2_1 := (g1 2 1 (fun z => absurd z.2 (by decide))).trans w63_2_1e
    have e3 : s1.1 2 2 = w63_2_2 := (g1 2 2 (fun z => absurd z.2 (by decide))).trans w63_2_2e
    have e4 : s1.1 2 4 = w63_2_4 := (g1 2 4 (fun z => absurd z.2 (by decide))).trans w63_2_4e
    refine ir_l (pc' := 67) rfl rfl rfl rfl rfl rfl ?_
    refine ir_getI (pc' := 70) rfl rfl rfl (gG_at tsk_2) rfl (by decide) (by decide) e1 (by omega) (by omega) ?_
    refine ir_z_eq (pt := 105) (pc' := 73) rfl rfl rfl (fun c5 => ?_) (fun c5 => ?_)
    · refine ir_w [] trivial ?_
      exact J105 s1 hT1 hF1 (w63_2_1) (by omega) (by omega) e2 (w63_2_2) (by omega) (by omega) e3 (q63_s1) (by omega) (by omega) e1 (w63_2_4) (by omega) (by omega) e4 (by omega) (by omega)
    · refine ir_l (pc' := 74) rfl rfl rfl rfl rfl rfl ?_
      refine ir_getI (pc' := 77) rfl rfl rfl (gG_at tsk_2) rfl (by decide) (by decide) e1 (by omega) (by omega) ?_
      refine ir_cSI (pc' := 80) rfl rfl rfl rfl rfl rfl (Nat.le_of_ble_eq_true rfl) (sf_isDigit7 L ys (d + 3) s1 hT1 (q63_s1) (by omega) (by omega) ) (fun z6 s7 hr => ?_)
      obtain ⟨hT7, hG7, z6l, z6h⟩ := hr
      have hF7 := fr_trans hF1 hG7 (by decide)
      have e8 : s7.1 2 1 = w63_2_1 := (hG7.1 _ _ tsk_2 1 (by decide)).trans e2
      have e9 : s7.1 2 2 = w63_2_2 := (hG7.1 _ _ tsk_2 2 (by decide)).trans e3
      have e10 : s7.1 2 4 = w63_2_4 := (hG7.1 _ _ tsk_2 4 (by decide)).trans e4
      have e11 : s7.1 2 3 = q63_s1 := (hG7.1 _ _ tsk_2 3 (by decide)).trans e1
      refine ir_z_ne (pt := 105) (pc' := 83) rfl rfl rfl (fun c12 => ?_) (fun c12 => ?_)
      · refine ir_w [] trivial ?_
        exact J105 s7 hT7 hF7 (w63_2_1) (by omega) (by omega) e8 (w63_2_2) (by omega) (by omega) e9 (q63_s1) (by omega) (by omega) e11 (w63_2_4) (by omega) (by omega) e10 (by omega) (by omega)
      · refine ir_k (pc' := 85) (v := (4, 2)) rfl rfl rfl (fun _ => rfl) ?_
        refine ir_l (pc' := 86) rfl rfl rfl rfl rfl rfl ?_
        refine ir_getI (pc' := 89) rfl rfl rfl (gG_at tsk_2) rfl (by decide) (by decide) e11 (by omega) (by omega) ?_
        refine ir_i2cE (pc' := 90) rfl rfl (by omega) (by omega) ?_
        refine ir_cFI (pc' := 93) rfl rfl rfl rfl rfl (Nat.le_of_ble_eq_true rfl) (by decide) (sf_J0_indexOf_0f7a4_2_1_65535 L ys d s7 hT7 (q63_s1) (by omega) (by omega) ) (fun z13 s14 hr => ?_)
        obtain ⟨hT14, hG14, z13l, z13h⟩ := hr
        have hF14 := fr_trans hF7 hG14 (by decide)
        have e15 : s14.1 2 1 = w63_2_1 := (hG14.1 _ _ tsk_2 1 (by decide)).trans e8
        have e16 : s14.1 2 2 = w63_2_2 := (hG14.1 _ _ tsk_2 2 (by decide)).trans e9
        have e17 : s14.1 2 4 = w63_2_4 := (hG14.1 _ _ tsk_2 4 (by decide)).trans e10
        have e18 : s14.1 2 3 = q63_s1 := (hG14.1 _ _ tsk_2 3 (by decide)).trans e11
        refine ir_z_ge (pt := 105) (pc' := 96) rfl rfl rfl (fun c19 => ?_) (fun c19 => ?_)
        · refine ir_w [] trivial ?_
          exact J105 s14 hT14 hF14 (w63_2_1) (by omega) (by omega) e15 (w63_2_2) (by omega) (by omega) e16 (q63_s1) (by omega) (by omega) e18 (w63_2_4) (by omega) (by omega) e17 (by omega) (by omega)
        · refine ir_l (pc' := 97) rfl rfl rfl rfl rfl rfl ?_
          refine ir_k (pc' := 98) (v := (0, 1)) rfl rfl rfl (fun _ => rfl) ?_
          refine ir_l (pc' := 99) rfl rfl rfl rfl rfl rfl ?_
          refine ir_getI (pc' := 102) rfl rfl rfl (gG_at tsk_2) rfl (by decide) (by decide) e16 (by omega) (by omega) ?_
          refine ir_cVV (pc' := 105) rfl rfl rfl rfl rfl (Nat.le_of_ble_eq_true rfl) oo_X7_fail (gG_at tsk_2) (sf_fail7 L ys (d + 3) s14 hT14 (1) (by omega) (by omega) (w63_2_2) (by omega) (by omega) ) (fun s21 hr => ?_)
          obtain ⟨hT21, hG21, p21_0⟩ := hr
          have hF21 := fr_trans hF14 hG21 (by decide)
          have e22 : s21.1 2 1 = w63_2_1 := (hG21.1 _ _ tsk_2 1 (by decide)).trans e15
          have e23 : s21.1 2 2 = w63_2_2 := (hG21.1 _ _ tsk_2 2 (by decide)).trans e16
          obtain ⟨z24, z24e, z24l, z24h⟩ := tI_i tf_2_3 tsk_2 hT21
          obtain ⟨z25, z25e, z25l, z25h⟩ := tI_i tf_2_4 tsk_2 hT21
          refine ir_w [] trivial ?_
          exact J105 s21 hT21 hF21 (w63_2_1) (by omega) (by omega) e22 (w63_2_2) (by omega) (by omega) e23 (z24) (by omega) (by omega) z24e (z25) (by omega) (by omega) z25e (by omega) (by omega)
  have J38 : ∀ (s_38 : im_S) (hT_38 : tI s_38) (hF_38 : fr [(2, 2), (2, 3), (2, 4), (2, 5)] s0 s_38) (w38_2_1 : Int) (w38_2_1l : 0 ≤ w38_2_1) (w38_2_1h : w38_2_1 ≤ 400) (w38_2_1e : s_38.1 2 1 = w38_2_1) (w38_2_2 : Int) (w38_2_2l : 0 ≤ w38_2_2) (w38_2_2h : w38_2_2 ≤ 400) (w38_2_2e : s_38.1 2 2 = w38_2_2) (w38_2_3 : Int) (w38_2_3l : 0 ≤ w38_2_3) (w38_2_3h : w38_2_3 ≤ 65535) (w38_2_3e : s_38.1 2 3 = w38_2_3) (w38_2_4 : Int) (w38_2_4l : 0 ≤ w38_2_4) (w38_2_4h : w38_2_4 ≤ 3) (w38_2_4e : s_38.1 2 4 = w38_2_4) (i38_0 : w38_2_2 ≤ w38_2_1), ir gG rm_P L ys (d + 4) rm_p_X7_look (38, [(0, (2, ((2 : Nat) : Int)))], [], s_38) (fun r : im_Re => r.1 = none ∧ (tI r.2 ∧ fr [(2, 2), (2, 3), (2, 4), (2, 5)] s0 r.2 ∧ r.2.1 2 2 ≤ r.2.1 2 1 ∧ (r.2.1 2 4 ≠ 0 ∨ r.2.1 2 3 = 0 ∨ r.2.1 2 2 < r.2.1 2 1))) := by
    intro s_38 hT_38 hF_38 w38_2_1 w38_2_1l w38_2_1h w38_2_1e w38_2_2 w38_2_2l w38_2_2h w38_2_2e w38_2_3 w38_2_3l w38_2_3h w38_2_3e w38_2_4 w38_2_4l w38_2_4h w38_2_4e i38_0
    refine ir_l (pc' := 39) rfl rfl rfl rfl rfl rfl ?_
    refine ir_l (pc' := 40) rfl rfl rfl rfl rfl rfl ?_
    refine ir_getI (pc' := 43) rfl rfl rfl (gG_at tsk_2) rfl (by decide) (by decide) w38_2_2e (by omega) (by omega) ?_
    refine ir_l (pc' := 44) rfl rfl rfl rfl rfl rfl ?_
    refine ir_getI (pc' := 47) rfl rfl rfl (gG_at tsk_2) rfl (by decide) (by decide) w38_2_1e (by omega) (by omega) ?_
    refine ir_c_ge (pt := 62) (pc' := 50) rfl rfl rfl (fun c26 => ?_) (fun c26 => ?_)
    · refine ir_k (pc' := 63) (v := (0, 0)) rfl rfl rfl (fun _ => rfl) ?_
      refine ir_w [(0, (2, ((2 : Nat) : Int)))] ⟨rfl, trivial⟩ ?_
      exact J63 (0) (by omega) (by omega) s_38 hT_38 hF_38 (w38_2_1) (by omega) (by omega) w38_2_1e (w38_2_2) (by omega) (by omega) w38_2_2e (w38_2_3) (by omega) (by omega) w38_2_3e (w38_2_4) (by omega) (by omega) w38_2_4e (by omega) (by omega)
    · refine ir_l (pc' := 51) rfl rfl rfl rfl rfl rfl ?_
      refine ir_tgr (pc' := 54) rfl rfl rfl tf_2_0 tsk_2 hT_38 (fun b27 b27e b27k => ?_)
      obtain rfl := tsg_3 b27k
      refine ir_l (pc' := 55) rfl rfl rfl rfl rfl rfl ?_
      refine ir_getI (pc' := 58) rfl rfl rfl (gG_at tsk_2) rfl (by decide) (by decide) w38_2_2e (by omega) (by omega) ?_
      refine ir_tca (pc' := 59) rfl rfl te_3 (by decide) tsk_3 hT_38 (by omega) (by omega) (fun z28 z28e z28l z28h => ?_)
      clear z28e
      refine ir_goto (pc' := 63) rfl rfl ?_
      refine ir_w [(0, (2, ((2 : Nat) : Int)))] ⟨rfl, trivial⟩ ?_
      exact J63 (z28) (by omega) (by omega) s_38 hT_38 hF_38 (w38_2_1) (by omega) (by omega) w38_2_1e (w38_2_2) (by omega) (by omega) w38_2_2e (w38_2_3) (by omega) (by omega) w38_2_3e (w38_2_4) (by omega) (by omega) w38_2_4e (by omega) (by omega)
  have J0 : ∀ n : Nat, ∀ (s_0 : im_S) (hT_0 : tI s_0) (hF_0 : fr [(2, 2), (2, 3), (2, 4), (2, 5)] s0 s_0) (w0_2_1 : Int) (w0_2_1l : 0 ≤ w0_2_1) (w0_2_1h : w0_2_1 ≤ 400) (w0_2_1e : s_0.1 2 1 = w0_2_1) (w0_2_2 : Int) (w0_2_2l : 0 ≤ w0_2_2) (w0_2_2h : w0_2_2 ≤ 400) (w0_2_2e : s_0.1 2 2 = w0_2_2) (w0_2_3 : Int) (w0_2_3l : 0 ≤ w0_2_3) (w0_2_3h : w0_2_3 ≤ 65535) (w0_2_3e : s_0.1 2 3 = w0_2_3) (w0_2_4 : Int) (w0_2_4l : 0 ≤ w0_2_4) (w0_2_4h : w0_2_4 ≤ 3) (w0_2_4e : s_0.1 2 4 = w0_2_4) (i0_0 : w0_2_2 ≤ w0_2_1), (401 - w0_2_2) ≤ (n : Int) → ir gG rm_P L ys (d + 4) rm_p_X7_look (0, [(0, (2, ((2 : Nat) : Int)))], [], s_0) (fun r : im_Re => r.1 = none ∧ (tI r.2 ∧ fr [(2, 2), (2, 3), (2, 4), (2, 5)] s0 r.2 ∧ r.2.1 2 2 ≤ r.2.1 2 1 ∧ (r.2.1 2 4 ≠ 0 ∨ r.2.1 2 3 = 0 ∨ r.2.1 2 2 < r.2.1 2 1))) := by
    intro n
    induction n with
    | zero => intro s_0 hT_0 hF_0 w0_2_1 w0_2_1l w0_2_1h w0_2_1e w0_2_2 w0_2_2l w0_2_2h w0_2_2e w0_2_3 w0_2_3l w0_2_3h w0_2_3e w0_2_4 w0_2_4l w0_2_4h w0_2_4e i0_0 hr; exfalso; omega
    | succ n ih0 =>
      intro s_0 hT_0 hF_0 w0_2_1 w0_2_1l w0_2_1h w0_2_1e w0_2_2 w0_2_2l w0_2_2h w0_2_2e w0_2_3 w0_2_3l w0_2_3h w0_2_3e w0_2_4 w0_2_4l w0_2_4h w0_2_4e i0_0 hr
      refine ir_l (pc' := 1) rfl rfl rfl rfl rfl rfl ?_
      refine ir_getI (pc' := 4) rfl rfl rfl (gG_at tsk_2) rfl (by decide) (by decide) w0_2_2e (by omega) (by omega) ?_
      refine ir_l (pc' := 5) rfl rfl rfl rfl rfl rfl ?_
      refine ir_getI (pc' := 8) rfl rfl rfl (gG_at tsk_2) rfl (by decide) (by decide) w0_2_1e (by omega) (by omega) ?_
      refine ir_c_ge (pt := 38) (pc' := 11) rfl rfl rfl (fun c29 => ?_) (fun c29 => ?_)
      · refine ir_w [(0, (2, ((2 : Nat) : Int)))] ⟨rfl, trivial⟩ ?_
        exact J38 s_0 hT_0 hF_0 (w0_2_1) (by omega) (by omega) w0_2_1e (w0_2_2) (by omega) (by omega) w0_2_2e (w0_2_3) (by omega) (by omega) w0_2_3e (w0_2_4) (by omega) (by omega) w0_2_4e (by omega)
      · refine ir_l (pc' := 12) rfl rfl rfl rfl rfl rfl ?_
        refine ir_tgr (pc' := 15) rfl rfl rfl tf_2_0 tsk_2 hT_0 (fun b30 b30e b30k => ?_)
        obtain rfl := tsg_3 b30k
        refine ir_l (pc' := 16) rfl rfl rfl rfl rfl rfl ?_
        refine ir_getI (pc' := 19) rfl rfl rfl (gG_at tsk_2) rfl (by decide) (by decide) w0_2_2e (by omega) (by omega) ?_
        refine ir_tca (pc' := 20) rfl rfl te_3 (by decide) tsk_3 hT_0 (by omega) (by omega) (fun z31 z31e z31l z31h => ?_)
        clear z31e
        refine ir_k (pc' := 22) (v := (0, 32)) rfl rfl rfl (fun _ => rfl) ?_
        refine ir_c_ne (pt := 38) (pc' := 25) rfl rfl rfl (fun c32 => ?_) (fun c32 => ?_)
        · refine ir_w [(0, (2, ((2 : Nat) : Int)))] ⟨rfl, trivial⟩ ?_
          exact J38 s_0 hT_0 hF_0 (w0_2_1) (by omega) (by omega) w0_2_1e (w0_2_2) (by omega) (by omega) w0_2_2e (w0_2_3) (by omega) (by omega) w0_2_3e (w0_2_4) (by omega) (by omega) w0_2_4e (by omega)
        · refine ir_l (pc' := 26) rfl rfl rfl rfl rfl rfl ?_
          refine ir_x (pc' := 27) rfl rfl rfl (fun _ => rfl) ?_
          refine ir_getI (pc' := 30) rfl rfl rfl (gG_at tsk_2) rfl (by decide) (by decide) w0_2_2e (by omega) (by omega) ?_
          refine ir_k (pc' := 31) (v := (0, 1)) rfl rfl rfl (fun _ => rfl) ?_
          refine ir_add (pc' := 32) rfl rfl (by omega) (by omega) ?_
          refine ir_tpi (pc' := 35) rfl rfl rfl tf_2_2 rfl tsk_2 hT_0 rfl (by omega) (by omega) (fun s33 hT33 e33 g33 r33 => ?_)
          have hF33 := fr_put (k := 2) hF_0 (by decide) tsk_2 g33 r33
          have e34 : s33.1 2 1 = w0_2_1 := (g33 2 1 (fun z => absurd z.2 (by decide))).trans w0_2_1e
          have e35 : s33.1 2 3 = w0_2_3 := (g33 2 3 (fun z => absurd z.2 (by decide))).trans w0_2_3e
          have e36 : s33.1 2 4 = w0_2_4 := (g33 2 4 (fun z => absurd z.2 (by decide))).trans w0_2_4e
          have e37 : s33.1 2 0 = ((3 : Nat) : Int) := (g33 2 0 (fun z => absurd z.2 (by decide))).trans b30e
          refine ir_goto (pc' := 0) rfl rfl ?_
          refine ir_w [(0, (2, ((2 : Nat) : Int)))] ⟨rfl, trivial⟩ ?_
          exact ih0 s33 hT33 hF33 (w0_2_1) (by omega) (by omega) e34 ((w0_2_2 + 1)) (by omega) (by omega) e33 (w0_2_3) (by omega) (by omega) e35 (w0_2_4) (by omega) (by omega) e36 (by omega) (by omega)
  obtain ⟨z38, z38e, z38l, z38h⟩ := tI_i tf_2_1 tsk_2 hT0
  obtain ⟨z39, z39e, z39l, z39h⟩ := tI_i tf_2_2 tsk_2 hT0
  obtain ⟨z40, z40e, z40l, z40h⟩ := tI_i tf_2_3 tsk_2 hT0
  obtain ⟨z41, z41e, z41l, z41h⟩ := tI_i tf_2_4 tsk_2 hT0
  refine ir_w [(0, (2, ((2 : Nat) : Int)))] ⟨rfl, trivial⟩ ?_
  exact J0 _ s0 hT0 hF0 (z38) (by omega) (by omega) z38e (z39) (by omega) (by omega) z39e (z40) (by omega) (by omega) z40e (z41) (by omega) (by omega) z41e (by omega) (Int.self_le_toNat _)
