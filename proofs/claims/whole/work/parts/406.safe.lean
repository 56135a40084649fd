/-! WALKS OF THE CLASS'S METHODS, by program -/
theorem sf_setValue3 (L : Nat) (ys : Nat → Int32) (d : Nat) (s0 : im_S) (hT0 : tI s0) (a1 : Nat) (a1k : gK[a1]? = some 25) (a2 : Nat) (a2k : gK[a2]? = some 4) (a3 : Nat) (a3k : gK[a3]? = some 19) (x4 : Int) (x4l : -2147483648 ≤ x4) (x4h : x4 ≤ 2147483647) : icV gG rm_P L ys (d + 4) 141 [(2, ((83 : Nat) : Int)), (2, (a1 : Int)), (2, (a2 : Int)), (2, (a3 : Int)), (0, x4)] s0 (fun s => tI s ∧ fr [(19, 1), (19, 2), (25, 1), (25, 2)] s0 s) := by
  refine ic_startM (M := rm_p_X3_setValue) om_X3_setValue (Nat.le_of_ble_eq_true rfl) ?_
  refine ir_w [(0, (2, ((83 : Nat) : Int))), (1, (2, ((a1 : Nat) : Int))), (2, (2, ((a2 : Nat) : Int))), (3, (2, ((a3 : Nat) : Int))), (4, (0, x4))] ⟨rfl, rfl, rfl, rfl, rfl, trivial⟩ ?_
  have hF0 := fr_refl [(19, 1), (19, 2), (25, 1), (25, 2)] s0
  have J34 : ∀ n : Nat, ∀ (q34_l5 : Int) (q34_l5l : -2 ≤ q34_l5) (q34_l5h : q34_l5 ≤ 7) (s_34 : im_S) (hT_34 : tI s_34) (hF_34 : fr [(19, 1), (19, 2), (25, 1), (25, 2)] s0 s_34) (w34_83_9 : Nat) (w34_83_9k : gK[w34_83_9]? = some 19) (w34_83_9e : s_34.1 83 9 = ((w34_83_9 : Nat) : Int)) (w34_a2_0 : Int) (w34_a2_0l : -1 ≤ w34_a2_0) (w34_a2_0h : w34_a2_0 ≤ 8) (w34_a2_0e : s_34.1 a2 0 = w34_a2_0), (q34_l5 - -2 + 1) ≤ (n : Int) → ir gG rm_P L ys (d + 3) rm_p_X3_setValue (34, [(0, (2, ((83 : Nat) : Int))), (1, (2, ((a1 : Nat) : Int))), (2, (2, ((a2 : Nat) : Int))), (4, (0, x4)), (5, (0, q34_l5))], [], s_34) (fun r : im_Re => r.1 = none ∧ (tI r.2 ∧ fr [(19, 1), (19, 2), (25, 1), (25, 2)] s0 r.2)) := by
    intro n
    induction n with
    | zero => intro q34_l5 q34_l5l q34_l5h s_34 hT_34 hF_34 w34_83_9 w34_83_9k w34_83_9e w34_a2_0 w34_a2_0l w34_a2_0h w34_a2_0e hr; exfalso; omega
    | succ n ih34 =>
      intro q34_l5 q34_l5l q34_l5h s_34 hT_34 hF_34 w34_83_9 w34_83_9k w34_83_9e w34_a2_0 w34_a2_0l w34_a2_0h w34_a2_0e hr
      have J111 : ∀ (f111_5l : 0 ≤ q34_l5) (s_111 : im_S) (hT_111 : tI s_111) (hF_111 : fr [(19, 1), (19, 2), (25, 1), (25, 2)] s0 s_111) (w111_83_9 : Nat) (w111_83_9k : gK[w111_83_9]? = some 19) (w111_83_9e : s_111.1 83 9 = ((w111_83_9 : Nat) : Int)) (w111_83_11 : Nat) (w111_83_11k : gK[w111_83_11]? = some 25) (w111_83_11e : s_111.1 83 11 = ((w111_83_11 : Nat) : Int)) (w111_a2_0 : Int) (w111_a2_0l : -1 ≤ w111_a2_0) (w111_a2_0h : w111_a2_0 ≤ 8) (w111_a2_0e : s_111.1 a2 0 = w111_a2_0) (w111_a2_1 : Nat) (w111_a2_1k : gK[w111_a2_1]? = some 6) (w111_a2_1e : s_111.1 a2 1 = ((w111_a2_1 : Nat) : Int)), ir gG rm_P L ys (d + 3) rm_p_X3_setValue (111, [(0, (2, ((83 : Nat) : Int))), (1, (2, ((a1 : Nat) : Int))), (2, (2, ((a2 : Nat) : Int))), (4, (0, x4)), (5, (0, q34_l5))], [], s_111) (fun r : im_Re => r.1 = none ∧ (tI r.2 ∧ fr [(19, 1), (19, 2), (25, 1), (25, 2)] s0 r.2)) := by
        intro f111_5l s_111 hT_111 hF_111 w111_83_9 w111_83_9k w111_83_9e w111_83_11 w111_83_11k w111_83_11e w111_a2_0 w111_a2_0l w111_a2_0h w111_a2_0e w111_a2_1 w111_a2_1k w111_a2_1e
        refine ir_inc (pc' := 114) rfl rfl rfl rfl rfl (by omega) (by omega) ?_
        refine ir_goto (pc' := 34) rfl rfl ?_
        refine ir_w [(0, (2, ((83 : Nat) : Int))), (1, (2, ((a1 : Nat) : Int))), (2, (2, ((a2 : Nat) : Int))), (4, (0, x4)), (5, (0, (q34_l5 + (-1))))] ⟨rfl, rfl, rfl, rfl, rfl, trivial⟩ ?_
        exact ih34 ((q34_l5 + (-1))) (by omega) (by omega) s_111 hT_111 hF_111 w111_83_9 w111_83_9k w111_83_9e (w111_a2_0) (by omega) (by omega) w111_a2_0e (by omega)
      refine ir_l (pc' := 36) rfl rfl rfl rfl rfl rfl ?_
      refine ir_z_lt (pt := 117) (pc' := 39) rfl rfl rfl (fun c1 => ?_) (fun c1 => ?_)
      · exact ir_vret rfl rfl ⟨rfl, hT_34, hF_34⟩
      · refine ir_l (pc' := 40) rfl rfl rfl rfl rfl rfl ?_
        refine ir_tgr (pc' := 43) rfl rfl rfl tf_10_11 tsk_10 hT_34 (fun b2 b2e b2k => ?_)
        refine ir_l (pc' := 44) rfl rfl rfl rfl rfl rfl ?_
        refine ir_l (pc' := 45) rfl rfl rfl rfl rfl rfl ?_
        refine ir_getR (pc' := 48) rfl rfl rfl (gG_at tsk_10) rfl w34_83_9e ?_
        refine ir_cVV (pc' := 51) rfl rfl rfl rfl rfl (Nat.le_of_ble_eq_true rfl) oo_X1_setProduct (gG_at b2k) (sf_setProduct1_25_25_19 L ys (d + 1) s_34 hT_34 b2 b2k a1 a1k w34_83_9 w34_83_9k ) (fun s4 hr => ?_)
        obtain ⟨hT4, hG4⟩ := hr
        have hF4 := fr_trans hF_34 hG4 (by decide)
        have e5 : s4.1 83 9 = ((w34_83_9 : Nat) : Int) := (hG4.1 _ _ tsk_10 9 (by decide)).trans w34_83_9e
        have e6 : s4.1 a2 0 = w34_a2_0 := (hG4.1 _ _ a2k 0 (by decide)).trans w34_a2_0e
        have e7 : s4.1 83 11 = ((b2 : Nat) : Int) := (hG4.1 _ _ tsk_10 11 (by decide)).trans b2e
        refine ir_l (pc' := 52) rfl rfl rfl rfl rfl rfl ?_
        refine ir_l (pc' := 53) rfl rfl rfl rfl rfl rfl ?_
        refine ir_getR (pc' := 56) rfl rfl rfl (gG_at tsk_10) rfl e7 ?_
        refine ir_cVV (pc' := 59) rfl rfl rfl rfl rfl (Nat.le_of_ble_eq_true rfl) oo_X1_copy (gG_at a1k) (sf_copy1_25_25 L ys (d + 1) s4 hT4 a1 a1k b2 b2k ) (fun s9 hr => ?_)
        obtain ⟨hT9, hG9⟩ := hr
        have hF9 := fr_trans hF4 hG9 (by decide)
        have e10 : s9.1 83 9 = ((w34_83_9 : Nat) : Int) := (hG9.1 _ _ tsk_10 9 (by decide)).trans e5
        have e11 : s9.1 a2 0 = w34_a2_0 := (hG9.1 _ _ a2k 0 (by decide)).trans e6
        have e12 : s9.1 83 11 = ((b2 : Nat) : Int) := (hG9.1 _ _ tsk_10 11 (by decide)).trans e7
        refine ir_l (pc' := 60) rfl rfl rfl rfl rfl rfl ?_
        refine ir_tgr (pc' := 63) rfl rfl rfl tf_4_1 a2k hT9 (fun b13 b13e b13k => ?_)
        refine ir_l (pc' := 65) rfl rfl rfl rfl rfl rfl ?_
        refine ir_tla (pc' := 66) rfl rfl te_6 (by decide) b13k hT9 (by omega) (by omega) (fun z14 z14e z14l z14h => ?_)
        clear z14e
        refine ir_k (pc' := 67) (v := (1, 0)) rfl rfl rfl (fun _ => rfl) ?_
        refine ir_lcmp (pc' := 68) rfl rfl (by omega) (by omega) (by omega) (by omega) (fun z15 z15c => ?_)
        refine ir_z_eq (pt := 111) (pc' := 71) rfl rfl rfl (fun c16 => ?_) (fun c16 => ?_)
        · refine ir_w [(0, (2, ((83 : Nat) : Int))), (1, (2, ((a1 : Nat) : Int))), (2, (2, ((a2 : Nat) : Int))), (4, (0, x4)), (5, (0, q34_l5))] ⟨rfl, rfl, rfl, rfl, rfl, trivial⟩ ?_
          exact J111 (by omega) s9 hT9 hF9 w34_83_9 w34_83_9k e10 b2 b2k e12 (w34_a2_0) (by omega) (by omega) e11 b13 b13k b13e
        · refine ir_l (pc' := 72) rfl rfl rfl rfl rfl rfl ?_
          refine ir_tgr (pc' := 75) rfl rfl rfl tf_10_10 tsk_10 hT9 (fun b17 b17e b17k => ?_)
          refine ir_l (pc' := 76) rfl rfl rfl rfl rfl rfl ?_
          refine ir_getR (pc' := 79) rfl rfl rfl (gG_at a2k) rfl b13e ?_
          refine ir_l (pc' := 81) rfl rfl rfl rfl rfl rfl ?_
          refine ir_tla (pc' := 82) rfl rfl te_6 (by decide) b13k hT9 (by omega) (by omega) (fun z18 z18e z18l z18h => ?_)
          clear z18e
          refine ir_cVV (pc' := 85) rfl rfl rfl rfl rfl (Nat.le_of_ble_eq_true rfl) oo_X1_set (gG_at b17k) (sf_set1_25 L ys (d + 1) s9 hT9 b17 b17k (z18) (by omega) (by omega) ) (fun s20 hr => ?_)
          obtain ⟨hT20, hG20⟩ := hr
          have hF20 := fr_trans hF9 hG20 (by decide)
          have e21 : s20.1 83 9 = ((w34_83_9 : Nat) : Int) := (hG20.1 _ _ tsk_10 9 (by decide)).trans e10
          have e22 : s20.1 a2 0 = w34_a2_0 := (hG20.1 _ _ a2k 0 (by decide)).trans e11
          have e23 : s20.1 83 11 = ((b2 : Nat) : Int) := (hG20.1 _ _ tsk_10 11 (by decide)).trans e12
          have e24 : s20.1 a2 1 = ((b13 : Nat) : Int) := (hG20.1 _ _ a2k 1 (by decide)).trans b13e
          have e25 : s20.1 83 10 = ((b17 : Nat) : Int) := (hG20.1 _ _ tsk_10 10 (by decide)).trans b17e
          refine ir_l (pc' := 86) rfl rfl rfl rfl rfl rfl ?_
          refine ir_getR (pc' := 89) rfl rfl rfl (gG_at tsk_10) rfl e25 ?_
          refine ir_l (pc' := 91) rfl rfl rfl rfl rfl rfl ?_
          refine ir_l (pc' := 92) rfl rfl rfl rfl rfl rfl ?_
          refine ir_getI (pc' := 95) rfl rfl rfl (gG_at a2k) rfl (by decide) (by decide) e22 (by omega) (by omega) ?_
          refine ir_l (pc' := 97) rfl rfl rfl rfl rfl rfl ?_
          refine ir_sub (pc' := 98) rfl rfl (by omega) (by omega) ?_
          refine ir_iiA (pc' := 99) rfl rfl rfl rfl (fun z26 z26l z26h => ?_)
          refine ir_cVV (pc' := 102) rfl rfl rfl rfl rfl (Nat.le_of_ble_eq_true rfl) oo_X1_shiftUp (gG_at b17k) (sf_shiftUp1_25 L ys (d + 1) s20 hT20 b17 b17k (z26) (by omega) (by omega) ) (fun s28 hr => ?_)
          obtain ⟨hT28, hG28⟩ := hr
          have hF28 := fr_trans hF20 hG28 (by decide)
          have e29 : s28.1 83 9 = ((w34_83_9 : Nat) : Int) := (hG28.1 _ _ tsk_10 9 (by decide)).trans e21
          have e30 : s28.1 a2 0 = w34_a2_0 := (hG28.1 _ _ a2k 0 (by decide)).trans e22
          have e31 : s28.1 83 11 = ((b2 : Nat) : Int) := (hG28.1 _ _ tsk_10 11 (by decide)).trans e23
          have e32 : s28.1 a2 1 = ((b13 : Nat) : Int) := (hG28.1 _ _ a2k 1 (by decide)).trans e24
          have e33 : s28.1 83 10 = ((b17 : Nat) : Int) := (hG28.1 _ _ tsk_10 10 (by decide)).trans e25
          refine ir_l (pc' := 103) rfl rfl rfl rfl rfl rfl ?_
          refine ir_l (pc' := 104) rfl rfl rfl rfl rfl rfl ?_
          refine ir_getR (pc' := 107) rfl rfl rfl (gG_at tsk_10) rfl e33 ?_
          refine ir_k (pc' := 108) (v := (0, 1)) rfl rfl rfl (fun _ => rfl) ?_
          refine ir_cVV (pc' := 111) rfl rfl rfl rfl rfl (Nat.le_of_ble_eq_true rfl) oo_X1_add (gG_at a1k) (sf_add1_25_25 L ys d s28 hT28 a1 a1k b17 b17k (1) (by omega) (by omega) ) (fun s35 hr => ?_)
          obtain ⟨hT35, hG35⟩ := hr
          have hF35 := fr_trans hF28 hG35 (by decide)
          have e36 : s35.1 83 9 = ((w34_83_9 : Nat) : Int) := (hG35.1 _ _ tsk_10 9 (by decide)).trans e29
          have e37 : s35.1 a2 0 = w34_a2_0 := (hG35.1 _ _ a2k 0 (by decide)).trans e30
          have e38 : s35.1 83 11 = ((b2 : Nat) : Int) := (hG35.1 _ _ tsk_10 11 (by decide)).trans e31
          have e39 : s35.1 a2 1 = ((b13 : Nat) : Int) := (hG35.1 _ _ a2k 1 (by decide)).trans e32
          have e40 : s35.1 83 10 = ((b17 : Nat) : Int) := (hG35.1 _ _ tsk_10 10 (by decide)).trans e33
          refine ir_w [(0, (2, ((83 : Nat) : Int))), (1, (2, ((a1 : Nat) : Int))), (2, (2, ((a2 : Nat) : Int))), (4, (0, x4)), (5, (0, q34_l5))] ⟨rfl, rfl, rfl, rfl, rfl, trivial⟩ ?_
          exact J111 (by omega) s35 hT35 hF35 w34_83_9 w34_83_9k e36 b2 b2k e38 (w34_a2_0) (by omega) (by omega) e37 b13 b13k e39
  refine ir_l (pc' := 1) rfl rfl rfl rfl rfl rfl ?_
  refine ir_tgr (pc' := 4) rfl rfl rfl tf_10_9 tsk_10 hT0 (fun b41 b41e b41k => ?_)
  refine ir_l (pc' := 5) rfl rfl rfl rfl rfl rfl ?_
  refine ir_cVV (pc' := 8) rfl rfl rfl rfl rfl (Nat.le_of_ble_eq_true rfl) oo_X1_copy (gG_at b41k) (sf_copy1_19_19 L ys (d + 1) s0 hT0 b41 b41k a3 a3k ) (fun s43 hr => ?_)
  obtain ⟨hT43, hG43⟩ := hr
  have hF43 := fr_trans hF0 hG43 (by decide)
  have e44 : s43.1 83 9 = ((b41 : Nat) : Int) := (hG43.1 _ _ tsk_10 9 (by decide)).trans b41e
  refine ir_l (pc' := 9) rfl rfl rfl rfl rfl rfl ?_
  refine ir_getR (pc' := 12) rfl rfl rfl (gG_at tsk_10) rfl e44 ?_
  refine ir_l (pc' := 14) rfl rfl rfl rfl rfl rfl ?_
  refine ir_i1A (pc' := 15) rfl rfl rfl rfl (fun z45 z45e z45l z45h => ?_)
  clear z45e
  refine ir_cVV (pc' := 18) rfl rfl rfl rfl rfl (Nat.le_of_ble_eq_true rfl) oo_X1_shiftUp (gG_at b41k) (sf_shiftUp1_19 L ys (d + 1) s43 hT43 b41 b41k (z45) (by omega) (by omega) ) (fun s47 hr => ?_)
  obtain ⟨hT47, hG47⟩ := hr
  have hF47 := fr_trans hF43 hG47 (by decide)
  have e48 : s47.1 83 9 = ((b41 : Nat) : Int) := (hG47.1 _ _ tsk_10 9 (by decide)).trans e44
  refine ir_l (pc' := 19) rfl rfl rfl rfl rfl rfl ?_
  refine ir_l (pc' := 20) rfl rfl rfl rfl rfl rfl ?_
  refine ir_cVI (pc' := 23) rfl rfl rfl rfl rfl (Nat.le_of_ble_eq_true rfl) oo_X6_lead (gG_at a2k) (sf_lead6 L ys (d + 2) s47 hT47 a2 a2k ) (fun z49 s50 hr => ?_)
  obtain ⟨hT50, hG50, z49l, z49h, p50_0⟩ := hr
  have hF50 := fr_trans hF47 hG50 (by decide)
  have e51 : s50.1 83 9 = ((b41 : Nat) : Int) := (hG50.1 _ _ tsk_10 9 (by decide)).trans e48
  refine ir_cVV (pc' := 26) rfl rfl rfl rfl rfl (Nat.le_of_ble_eq_true rfl) oo_X1_set (gG_at a1k) (sf_set1_25 L ys (d + 1) s50 hT50 a1 a1k (z49) (by omega) (by omega) ) (fun s53 hr => ?_)
  obtain ⟨hT53, hG53⟩ := hr
  have hF53 := fr_trans hF50 hG53 (by decide)
  have e54 : s53.1 83 9 = ((b41 : Nat) : Int) := (hG53.1 _ _ tsk_10 9 (by decide)).trans e51
  refine ir_l (pc' := 27) rfl rfl rfl rfl rfl rfl ?_
  refine ir_tgi (pc' := 30) rfl rfl rfl tf_4_0 a2k hT53 (fun z55 z55e z55l z55h => ?_)
  refine ir_k (pc' := 31) (v := (0, 1)) rfl rfl rfl (fun _ => rfl) ?_
  refine ir_sub (pc' := 32) rfl rfl (by omega) (by omega) ?_
  refine ir_s (pc' := 34) rfl rfl rfl rfl rfl rfl ?_
  refine ir_w [(0, (2, ((83 : Nat) : Int))), (1, (2, ((a1 : Nat) : Int))), (2, (2, ((a2 : Nat) : Int))), (4, (0, x4)), (5, (0, (z55 - 1)))] ⟨rfl, rfl, rfl, rfl, rfl, trivial⟩ ?_
  exact J34 _ ((z55 - 1)) (by omega) (by omega) s53 hT53 hF53 b41 b41k e54 (z55) (by omega) (by omega) z55e (Int.self_le_toNat _)
theorem sf_bits1_25 (L : Nat) (ys : Nat → Int32) (d : Nat) (s0 : im_S) (hT0 : tI s0) (a0 : Nat) (a0k : gK[a0]? = some 25) : icI gG rm_P L ys 0 (d + 2) 109 [(2, (a0 : Int))] s0 (fun z s => tI s ∧ fr [] s0 s ∧ -2147483648 ≤ z ∧ z ≤ 2147483647) := by
  refine ic_startM (M := rm_p_X1_bits) om_X1_bits (Nat.le_of_ble_eq_true rfl) ?_
  refine ir_w [(0, (2, ((a0 : Nat) : Int)))] ⟨rfl, trivial⟩ ?_
  have hF0 := fr_refl [] s0
  have J40 : ∀ (q40_s0 : Int) (q40_s0l : -2147483648 ≤ q40_s0) (q40_s0h : q40_s0 ≤ 2147483647) (s_40 : im_S) (hT_40 : tI s_40) (hF_40 : fr [] s0 s_40) (w40_a0_1 : Int) (w40_a0_1l : 0 ≤ w40_a0_1) (w40_a0_1h : w40_a0_1 ≤ 196) (w40_a0_1e : s_40.1 a0 1 = w40_a0_1), ir gG rm_P L ys (d + 1) rm_p_X1_bits (40, [], [(0, q40_s0)], s_40) (fun r : im_Re => ∃ z, r.1 = some (0, z) ∧ (tI r.2 ∧ fr [] s0 r.2 ∧ -2147483648 ≤ z ∧ z ≤ 2147483647)) := by
    intro q40_s0 q40_s0l q40_s0h s_40 hT_40 hF_40 w40_a0_1 w40_a0_1l w40_a0_1h w40_a0_1e
    exact ir_iret rfl rfl ⟨_, rfl, hT_40, hF_40, by omega, by omega⟩
  refine ir_l (pc' := 1) rfl rfl rfl rfl rfl rfl ?_
  refine ir_tgi (pc' := 4) rfl rfl rfl tf_25_1 a0k hT0 (fun z1 z1e z1l z1h => ?_)
  refine ir_z_ne (pt := 11) (pc' := 7) rfl rfl rfl (fun c2 => ?_) (fun c2 => ?_)
  · refine ir_k (pc' := 13) (v := (0, 32)) rfl rfl rfl (fun _ => rfl) ?_
    refine ir_l (pc' := 14) rfl rfl rfl rfl rfl rfl ?_
    refine ir_getI (pc' := 17) rfl rfl rfl (gG_at a0k) rfl (by decide) (by decide) z1e (by omega) (by omega) ?_
    refine ir_k (pc' := 18) (v := (0, 1)) rfl rfl rfl (fun _ => rfl) ?_
    refine ir_sub (pc' := 19) rfl rfl (by omega) (by omega) ?_
    refine ir_mul (pc' := 20) rfl rfl (by omega) (by omega) ?_
    refine ir_l (pc' := 21) rfl rfl rfl rfl rfl rfl ?_
    refine ir_tgr (pc' := 24) rfl rfl rfl tf_25_0 a0k hT0 (fun b3 b3e b3k => ?_)
    refine ir_l (pc' := 25) rfl rfl rfl rfl rfl rfl ?_
    refine ir_getI (pc' := 28) rfl rfl rfl (gG_at a0k) rfl (by decide) (by decide) z1e (by omega) (by omega) ?_
    refine ir_k (pc' := 29) (v := (0, 1)) rfl rfl rfl (fun _ => rfl) ?_
    refine ir_sub (pc' := 30) rfl rfl (by omega) (by omega) ?_
    refine ir_tia (pc' := 31) rfl rfl te_26 (by decide) b3k hT0 (by omega) (by omega) (fun z4 z4e z4l z4h => ?_)
    clear z4e
    refine ir_i2l (pc' := 32) rfl rfl (by omega) (by omega) ?_
    refine ir_k (pc' := 35) (v := (1, 4294967295)) rfl rfl rfl (fun _ => rfl) ?_
    refine ir_landm (pc' := 36) rfl rfl (by decide) (by decide) (fun z5 z5l z5h => ?_)
    refine ir_cSI (pc' := 39) rfl rfl rfl rfl rfl rfl (Nat.le_of_ble_eq_true rfl) (sf_width1 L ys d s0 hT0 (z5) (by omega) (by omega) ) (fun z6 s7 hr => ?_)
    obtain ⟨hT7, hG7, z6l, z6h⟩ := hr
    have hF7 := fr_trans hF0 hG7 (by decide)
    have e8 : s7.1 a0 1 = z1 := (hG7.1 _ _ a0k 1 (by decide)).trans z1e
    have e9 : s7.1 a0 0 = ((b3 : Nat) : Int) := (hG7.1 _ _ a0k 0 (by decide)).trans b3e
    refine ir_iiA (pc' := 40) rfl rfl rfl rfl (fun z10 z10l z10h => ?_)
    refine ir_w [] trivial ?_
    exact J40 (z10) (by omega) (by omega) s7 hT7 hF7 (z1) (by omega) (by omega) e8
  · refine ir_k (pc' := 8) (v := (0, 0)) rfl rfl rfl (fun _ => rfl) ?_
    refine ir_goto (pc' := 40) rfl rfl ?_
    refine ir_w [] trivial ?_
    exact J40 (0) (by omega) (by omega) s0 hT0 hF0 (z1) (by omega) (by omega) z1e
theorem sf_shiftDown1_25 (L : Nat) (ys : Nat → Int32) (d : Nat) (s0 : im_S) (hT0 : tI s0) (a0 : Nat) (a0k : gK[a0]? = some 25) (x1 : Int) (x1l : -2147483648 ≤ x1) (x1h : x1 ≤ 2147483647) : icV gG rm_P L ys (d + 2) 117 [(2, (a0 : Int)), (0, x1)] s0 (fun s => tI s ∧ fr [(25, 1), (25, 2)] s0 s) := by
  refine ic_startM (M := rm_p_X1_shiftDown) om_X1_shiftDown (Nat.le_of_ble_eq_true rfl) ?_
  refine ir_w [(0, (2, ((a0 : Nat) : Int))), (1, (0, x1))] ⟨rfl, rfl, trivial⟩ ?_
  have hF0 := fr_refl [(25, 1), (25, 2)] s0
  have J24 : ∀ n : Nat, ∀ (q24_l2 : Int) (q24_l2l : 0 ≤ q24_l2) (q24_l2h : q24_l2 ≤ 67108863) (q24_l3 : Int) (q24_l3l : 0 ≤ q24_l3) (q24_l3h : q24_l3 ≤ 31) (q24_l4 : Int) (q24_l4l : 0 ≤ q24_l4) (q24_l4h : q24_l4 ≤ 196) (s_24 : im_S) (hT_24 : tI s_24) (hF_24 : fr [(25, 1), (25, 2)] s0 s_24) (w24_a0_2 : Int) (w24_a0_2l : -2147483648 ≤ w24_a0_2) (w24_a0_2h : w24_a0_2 ≤ 2147483647) (w24_a0_2e : s_24.1 a0 2 = w24_a0_2), (196 + 1 - q24_l4) ≤ (n : Int) → ir gG rm_P L ys (d + 1) rm_p_X1_shiftDown (24, [(0, (2, ((a0 : Nat) : Int))), (2, (0, q24_l2)), (3, (0, q24_l3)), (4, (0, q24_l4))], [], s_24) (fun r : im_Re => r.1 = none ∧ (tI r.2 ∧ fr [(25, 1), (25, 2)] s0 r.2)) := by
    intro n
    induction n with
    | zero => intro q24_l2 q24_l2l q24_l2h q24_l3 q24_l3l q24_l3h q24_l4 q24_l4l q24_l4h s_24 hT_24 hF_24 w24_a0_2 w24_a0_2l w24_a0_2h w24_a0_2e hr; exfalso; omega
    | succ n ih24 =>
      intro q24_l2 q24_l2l q24_l2h q24_l3 q24_l3l q24_l3h q24_l4 q24_l4l q24_l4h s_24 hT_24 hF_24 w24_a0_2 w24_a0_2l w24_a0_2h w24_a0_2e hr
      have J97 : ∀ (q97_l5 : Int) (q97_l5l : 0 ≤ q97_l5) (q97_l5h : q97_l5 ≤ 4294967295) (q97_s0 : Int) (q97_s0l : 0 ≤ q97_s0) (q97_s0h : q97_s0 ≤ 4294967295) (f97_4h : q24_l4 ≤ 195) (s_97 : im_S) (hT_97 : tI s_97) (hF_97 : fr [(25, 1), (25, 2)] s0 s_97) (w97_a0_1 : Int) (w97_a0_1l : 1 ≤ w97_a0_1) (w97_a0_1h : w97_a0_1 ≤ 196) (w97_a0_1e : s_97.1 a0 1 = w97_a0_1) (w97_a0_2 : Int) (w97_a0_2l : -2147483648 ≤ w97_a0_2) (w97_a0_2h : w97_a0_2 ≤ 2147483647) (w97_a0_2e : s_97.1 a0 2 = w97_a0_2), ir gG rm_P L ys (d + 1) rm_p_X1_shiftDown (97, [(0, (2, ((a0 : Nat) : Int))), (2, (0, q24_l2)), (3, (0, q24_l3)), (4, (0, q24_l4)), (5, (1, q97_l5))], [(1, q97_s0)], s_97) (fun r : im_Re => r.1 = none ∧ (tI r.2 ∧ fr [(25, 1), (25, 2)] s0 r.2)) := by
        intro q97_l5 q97_l5l q97_l5h q97_s0 q97_s0l q97_s0h f97_4h s_97 hT_97 hF_97 w97_a0_1 w97_a0_1l w97_a0_1h w97_a0_1e w97_a0_2 w97_a0_2l w97_a0_2h w97_a0_2e
        refine ir_s2 (pc' := 99) rfl rfl rfl rfl rfl rfl ?_
        refine ir_l (pc' := 100) rfl rfl rfl rfl rfl rfl ?_
        refine ir_tgr (pc' := 103) rfl rfl rfl tf_25_0 a0k hT_97 (fun b1 b1e b1k => ?_)
        refine ir_l (pc' := 105) rfl rfl rfl rfl rfl rfl ?_
        refine ir_l (pc' := 107) rfl rfl rfl rfl rfl rfl ?_
        refine ir_k (pc' := 109) (v := (0, 32)) rfl rfl rfl (fun _ => rfl) ?_
        refine ir_jijA (pc' := 110) rfl rfl rfl rfl (fun z2 z2l z2h => ?_)
        refine ir_l (pc' := 112) rfl rfl rfl rfl rfl rfl ?_
        refine ir_jjA (pc' := 113) rfl rfl rfl rfl (fun z3 z3l z3h => ?_)
        refine ir_l (pc' := 114) rfl rfl rfl rfl rfl rfl ?_
        refine ir_jijA (pc' := 115) rfl rfl rfl rfl (fun z4 z4l z4h => ?_)
        refine ir_j1A (pc' := 116) rfl rfl rfl rfl (fun z5 z5e z5l z5h => ?_)
        clear z5e
        refine ir_tis (pc' := 117) rfl rfl rfl rfl te_26 b1k hT_97 (by omega) (by omega) (rfl) (by omega) (by omega) (fun s6 hT6 r6 o6 => ?_)
        have hF6 := fr_row hF_97 r6 o6
        have e7 : s6.1 a0 2 = w97_a0_2 := by rw [r6]; exact w97_a0_2e
        have e8 : s6.1 a0 1 = w97_a0_1 := by rw [r6]; exact w97_a0_1e
        have e9 : s6.1 a0 0 = ((b1 : Nat) : Int) := by rw [r6]; exact b1e
        refine ir_inc (pc' := 120) rfl rfl rfl rfl rfl (by omega) (by omega) ?_
        refine ir_goto (pc' := 24) rfl rfl ?_
        refine ir_w [(0, (2, ((a0 : Nat) : Int))), (2, (0, q24_l2)), (3, (0, q24_l3)), (4, (0, (q24_l4 + 1)))] ⟨rfl, rfl, rfl, rfl, trivial⟩ ?_
        exact ih24 (q24_l2) (by omega) (by omega) (q24_l3) (by omega) (by omega) ((q24_l4 + 1)) (by omega) (by omega) s6 hT6 hF6 (w97_a0_2) (by omega) (by omega) e7 (by omega)
      have J62 : ∀ (q62_s0 : Int) (q62_s0l : 0 ≤ q62_s0) (q62_s0h : q62_s0 ≤ 4294967295) (f62_4h : q24_l4 ≤ 195) (s_62 : im_S) (hT_62 : tI s_62) (hF_62 : fr [(25, 1), (25, 2)] s0 s_62) (w62_a0_1 : Int) (w62_a0_1l : 1 ≤ w62_a0_1) (w62_a0_1h : w62_a0_1 ≤ 196) (w62_a0_1e : s_62.1 a0 1 = w62_a0_1) (w62_a0_2 : Int) (w62_a0_2l : -2147483648 ≤ w62_a0_2) (w62_a0_2h : w62_a0_2 ≤ 2147483647) (w62_a0_2e : s_62.1 a0 2 = w62_a0_2), ir gG rm_P L ys (d + 1) rm_p_X1_shiftDown (62, [(0, (2, ((a0 : Nat) : Int))), (2, (0, q24_l2)), (3, (0, q24_l3)), (4, (0, q24_l4))], [(1, q62_s0)], s_62) (fun r : im_Re => r.1 = none ∧ (tI r.2 ∧ fr [(25, 1), (25, 2)] s0 r.2)) := by
        intro q62_s0 q62_s0l q62_s0h f62_4h s_62 hT_62 hF_62 w62_a0_1 w62_a0_1l w62_a0_1h w62_a0_1e w62_a0_2 w62_a0_2l w62_a0_2h w62_a0_2e
        refine ir_s2 (pc' := 64) rfl rfl rfl rfl rfl rfl ?_
        refine ir_l (pc' := 66) rfl rfl rfl rfl rfl rfl ?_
        refine ir_l (pc' := 67) rfl rfl rfl rfl rfl rfl ?_
        refine ir_add (pc' := 68) rfl rfl (by omega) (by omega) ?_
        refine ir_k (pc' := 69) (v := (0, 1)) rfl rfl rfl (fun _ => rfl) ?_
        refine ir_add (pc' := 70) rfl rfl (by omega) (by omega) ?_
        refine ir_l (pc' := 71) rfl rfl rfl rfl rfl rfl ?_
        refine ir_getI (pc' := 74) rfl rfl rfl (gG_at a0k) rfl (by decide) (by decide) w62_a0_1e (by omega) (by omega) ?_
        refine ir_c_ge (pt := 96) (pc' := 77) rfl rfl rfl (fun c10 => ?_) (fun c10 => ?_)
        · refine ir_k (pc' := 97) (v := (1, 0)) rfl rfl rfl (fun _ => rfl) ?_
          refine ir_w [(0, (2, ((a0 : Nat) : Int))), (2, (0, q24_l2)), (3, (0, q24_l3)), (4, (0, q24_l4)), (5, (1, q62_s0))] ⟨rfl, rfl, rfl, rfl, rfl, trivial⟩ ?_
          exact J97 (q62_s0) (by omega) (by omega) (0) (by omega) (by omega) (by omega) s_62 hT_62 hF_62 (w62_a0_1) (by omega) (by omega) w62_a0_1e (w62_a0_2) (by omega) (by omega) w62_a0_2e
        · refine ir_l (pc' := 78) rfl rfl rfl rfl rfl rfl ?_
          refine ir_tgr (pc' := 81) rfl rfl rfl tf_25_0 a0k hT_62 (fun b11 b11e b11k => ?_)
          refine ir_l (pc' := 83) rfl rfl rfl rfl rfl rfl ?_
          refine ir_l (pc' := 84) rfl rfl rfl rfl rfl rfl ?_
          refine ir_add (pc' := 85) rfl rfl (by omega) (by omega) ?_
          refine ir_k (pc' := 86) (v := (0, 1)) rfl rfl rfl (fun _ => rfl) ?_
          refine ir_add (pc' := 87) rfl rfl (by omega) (by omega) ?_
          refine ir_tia (pc' := 88) rfl rfl te_26 (by decide) b11k hT_62 (by omega) (by omega) (fun z12 z12e z12l z12h => ?_)
          clear z12e
          refine ir_i2l (pc' := 89) rfl rfl (by omega) (by omega) ?_
          refine ir_k (pc' := 92) (v := (1, 4294967295)) rfl rfl rfl (fun _ => rfl) ?_
          refine ir_landm (pc' := 93) rfl rfl (by decide) (by decide) (fun z13 z13l z13h => ?_)
          refine ir_goto (pc' := 97) rfl rfl ?_
          refine ir_w [(0, (2, ((a0 : Nat) : Int))), (2, (0, q24_l2)), (3, (0, q24_l3)), (4, (0, q24_l4)), (5, (1, q62_s0))] ⟨rfl, rfl, rfl, rfl, rfl, trivial⟩ ?_
          exact J97 (q62_s0) (by omega) (by omega) (z13) (by omega) (by omega) (by omega) s_62 hT_62 hF_62 (w62_a0_1) (by omega) (by omega) w62_a0_1e (w62_a0_2) (by omega) (by omega) w62_a0_2e
      refine ir_l (pc' := 26) rfl rfl rfl rfl rfl rfl ?_
      refine ir_l (pc' := 27) rfl rfl rfl rfl rfl rfl ?_
      refine ir_tgi (pc' := 30) rfl rfl rfl tf_25_1 a0k hT_24 (fun z14 z14e z14l z14h => ?_)
      refine ir_c_ge (pt := 123) (pc' := 33) rfl rfl rfl (fun c15 => ?_) (fun c15 => ?_)
      · refine ir_l (pc' := 124) rfl rfl rfl rfl rfl rfl ?_
        refine ir_cVV (pc' := 127) rfl rfl rfl rfl rfl (Nat.le_of_ble_eq_true rfl) oo_X1_trim (gG_at a0k) (sf_trim1_25 L ys d s_24 hT_24 a0 a0k ) (fun s17 hr => ?_)
        obtain ⟨hT17, hG17⟩ := hr
        have hF17 := fr_trans hF_24 hG17 (by decide)
        exact ir_vret rfl rfl ⟨rfl, hT17, hF17⟩
      · refine ir_l (pc' := 35) rfl rfl rfl rfl rfl rfl ?_
        refine ir_l (pc' := 36) rfl rfl rfl rfl rfl rfl ?_
        refine ir_add (pc' := 37) rfl rfl (by omega) (by omega) ?_
        refine ir_l (pc' := 38) rfl rfl rfl rfl rfl rfl ?_
        refine ir_getI (pc' := 41) rfl rfl rfl (gG_at a0k) rfl (by decide) (by decide) z14e (by omega) (by omega) ?_
        refine ir_c_ge (pt := 61) (pc' := 44) rfl rfl rfl (fun c18 => ?_) (fun c18 => ?_)
        · refine ir_k (pc' := 62) (v := (1, 0)) rfl rfl rfl (fun _ => rfl) ?_
          refine ir_w [(0, (2, ((a0 : Nat) : Int))), (2, (0, q24_l2)), (3, (0, q24_l3)), (4, (0, q24_l4))] ⟨rfl, rfl, rfl, rfl, trivial⟩ ?_
          exact J62 (0) (by omega) (by omega) (by omega) s_24 hT_24 hF_24 (z14) (by omega) (by omega) z14e (w24_a0_2) (by omega) (by omega) w24_a0_2e
        · refine ir_l (pc' := 45) rfl rfl rfl rfl rfl rfl ?_
          refine ir_tgr (pc' := 48) rfl rfl rfl tf_25_0 a0k hT_24 (fun b19 b19e b19k => ?_)
          refine ir_l (pc' := 50) rfl rfl rfl rfl rfl rfl ?_
          refine ir_l (pc' := 51) rfl rfl rfl rfl rfl rfl ?_
          refine ir_add (pc' := 52) rfl rfl (by omega) (by omega) ?_
          refine ir_tia (pc' := 53) rfl rfl te_26 (by decide) b19k hT_24 (by omega) (by omega) (fun z20 z20e z20l z20h => ?_)
          clear z20e
          refine ir_i2l (pc' := 54) rfl rfl (by omega) (by omega) ?_
          refine ir_k (pc' := 57) (v := (1, 4294967295)) rfl rfl rfl (fun _ => rfl) ?_
          refine ir_landm (pc' := 58) rfl rfl (by decide) (by decide) (fun z21 z21l z21h => ?_)
          refine ir_goto (pc' := 62) rfl rfl ?_
          refine ir_w [(0, (2, ((a0 : Nat) : Int))), (2, (0, q24_l2)), (3, (0, q24_l3)), (4, (0, q24_l4))] ⟨rfl, rfl, rfl, rfl, trivial⟩ ?_
          exact J62 (z21) (by omega) (by omega) (by omega) s_24 hT_24 hF_24 (z14) (by omega) (by omega) z14e (w24_a0_2) (by omega) (by omega) w24_a0_2e
  have J20 : ∀ (s_20 : im_S) (hT_20 : tI s_20) (hF_20 : fr [(25, 1), (25, 2)] s0 s_20), ir gG rm_P L ys (d + 1) rm_p_X1_shiftDown (20, [], [], s_20) (fun r : im_Re => r.1 = none ∧ (tI r.2 ∧ fr [(25, 1), (25, 2)] s0 r.2)) := by
    intro s_20 hT_20 hF_20
    exact ir_vret rfl rfl ⟨rfl, hT_20, hF_20⟩
  refine ir_l (pc' := 1) rfl rfl rfl rfl rfl rfl ?_
  refine ir_k (pc' := 2) (v := (0, 5)) rfl rfl rfl (fun _ => rfl) ?_
  refine ir_shr (pc' := 3) (y := 5) (k := 5) (m := 32) rfl rfl (by decide) rfl (by decide) (by omega) (by omega) ?_
  refine ir_s (pc' := 4) rfl rfl rfl rfl rfl rfl ?_
  refine ir_l (pc' := 5) rfl rfl rfl rfl rfl rfl ?_
  refine ir_k (pc' := 7) (v := (0, 31)) rfl rfl rfl (fun _ => rfl) ?_
  refine ir_andm (pc' := 8) rfl rfl (by decide) (by decide) (fun z22 z22l z22h => ?_)
  refine ir_s (pc' := 9) rfl rfl rfl rfl rfl rfl ?_
  refine ir_l (pc' := 10) rfl rfl rfl rfl rfl rfl ?_
  refine ir_z_le (pt := 20) (pc' := 13) rfl rfl rfl (fun c23 => ?_) (fun c23 => ?_)
  · refine ir_w [] trivial ?_
    exact J20 s0 hT0 hF0
  · refine ir_l (pc' := 14) rfl rfl rfl rfl rfl rfl ?_
    refine ir_tgi (pc' := 17) rfl rfl rfl tf_25_2 a0k hT0 (fun z24 z24e z24l z24h => ?_)
    refine ir_z_ne (pt := 21) (pc' := 20) rfl rfl rfl (fun c25 => ?_) (fun c25 => ?_)
    · refine ir_k (pc' := 22) (v := (0, 0)) rfl rfl rfl (fun _ => rfl) ?_
      refine ir_s (pc' := 24) rfl rfl rfl rfl rfl rfl ?_
      refine ir_w [(0, (2, ((a0 : Nat) : Int))), (2, (0, (x1 / 32))), (3, (0, z22)), (4, (0, 0))] ⟨rfl, rfl, rfl, rfl, trivial⟩ ?_
      exact J24 _ ((x1 / 32)) (by omega) (by omega) (z22) (by omega) (by omega) (0) (by omega) (by omega) s0 hT0 hF0 (z24) (by omega) (by omega) z24e (Int.self_le_toNat _)
    · refine ir_w [] trivial ?_
      exact J20 s0 hT0 hF0
theorem sf_set1_19 (L : Nat) (ys : Nat → Int32) (d : Nat) (s0 : im_S) (hT0 : tI s0) (a0 : Nat) (a0k : gK[a0]? = some 19) (x1 : Int) (x1l : -9223372036854775808 ≤ x1) (x1h : x1 ≤ 9223372036854775807) : icV gG rm_P L ys (d + 2) 115 [(2, (a0 : Int)), (1, x1)] s0 (fun s => tI s ∧ fr [(19, 1), (19, 2)] s0 s) := by
  refine ic_startM (M := rm_p_X1_set) om_X1_set (Nat.le_of_ble_eq_true rfl) ?_
  refine ir_w [(0, (2, ((a0 : Nat) : Int))), (1, (1, x1))] ⟨rfl, rfl, trivial⟩ ?_
  have hF0 := fr_refl [(19, 1), (19, 2)] s0
  have J62 : ∀ (s_62 : im_S) (hT_62 : tI s_62) (hF_62 : fr [(19, 1), (19, 2)] s0 s_62) (w62_a0_1 : Int) (w62_a0_1l : 0 ≤ w62_a0_1) (w62_a0_1h : w62_a0_1 ≤ 2) (w62_a0_1e : s_62.1 a0 1 = w62_a0_1) (w62_a0_2 : Int) (w62_a0_2l : -1 ≤ w62_a0_2) (w62_a0_2h : w62_a0_2 ≤ 1) (w62_a0_2e : s_62.1 a0 2 = w62_a0_2), ir gG rm_P L ys (d + 1) rm_p_X1_set (62, [], [], s_62) (fun r : im_Re => r.1 = none ∧ (tI r.2 ∧ fr [(19, 1), (19, 2)] s0 r.2)) := by
    intro s_62 hT_62 hF_62 w62_a0_1 w62_a0_1l w62_a0_1h w62_a0_1e w62_a0_2 w62_a0_2l w62_a0_2h w62_a0_2e
    exact ir_vret rfl rfl ⟨rfl, hT_62, hF_62⟩
  have J19 : ∀ n : Nat, ∀ (q19_l3 : Int) (q19_l3l : -9223372036854775808 ≤ q19_l3) (q19_l3h : q19_l3 ≤ 9223372036854775807) (s_19 : im_S) (hT_19 : tI s_19) (hF_19 : fr [(19, 1), (19, 2)] s0 s_19) (w19_a0_1 : Int) (w19_a0_1l : 0 ≤ w19_a0_1) (w19_a0_1h : w19_a0_1 ≤ 2) (w19_a0_1e : s_19.1 a0 1 = w19_a0_1) (w19_a0_2 : Int) (w19_a0_2l : -1 ≤ w19_a0_2) (w19_a0_2h : w19_a0_2 ≤ 1) (w19_a0_2e : s_19.1 a0 2 = w19_a0_2), (3 - w19_a0_1) ≤ (n : Int) → ir gG rm_P L ys (d + 1) rm_p_X1_set (19, [(0, (2, ((a0 : Nat) : Int))), (3, (1, q19_l3))], [], s_19) (fun r : im_Re => r.1 = none ∧ (tI r.2 ∧ fr [(19, 1), (19, 2)] s0 r.2)) := by
    intro n
    induction n with
    | zero => intro q19_l3 q19_l3l q19_l3h s_19 hT_19 hF_19 w19_a0_1 w19_a0_1l w19_a0_1h w19_a0_1e w19_a0_2 w19_a0_2l w19_a0_2h w19_a0_2e hr; exfalso; omega
    | succ n ih19 =>
      intro q19_l3 q19_l3l q19_l3h s_19 hT_19 hF_19 w19_a0_1 w19_a0_1l w19_a0_1h w19_a0_1e w19_a0_2 w19_a0_2l w19_a0_2h w19_a0_2e hr
      refine ir_l (pc' := 20) rfl rfl rfl rfl rfl rfl ?_
      refine ir_k (pc' := 21) (v := (1, 0)) rfl rfl rfl (fun _ => rfl) ?_
      refine ir_lcmp (pc' := 22) rfl rfl (by omega) (by omega) (by omega) (by omega) (fun z1 z1c => ?_)
      refine ir_z_eq (pt := 62) (pc' := 25) rfl rfl rfl (fun c2 => ?_) (fun c2 => ?_)
      · refine ir_w [] trivial ?_
        exact J62 s_19 hT_19 hF_19 (w19_a0_1) (by omega) (by omega) w19_a0_1e (w19_a0_2) (by omega) (by omega) w19_a0_2e
      · refine ir_l (pc' := 26) rfl rfl rfl rfl rfl rfl ?_
        refine ir_getI (pc' := 29) rfl rfl rfl (gG_at a0k) rfl (by decide) (by decide) w19_a0_1e (by omega) (by omega) ?_
        refine ir_k (pc' := 30) (v := (0, 2)) rfl rfl rfl (fun _ => rfl) ?_
        refine ir_c_ge (pt := 62) (pc' := 33) rfl rfl rfl (fun c3 => ?_) (fun c3 => ?_)
        · refine ir_w [] trivial ?_
          exact J62 s_19 hT_19 hF_19 (w19_a0_1) (by omega) (by omega) w19_a0_1e (w19_a0_2) (by omega) (by omega) w19_a0_2e
        · refine ir_l (pc' := 34) rfl rfl rfl rfl rfl rfl ?_
          refine ir_tgr (pc' := 37) rfl rfl rfl tf_19_0 a0k hT_19 (fun b4 b4e b4k => ?_)
          refine ir_l (pc' := 38) rfl rfl rfl rfl rfl rfl ?_
          refine ir_getI (pc' := 41) rfl rfl rfl (gG_at a0k) rfl (by decide) (by decide) w19_a0_1e (by omega) (by omega) ?_
          refine ir_l (pc' := 42) rfl rfl rfl rfl rfl rfl ?_
          refine ir_j1A (pc' := 43) rfl rfl rfl rfl (fun z5 z5e z5l z5h => ?_)
          clear z5e
          refine ir_tis (pc' := 44) rfl rfl rfl rfl te_20 b4k hT_19 (by omega) (by omega) (rfl) (by omega) (by omega) (fun s6 hT6 r6 o6 => ?_)
          have hF6 := fr_row hF_19 r6 o6
          have e7 : s6.1 a0 2 = w19_a0_2 := by rw [r6]; exact w19_a0_2e
          have e8 : s6.1 a0 1 = w19_a0_1 := by rw [r6]; exact w19_a0_1e
          have e9 : s6.1 a0 0 = ((b4 : Nat) : Int) := by rw [r6]; exact b4e
          refine ir_l (pc' := 45) rfl rfl rfl rfl rfl rfl ?_
          refine ir_x (pc' := 46) rfl rfl rfl (fun _ => rfl) ?_
          refine ir_getI (pc' := 49) rfl rfl rfl (gG_at a0k) rfl (by decide) (by decide) e8 (by omega) (by omega) ?_
          refine ir_k (pc' := 50) (v := (0, 1)) rfl rfl rfl (fun _ => rfl) ?_
          refine ir_add (pc' := 51) rfl rfl (by omega) (by omega) ?_
          refine ir_tpi (pc' := 54) rfl rfl rfl tf_19_1 rfl a0k hT6 rfl (by omega) (by omega) (fun s10 hT10 e10 g10 r10 => ?_)
          have hF10 := fr_put (k := 19) hF6 (by decide) a0k g10 r10
          have e11 : s10.1 a0 2 = w19_a0_2 := (g10 a0 2 (fun z => absurd z.2 (by decide))).trans e7
          have e12 : s10.1 a0 0 = ((b4 : Nat) : Int) := (g10 a0 0 (fun z => absurd z.2 (by decide))).trans e9
          refine ir_l (pc' := 55) rfl rfl rfl rfl rfl rfl ?_
          refine ir_k (pc' := 57) (v := (0, 32)) rfl rfl rfl (fun _ => rfl) ?_
          refine ir_jijA (pc' := 58) rfl rfl rfl rfl (fun z13 z13l z13h => ?_)
          refine ir_s2 (pc' := 59) rfl rfl rfl rfl rfl rfl ?_
          refine ir_goto (pc' := 19) rfl rfl ?_
          refine ir_w [(0, (2, ((a0 : Nat) : Int))), (3, (1, z13))] ⟨rfl, rfl, trivial⟩ ?_
          exact ih19 (z13) (by omega) (by omega) s10 hT10 hF10 ((w19_a0_1 + 1)) (by omega) (by omega) e10 (w19_a0_2) (by omega) (by omega) e11 (by omega)
  refine ir_l (pc' := 1) rfl rfl rfl rfl rfl rfl ?_
  refine ir_l (pc' := 2) rfl rfl rfl rfl rfl rfl ?_
  refine ir_k (pc' := 3) (v := (1, 0)) rfl rfl rfl (fun _ => rfl) ?_
  refine ir_cSI (pc' := 6) rfl rfl rfl rfl rfl rfl (Nat.le_of_ble_eq_true rfl) (sf_cmpJ L ys d s0 (x1) (by omega) (by omega) (0) (by omega) (by omega)) (fun z14 s15 hr => ?_)
  obtain ⟨rfl, z14p0, z14p1⟩ := hr
  refine ir_tpi (pc' := 9) rfl rfl rfl tf_19_2 rfl a0k hT0 rfl (by omega) (by omega) (fun s16 hT16 e16 g16 r16 => ?_)
  have hF16 := fr_put (k := 19) hF0 (by decide) a0k g16 r16
  refine ir_l (pc' := 10) rfl rfl rfl rfl rfl rfl ?_
  refine ir_k (pc' := 11) (v := (0, 0)) rfl rfl rfl (fun _ => rfl) ?_
  refine ir_tpi (pc' := 14) rfl rfl rfl tf_19_1 rfl a0k hT16 rfl (by omega) (by omega) (fun s17 hT17 e17 g17 r17 => ?_)
  have hF17 := fr_put (k := 19) hF16 (by decide) a0k g17 r17
  have e18 : s17.1 a0 2 = z14 := (g17 a0 2 (fun z => absurd z.2 (by decide))).trans e16
  refine ir_l (pc' := 15) rfl rfl rfl rfl rfl rfl ?_
  refine ir_cSI (pc' := 18) rfl rfl rfl rfl rfl rfl (Nat.le_of_ble_eq_true rfl) (sf_absJ L ys d s17 (x1) (by omega) (by omega)) (fun z19 s20 hr => ?_)
  obtain ⟨rfl, z19p0, z19p1, z19p2⟩ := hr
  refine ir_s2 (pc' := 19) rfl rfl rfl rfl rfl rfl ?_
  refine ir_w [(0, (2, ((a0 : Nat) : Int))), (3, (1, z19))] ⟨rfl, rfl, trivial⟩ ?_
  exact J19 _ (z19) (by omega) (by omega) s17 hT17 hF17 (0) (by omega) (by omega) e17 (z14) (by omega) (by omega) e18 (Int.self_le_toNat _)
theorem sf_compareSize1_25_25 (L : Nat) (ys : Nat → Int32) (d : Nat) (s0 : im_S) (hT0 : tI s0) (a0 : Nat) (a0k : gK[a0]? = some 25) (a1 : Nat) (a1k : gK[a1]? = some 25) : icI gG rm_P L ys 0 (d + 1) 110 [(2, (a0 : Int)), (2, (a1 : Int))] s0 (fun z s => tI s ∧ fr [] s0 s ∧ -1 ≤ z ∧ z ≤ 1) := by
  refine ic_startM (M := rm_p_X1_compareSize) om_X1_compareSize (Nat.le_of_ble_eq_true rfl) ?_
  refine ir_w [(0, (2, ((a0 : Nat) : Int))), (1, (2, ((a1 : Nat) : Int)))] ⟨rfl, rfl, trivial⟩ ?_
  have hF0 := fr_refl [] s0
  have J85 : ∀ (q85_s0 : Int) (q85_s0l : -1 ≤ q85_s0) (q85_s0h : q85_s0 ≤ 1) (s_85 : im_S) (hT_85 : tI s_85) (hF_85 : fr [] s0 s_85) (w85_a0_0 : Nat) (w85_a0_0k : gK[w85_a0_0]? = some 26) (w85_a0_0e : s_85.1 a0 0 = ((w85_a0_0 : Nat) : Int)) (w85_a0_1 : Int) (w85_a0_1l : 0 ≤ w85_a0_1) (w85_a0_1h : w85_a0_1 ≤ 196) (w85_a0_1e : s_85.1 a0 1 = w85_a0_1) (w85_a1_0 : Nat) (w85_a1_0k : gK[w85_a1_0]? = some 26) (w85_a1_0e : s_85.1 a1 0 = ((w85_a1_0 : Nat) : Int)) (w85_a1_1 : Int) (w85_a1_1l : 0 ≤ w85_a1_1) (w85_a1_1h : w85_a1_1 ≤ 196) (w85_a1_1e : s_85.1 a1 1 = w85_a1_1), ir gG rm_P L ys d rm_p_X1_compareSize (85, [], [(0, q85_s0)], s_85) (fun r : im_Re => ∃ z, r.1 = some (0, z) ∧ (tI r.2 ∧ fr [] s0 r.2 ∧ -1 ≤ z ∧ z ≤ 1)) := by
    intro q85_s0 q85_s0l q85_s0h s_85 hT_85 hF_85 w85_a0_0 w85_a0_0k w85_a0_0e w85_a0_1 w85_a0_1l w85_a0_1h w85_a0_1e w85_a1_0 w85_a1_0k w85_a1_0e w85_a1_1 w85_a1_1l w85_a1_1h w85_a1_1e
    exact ir_iret rfl rfl ⟨_, rfl, hT_85, hF_85, by omega, by omega⟩
  have J35 : ∀ n : Nat, ∀ (q35_l2 : Int) (q35_l2l : -1 ≤ q35_l2) (q35_l2h : q35_l2 ≤ 195) (s_35 : im_S) (hT_35 : tI s_35) (hF_35 : fr [] s0 s_35) (w35_a0_1 : Int) (w35_a0_1l : 0 ≤ w35_a0_1) (w35_a0_1h : w35_a0_1 ≤ 196) (w35_a0_1e : s_35.1 a0 1 = w35_a0_1) (w35_a1_1 : Int) (w35_a1_1l : 0 ≤ w35_a1_1) (w35_a1_1h : w35_a1_1 ≤ 196) (w35_a1_1e : s_35.1 a1 1 = w35_a1_1), (q35_l2 - -1 + 1) ≤ (n : Int) → ir gG rm_P L ys d rm_p_X1_compareSize (35, [(0, (2, ((a0 : Nat) : Int))), (1, (2, ((a1 : Nat) : Int))), (2, (0, q35_l2))], [], s_35) (fun r : im_Re => ∃ z, r.1 = some (0, z) ∧ (tI r.2 ∧ fr [] s0 r.2 ∧ -1 ≤ z ∧ z ≤ 1)) := by
    intro n
    induction n with
    | zero => intro q35_l2 q35_l2l q35_l2h s_35 hT_35 hF_35 w35_a0_1 w35_a0_1l w35_a0_1h w35_a0_1e w35_a1_1 w35_a1_1l w35_a1_1h w35_a1_1e hr; exfalso; omega
    | succ n ih35 =>
      intro q35_l2 q35_l2l q35_l2h s_35 hT_35 hF_35 w35_a0_1 w35_a0_1l w35_a0_1h w35_a0_1e w35_a1_1 w35_a1_1l w35_a1_1h w35_a1_1e hr
      refine ir_l (pc' := 36) rfl rfl rfl rfl rfl rfl ?_
      refine ir_z_lt (pt := 92) (pc' := 39) rfl rfl rfl (fun c1 => ?_) (fun c1 => ?_)
      · refine ir_k (pc' := 93) (v := (0, 0)) rfl rfl rfl (fun _ => rfl) ?_
        exact ir_iret rfl rfl ⟨_, rfl, hT_35, hF_35, by omega, by omega⟩
      · refine ir_l (pc' := 40) rfl rfl rfl rfl rfl rfl ?_
        refine ir_tgr (pc' := 43) rfl rfl rfl tf_25_0 a0k hT_35 (fun b2 b2e b2k => ?_)
        refine ir_l (pc' := 44) rfl rfl rfl rfl rfl rfl ?_
        refine ir_tia (pc' := 45) rfl rfl te_26 (by decide) b2k hT_35 (by omega) (by omega) (fun z3 z3e z3l z3h => ?_)
        clear z3e
        refine ir_l (pc' := 46) rfl rfl rfl rfl rfl rfl ?_
        refine ir_tgr (pc' := 49) rfl rfl rfl tf_25_0 a1k hT_35 (fun b4 b4e b4k => ?_)
        refine ir_l (pc' := 50) rfl rfl rfl rfl rfl rfl ?_
        refine ir_tia (pc' := 51) rfl rfl te_26 (by decide) b4k hT_35 (by omega) (by omega) (fun z5 z5e z5l z5h => ?_)
        clear z5e
        refine ir_c_eq (pt := 86) (pc' := 54) rfl rfl rfl (fun c6 => ?_) (fun c6 => ?_)
        · refine ir_inc (pc' := 89) rfl rfl rfl rfl rfl (by omega) (by omega) ?_
          refine ir_goto (pc' := 35) rfl rfl ?_
          refine ir_w [(0, (2, ((a0 : Nat) : Int))), (1, (2, ((a1 : Nat) : Int))), (2, (0, (q35_l2 + (-1))))] ⟨rfl, rfl, rfl, trivial⟩ ?_
          exact ih35 ((q35_l2 + (-1))) (by omega) (by omega) s_35 hT_35 hF_35 (w35_a0_1) (by omega) (by omega) w35_a0_1e (w35_a1_1) (by omega) (by omega) w35_a1_1e (by omega)
        · refine ir_l (pc' := 55) rfl rfl rfl rfl rfl rfl ?_
          refine ir_getR (pc' := 58) rfl rfl rfl (gG_at a0k) rfl b2e ?_
          refine ir_l (pc' := 59) rfl rfl rfl rfl rfl rfl ?_
          refine ir_tia (pc' := 60) rfl rfl te_26 (by decide) b2k hT_35 (by omega) (by omega) (fun z7 z7e z7l z7h => ?_)
          clear z7e
          refine ir_i2l (pc' := 61) rfl rfl (by omega) (by omega) ?_
          refine ir_k (pc' := 64) (v := (1, 4294967295)) rfl rfl rfl (fun _ => rfl) ?_
          refine ir_landm (pc' := 65) rfl rfl (by decide) (by decide) (fun z8 z8l z8h => ?_)
          refine ir_l (pc' := 66) rfl rfl rfl rfl rfl rfl ?_
          refine ir_getR (pc' := 69) rfl rfl rfl (gG_at a1k) rfl b4e ?_
          refine ir_l (pc' := 70) rfl rfl rfl rfl rfl rfl ?_
          refine ir_tia (pc' := 71) rfl rfl te_26 (by decide) b4k hT_35 (by omega) (by omega) (fun z9 z9e z9l z9h => ?_)
          clear z9e
          refine ir_i2l (pc' := 72) rfl rfl (by omega) (by omega) ?_
          refine ir_k (pc' := 75) (v := (1, 4294967295)) rfl rfl rfl (fun _ => rfl) ?_
          refine ir_landm (pc' := 76) rfl rfl (by decide) (by decide) (fun z10 z10l z10h => ?_)
          refine ir_lcmp (pc' := 77) rfl rfl (by omega) (by omega) (by omega) (by omega) (fun z11 z11c => ?_)
          refine ir_z_ge (pt := 84) (pc' := 80) rfl rfl rfl (fun c12 => ?_) (fun c12 => ?_)
          · refine ir_k (pc' := 85) (v := (0, 1)) rfl rfl rfl (fun _ => rfl) ?_
            refine ir_w [] trivial ?_
            exact J85 (1) (by omega) (by omega) s_35 hT_35 hF_35 b2 b2k b2e (w35_a0_1) (by omega) (by omega) w35_a0_1e b4 b4k b4e (w35_a1_1) (by omega) (by omega) w35_a1_1e
          · refine ir_k (pc' := 81) (v := (0, (-1))) rfl rfl rfl (fun _ => rfl) ?_
            refine ir_goto (pc' := 85) rfl rfl ?_
            refine ir_w [] trivial ?_
            exact J85 ((-1)) (by omega) (by omega) s_35 hT_35 hF_35 b2 b2k b2e (w35_a0_1) (by omega) (by omega) w35_a0_1e b4 b4k b4e (w35_a1_1) (by omega) (by omega) w35_a1_1e
  have J27 : ∀ (q27_s0 : Int) (q27_s0l : -1 ≤ q27_s0) (q27_s0h : q27_s0 ≤ 1) (s_27 : im_S) (hT_27 : tI s_27) (hF_27 : fr [] s0 s_27) (w27_a0_1 : Int) (w27_a0_1l : 0 ≤ w27_a0_1) (w27_a0_1h : w27_a0_1 ≤ 196) (w27_a0_1e : s_27.1 a0 1 = w27_a0_1) (w27_a1_1 : Int) (w27_a1_1l : 0 ≤ w27_a1_1) (w27_a1_1h : w27_a1_1 ≤ 196) (w27_a1_1e : s_27.1 a1 1 = w27_a1_1), ir gG rm_P L ys d rm_p_X1_compareSize (27, [], [(0, q27_s0)], s_27) (fun r : im_Re => ∃ z, r.1 = some (0, z) ∧ (tI r.2 ∧ fr [] s0 r.2 ∧ -1 ≤ z ∧ z ≤ 1)) := by
    intro q27_s0 q27_s0l q27_s0h s_27 hT_27 hF_27 w27_a0_1 w27_a0_1l w27_a0_1h w27_a0_1e w27_a1_1 w27_a1_1l w27_a1_1h w27_a1_1e
    exact ir_iret rfl rfl ⟨_, rfl, hT_27, hF_27, by omega, by omega⟩
  refine ir_l (pc' := 1) rfl rfl rfl rfl rfl rfl ?_
  refine ir_tgi (pc' := 4) rfl rfl rfl tf_25_1 a0k hT0 (fun z13 z13e z13l z13h => ?_)
  refine ir_l (pc' := 5) rfl rfl rfl rfl rfl rfl ?_
  refine ir_tgi (pc' := 8) rfl rfl rfl tf_25_1 a1k hT0 (fun z14 z14e z14l z14h => ?_)
  refine ir_c_eq (pt := 28) (pc' := 11) rfl rfl rfl (fun c15 => ?_) (fun c15 => ?_)
  · refine ir_l (pc' := 29) rfl rfl rfl rfl rfl rfl ?_
    refine ir_getI (pc' := 32) rfl rfl rfl (gG_at a0k) rfl (by decide) (by decide) z13e (by omega) (by omega) ?_
    refine ir_k (pc' := 33) (v := (0, 1)) rfl rfl rfl (fun _ => rfl) ?_
    refine ir_sub (pc' := 34) rfl rfl (by omega) (by omega) ?_
    refine ir_s (pc' := 35) rfl rfl rfl rfl rfl rfl ?_
    refine ir_w [(0, (2, ((a0 : Nat) : Int))), (1, (2, ((a1 : Nat) : Int))), (2, (0, (z13 - 1)))] ⟨rfl, rfl, rfl, trivial⟩ ?_
    exact J35 _ ((z13 - 1)) (by omega) (by omega) s0 hT0 hF0 (z13) (by omega) (by omega) z13e (z14) (by omega) (by omega) z14e (Int.self_le_toNat _)
  · refine ir_l (pc' := 12) rfl rfl rfl rfl rfl rfl ?_
    refine ir_getI (pc' := 15) rfl rfl rfl (gG_at a0k) rfl (by decide) (by decide) z13e (by omega) (by omega) ?_
    refine ir_l (pc' := 16) rfl rfl rfl rfl rfl rfl ?_
    refine ir_getI (pc' := 19) rfl rfl rfl (gG_at a1k) rfl (by decide) (by decide) z14e (by omega) (by omega) ?_
    refine ir_c_ge (pt := 26) (pc' := 22) rfl rfl rfl (fun c16 => ?_) (fun c16 => ?_)
    · refine ir_k (pc' := 27) (v := (0, 1)) rfl rfl rfl (fun _ => rfl) ?_
      refine ir_w [] trivial ?_
      exact J27 (1) (by omega) (by omega) s0 hT0 hF0 (z13) (by omega) (by omega) z13e (z14) (by omega) (by omega) z14e
    · refine ir_k (pc' := 23) (v := (0, (-1))) rfl rfl rfl (fun _ => rfl) ?_
      refine ir_goto (pc' := 27) rfl rfl ?_
      refine ir_w [] trivial ?_
      exact J27 ((-1)) (by omega) (by omega) s0 hT0 hF0 (z13) (by omega) (by omega) z13e (z14) (by omega) (by omega) z14e
theorem sf_shiftDown1_19 (L : Nat) (ys : Nat → Int32) (d : Nat) (s0 : im_S) (hT0 : tI s0) (a0 : Nat) (a0k : gK[a0]? = some 19) (x1 : Int) (x1l : -2147483648 ≤ x1) (x1h : x1 ≤ 2147483647) : icV gG rm_P L ys (d + 2) 117 [(2, (a0 : Int)), (0, x1)] s0 (fun s => tI s ∧ fr [(19, 1), (19, 2)] s0 s) := by
  refine ic_startM (M := rm_p_X1_shiftDown) om_X1_shiftDown (Nat.le_of_ble_eq_true rfl) ?_
  refine ir_w [(0, (2, ((a0 : Nat) : Int))), (1, (0, x1))] ⟨rfl, rfl, trivial⟩ ?_
  have hF0 := fr_refl [(19, 1), (19, 2)] s0
  have J24 : ∀ n : Nat, ∀ (q24_l2 : Int) (q24_l2l : 0 ≤ q24_l2) (q24_l2h : q24_l2 ≤ 67108863) (q24_l3 : Int) (q24_l3l : 0 ≤ q24_l3) (q24_l3h : q24_l3 ≤ 31) (q24_l4 : Int) (q24_l4l : 0 ≤ q24_l4) (q24_l4h : q24_l4 ≤ 24) (s_24 : im_S) (hT_24 : tI s_24) (hF_24 : fr [(19, 1), (19, 2)] s0 s_24) (w24_a0_2 : Int) (w24_a0_2l : -2147483648 ≤ w24_a0_2) (w24_a0_2h : w24_a0_2 ≤ 2147483647) (w24_a0_2e : s_24.1 a0 2 = w24_a0_2), (24 + 1 - q24_l4) ≤ (n : Int) → ir gG rm_P L ys (d + 1) rm_p_X1_shiftDown (24, [(0, (2, ((a0 : Nat) : Int))), (2, (0, q24_l2)), (3, (0, q24_l3)), (4, (0, q24_l4))], [], s_24) (fun r : im_Re => r.1 = none ∧ (tI r.2 ∧ fr [(19, 1), (19, 2)] s0 r.2)) := by
    intro n
    induction n with
    | zero => intro q24_l2 q24_l2l q24_l2h q24_l3 q24_l3l q24_l3h q24_l4 q24_l4l q24_l4h s_24 hT_24 hF_24 w24_a0_2 w24_a0_2l w24_a0_2h w24_a0_2e hr; exfalso; omega
    | succ n ih24 =>
      intro q24_l2 q24_l2l q24_l2h q24_l3 q24_l3l q24_l3h q24_l4 q24_l4l q24_l4h s_24 hT_24 hF_24 w24_a0_2 w24_a0_2l w24_a0_2h w24_a0_2e hr
      have J97 : ∀ (q97_l5 : Int) (q97_l5l : 0 ≤ q97_l5) (q97_l5h : q97_l5 ≤ 4294967295) (q97_s0 : Int) (q97_s0l : 0 ≤ q97_s0) (q97_s0h : q97_s0 ≤ 4294967295) (f97_4h : q24_l4 ≤ 23) (s_97 : im_S) (hT_97 : tI s_97) (hF_97 : fr [(19, 1), (19, 2)] s0 s_97) (w97_a0_1 : Int) (w97_a0_1l : 1 ≤ w97_a0_1) (w97_a0_1h : w97_a0_1 ≤ 24) (w97_a0_1e : s_97.1 a0 1 = w97_a0_1) (w97_a0_2 : Int) (w97_a0_2l : -2147483648 ≤ w97_a0_2) (w97_a0_2h : w97_a0_2 ≤ 2147483647) (w97_a0_2e : s_97.1 a0 2 = w97_a0_2), ir gG rm_P L ys (d + 1) rm_p_X1_shiftDown (97, [(0, (2, ((a0 : Nat) : Int))), (2, (0, q24_l2)), (3, (0, q24_l3)), (4, (0, q24_l4)), (5, (1, q97_l5))], [(1, q97_s0)], s_97) (fun r : im_Re => r.1 = none ∧ (tI r.2 ∧ fr [(19, 1), (19, 2)] s0 r.2)) := by
        intro q97_l5 q97_l5l q97_l5h q97_s0 q97_s0l q97_s0h f97_4h s_97 hT_97 hF_97 w97_a0_1 w97_a0_1l w97_a0_1h w97_a0_1e w97_a0_2 w97_a0_2l w97_a0_2h w97_a0_2e
        refine ir_s2 (pc' := 99) rfl rfl rfl rfl rfl rfl ?_
        refine ir_l (pc' := 100) rfl rfl rfl rfl rfl rfl ?_
        refine ir_tgr (pc' := 103) rfl rfl rfl tf_19_0 a0k hT_97 (fun b1 b1e b1k => ?_)
        refine ir_l (pc' := 105) rfl rfl rfl rfl rfl rfl ?_
        refine ir_l (pc' := 107) rfl rfl rfl rfl rfl rfl ?_
        refine ir_k (pc' := 109) (v := (0, 32)) rfl rfl rfl (fun _ => rfl) ?_
        refine ir_jijA (pc' := 110) rfl rfl rfl rfl (fun z2 z2l z2h => ?_)
        refine ir_l (pc' := 112) rfl rfl rfl rfl rfl rfl ?_
        refine ir_jjA (pc' := 113) rfl rfl rfl rfl (fun z3 z3l z3h => ?_)
        refine ir_l (pc' := 114) rfl rfl rfl rfl rfl rfl ?_
        refine ir_jijA (pc' := 115) rfl rfl rfl rfl (fun z4 z4l z4h => ?_)
        refine ir_j1A (pc' := 116) rfl rfl rfl rfl (fun z5 z5e z5l z5h => ?_)
        clear z5e
        refine ir_tis (pc' := 117) rfl rfl rfl rfl te_20 b1k hT_97 (by omega) (by omega) (rfl) (by omega) (by omega) (fun s6 hT6 r6 o6 => ?_)
        have hF6 := fr_row hF_97 r6 o6
        have e7 : s6.1 a0 2 = w97_a0_2 := by rw [r6]; exact w97_a0_2e
        have e8 : s6.1 a0 1 = w97_a0_1 := by rw [r6]; exact w97_a0_1e
        have e9 : s6.1 a0 0 = ((b1 : Nat) : Int) := by rw [r6]; exact b1e
        refine ir_inc (pc' := 120) rfl rfl rfl rfl rfl (by omega) (by omega) ?_
        refine ir_goto (pc' := 24) rfl rfl ?_
        refine ir_w [(0, (2, ((a0 : Nat) : Int))), (2, (0, q24_l2)), (3, (0, q24_l3)), (4, (0, (q24_l4 + 1)))] ⟨rfl, rfl, rfl, rfl, trivial⟩ ?_
        exact ih24 (q24_l2) (by omega) (by omega) (q24_l3) (by omega) (by omega) ((q24_l4 + 1)) (by omega) (by omega) s6 hT6 hF6 (w97_a0_2) (by omega) (by omega) e7 (by omega)
      have J62 : ∀ (q62_s0 : Int) (q62_s0l : 0 ≤ q62_s0) (q62_s0h : q62_s0 ≤ 4294967295) (f62_4h : q24_l4 ≤ 23) (s_62 : im_S) (hT_62 : tI s_62) (hF_62 : fr [(19, 1), (19, 2)] s0 s_62) (w62_a0_1 : Int) (w62_a0_1l : 1 ≤ w62_a0_1) (w62_a0_1h : w62_a0_1 ≤ 24) (w62_a0_1e : s_62.1 a0 1 = w62_a0_1) (w62_a0_2 : Int) (w62_a0_2l : -2147483648 ≤ w62_a0_2) (w62_a0_2h : w62_a0_2 ≤ 2147483647) (w62_a0_2e : s_62.1 a0 2 = w62_a0_2), ir gG rm_P L ys (d + 1) rm_p_X1_shiftDown (62, [(0, (2, ((a0 : Nat) : Int))), (2, (0, q24_l2)), (3, (0, q24_l3)), (4, (0, q24_l4))], [(1, q62_s0)], s_62) (fun r : im_Re => r.1 = none ∧ (tI r.2 ∧ fr [(19, 1), (19, 2)] s0 r.2)) := by
        intro q62_s0 q62_s0l q62_s0h f62_4h s_62 hT_62 hF_62 w62_a0_1 w62_a0_1l w62_a0_1h w62_a0_1e w62_a0_2 w62_a0_2l w62_a0_2h w62_a0_2e
        refine ir_s2 (pc' := 64) rfl rfl rfl rfl rfl rfl ?_
        refine ir_l (pc' := 66) rfl rfl rfl rfl rfl rfl ?_
        refine ir_l (pc' := 67) rfl rfl rfl rfl rfl rfl ?_
        refine ir_add (pc' := 68) rfl rfl (by omega) (by omega) ?_
        refine ir_k (pc' := 69) (v := (0, 1)) rfl rfl rfl (fun _ => rfl) ?_
        refine ir_add (pc' := 70) rfl rfl (by omega) (by omega) ?_
        refine ir_l (pc' := 71) rfl rfl rfl rfl rfl rfl ?_
        refine ir_getI (pc' := 74) rfl rfl rfl (gG_at a0k) rfl (by decide) (by decide) w62_a0_1e (by omega) (by omega) ?_
        refine ir_c_ge (pt := 96) (pc' := 77) rfl rfl rfl (fun c10 => ?_) (fun c10 => ?_)
        · refine ir_k (pc' := 97) (v := (1, 0)) rfl rfl rfl (fun _ => rfl) ?_
          refine ir_w [(0, (2, ((a0 : Nat) : Int))), (2, (0, q24_l2)), (3, (0, q24_l3)), (4, (0, q24_l4)), (5, (1, q62_s0))] ⟨rfl, rfl, rfl, rfl, rfl, trivial⟩ ?_
          exact J97 (q62_s0) (by omega) (by omega) (0) (by omega) (by omega) (by omega) s_62 hT_62 hF_62 (w62_a0_1) (by omega) (by omega) w62_a0_1e (w62_a0_2) (by omega) (by omega) w62_a0_2e
        · refine ir_l (pc' := 78) rfl rfl rfl rfl rfl rfl ?_
          refine ir_tgr (pc' := 81) rfl rfl rfl tf_19_0 a0k hT_62 (fun b11 b11e b11k => ?_)
          refine ir_l (pc' := 83) rfl rfl rfl rfl rfl rfl ?_
          refine ir_l (pc' := 84) rfl rfl rfl rfl rfl rfl ?_
          refine ir_add (pc' := 85) rfl rfl (by omega) (by omega) ?_
          refine ir_k (pc' := 86) (v := (0, 1)) rfl rfl rfl (fun _ => rfl) ?_
          refine ir_add (pc' := 87) rfl rfl (by omega) (by omega) ?_
          refine ir_tia (pc' := 88) rfl rfl te_20 (by decide) b11k hT_62 (by omega) (by omega) (fun z12 z12e z12l z12h => ?_)
          clear z12e
          refine ir_i2l (pc' := 89) rfl rfl (by omega) (by omega) ?_
          refine ir_k (pc' := 92) (v := (1, 4294967295)) rfl rfl rfl (fun _ => rfl) ?_
          refine ir_landm (pc' := 93) rfl rfl (by decide) (by decide) (fun z13 z13l z13h => ?_)
          refine ir_goto (pc' := 97) rfl rfl ?_
          refine ir_w [(0, (2, ((a0 : Nat) : Int))), (2, (0, q24_l2)), (3, (0, q24_l3)), (4, (0, q24_l4)), (5, (1, q62_s0))] ⟨rfl, rfl, rfl, rfl, rfl, trivial⟩ ?_
          exact J97 (q62_s0) (by omega) (by omega) (z13) (by omega) (by omega) (by omega) s_62 hT_62 hF_62 (w62_a0_1) (by omega) (by omega) w62_a0_1e (w62_a0_2) (by omega) (by omega) w62_a0_2e
      refine ir_l (pc' := 26) rfl rfl rfl rfl rfl rfl ?_
      refine ir_l (pc' := 27) rfl rfl rfl rfl rfl rfl ?_
      refine ir_tgi (pc' := 30) rfl rfl rfl tf_19_1 a0k hT_24 (fun z14 z14e z14l z14h => ?_)
      refine ir_c_ge (pt := 123) (pc' := 33) rfl rfl rfl (fun c15 => ?_) (fun c15 => ?_)
      · refine ir_l (pc' := 124) rfl rfl rfl rfl rfl rfl ?_
        refine ir_cVV (pc' := 127) rfl rfl rfl rfl rfl (Nat.le_of_ble_eq_true rfl) oo_X1_trim (gG_at a0k) (sf_trim1_19 L ys d s_24 hT_24 a0 a0k ) (fun s17 hr => ?_)
        obtain ⟨hT17, hG17⟩ := hr
        have hF17 := fr_trans hF_24 hG17 (by decide)
        exact ir_vret rfl rfl ⟨rfl, hT17, hF17⟩
      · refine ir_l (pc' := 35) rfl rfl rfl rfl rfl rfl ?_
        refine ir_l (pc' := 36) rfl rfl rfl rfl rfl rfl ?_
        refine ir_add (pc' := 37) rfl rfl (by omega) (by omega) ?_
        refine ir_l (pc' := 38) rfl rfl rfl rfl rfl rfl ?_
        refine ir_getI (pc' := 41) rfl rfl rfl (gG_at a0k) rfl (by decide) (by decide) z14e (by omega) (by omega) ?_
        refine ir_c_ge (pt := 61) (pc' := 44) rfl rfl rfl (fun c18 => ?_) (fun c18 => ?_)
        · refine ir_k (pc' := 62) (v := (1, 0)) rfl rfl rfl (fun _ => rfl) ?_
          refine ir_w [(0, (2, ((a0 : Nat) : Int))), (2, (0, q24_l2)), (3, (0, q24_l3)), (4, (0, q24_l4))] ⟨rfl, rfl, rfl, rfl, trivial⟩ ?_
          exact J62 (0) (by omega) (by omega) (by omega) s_24 hT_24 hF_24 (z14) (by omega) (by omega) z14e (w24_a0_2) (by omega) (by omega) w24_a0_2e
        · refine ir_l (pc' := 45) rfl rfl rfl rfl rfl rfl ?_
          refine ir_tgr (pc' := 48) rfl rfl rfl tf_19_0 a0k hT_24 (fun b19 b19e b19k => ?_)
          refine ir_l (pc' := 50) rfl rfl rfl rfl rfl rfl ?_
          refine ir_l (pc' := 51) rfl rfl rfl rfl rfl rfl ?_
          refine ir_add (pc' := 52) rfl rfl (by omega) (by omega) ?_
          refine ir_tia (pc' := 53) rfl rfl te_20 (by decide) b19k hT_24 (by omega) (by omega) (fun z20 z20e z20l z20h => ?_)
          clear z20e
          refine ir_i2l (pc' := 54) rfl rfl (by omega) (by omega) ?_
          refine ir_k (pc' := 57) (v := (1, 4294967295)) rfl rfl rfl (fun _ => rfl) ?_
          refine ir_landm (pc' := 58) rfl rfl (by decide) (by decide) (fun z21 z21l z21h => ?_)
          refine ir_goto (pc' := 62) rfl rfl ?_
          refine ir_w [(0, (2, ((a0 : Nat) : Int))), (2, (0, q24_l2)), (3, (0, q24_l3)), (4, (0, q24_l4))] ⟨rfl, rfl, rfl, rfl, trivial⟩ ?_
          exact J62 (z21) (by omega) (by omega) (by omega) s_24 hT_24 hF_24 (z14) (by omega) (by omega) z14e (w24_a0_2) (by omega) (by omega) w24_a0_2e
  have J20 : ∀ (s_20 : im_S) (hT_20 : tI s_20) (hF_20 : fr [(19, 1), (19, 2)] s0 s_20), ir gG rm_P L ys (d + 1) rm_p_X1_shiftDown (20, [], [], s_20) (fun r : im_Re => r.1 = none ∧ (tI r.2 ∧ fr [(19, 1), (19, 2)] s0 r.2)) := by
    intro s_20 hT_20 hF_20
    exact ir_vret rfl rfl ⟨rfl, hT_20, hF_20⟩
  refine ir_l (pc' := 1) rfl rfl rfl rfl rfl rfl ?_
  refine ir_k (pc' := 2) (v := (0, 5)) rfl rfl rfl (fun _ => rfl) ?_
  refine ir_shr (pc' := 3) (y := 5) (k := 5) (m := 32) rfl rfl (by decide) rfl (by decide) (by omega) (by omega) ?_
  refine ir_s (pc' := 4) rfl rfl rfl rfl rfl rfl ?_
  refine ir_l (pc' := 5) rfl rfl rfl rfl rfl rfl ?_
  refine ir_k (pc' := 7) (v := (0, 31)) rfl rfl rfl (fun _ => rfl) ?_
  refine ir_andm (pc' := 8) rfl rfl (by decide) (by decide) (fun z22 z22l z22h => ?_)
  refine ir_s (pc' := 9) rfl rfl rfl rfl rfl rfl ?_
  refine ir_l (pc' := 10) rfl rfl rfl rfl rfl rfl ?_
  refine ir_z_le (pt := 20) (pc' := 13) rfl rfl rfl (fun c23 => ?_) (fun c23 => ?_)
  · refine ir_w [] trivial ?_
    exact J20 s0 hT0 hF0
  · refine ir_l (pc' := 14) rfl rfl rfl rfl rfl rfl ?_
    refine ir_tgi (pc' := 17) rfl rfl rfl tf_19_2 a0k hT0 (fun z24 z24e z24l z24h => ?_)
    refine ir_z_ne (pt := 21) (pc' := 20) rfl rfl rfl (fun c25 => ?_) (fun c25 => ?_)
    · refine ir_k (pc' := 22) (v := (0, 0)) rfl rfl rfl (fun _ => rfl) ?_
      refine ir_s (pc' := 24) rfl rfl rfl rfl rfl rfl ?_
      refine ir_w [(0, (2, ((a0 : Nat) : Int))), (2, (0, (x1 / 32))), (3, (0, z22)), (4, (0, 0))] ⟨rfl, rfl, rfl, rfl, trivial⟩ ?_
      exact J24 _ ((x1 / 32)) (by omega) (by omega) (z22) (by omega) (by omega) (0) (by omega) (by omega) s0 hT0 hF0 (z24) (by omega) (by omega) z24e (Int.self_le_toNat _)
    · refine ir_w [] trivial ?_
      exact J20 s0 hT0 hF0
theorem sf_guessJump3 (L : Nat) (ys : Nat → Int32) (d : Nat) (s0 : im_S) (hT0 : tI s0) (x1 : Int) (x1l : 1 ≤ x1) (x1h : x1 ≤ 2147483646) : icV gG rm_P L ys (d + 4) 135 [(2, ((83 : Nat) : Int)), (0, x1)] s0 (fun s => tI s ∧ fr [(19, 1), (19, 2), (25, 1), (25, 2)] s0 s) := by
  refine ic_startM (M := rm_p_X3_guessJump) om_X3_guessJump (Nat.le_of_ble_eq_true rfl) ?_
  refine ir_w [(0, (2, ((83 : Nat) : Int))), (1, (0, x1))] ⟨rfl, rfl, trivial⟩ ?_
  have hF0 := fr_refl [(19, 1), (19, 2), (25, 1), (25, 2)] s0
  have J249 : ∀ (s_249 : im_S) (hT_249 : tI s_249) (hF_249 : fr [(19, 1), (19, 2), (25, 1), (25, 2)] s0 s_249) (w249_83_5 : Nat) (w249_83_5k : gK[w249_83_5]? = some 21) (w249_83_5e : s_249.1 83 5 = ((w249_83_5 : Nat) : Int)) (w249_83_8 : Nat) (w249_83_8k : gK[w249_83_8]? = some 19) (w249_83_8e : s_249.1 83 8 = ((w249_83_8 : Nat) : Int)) (w249_83_10 : Nat) (w249_83_10k : gK[w249_83_10]? = some 25) (w249_83_10e : s_249.1 83 10 = ((w249_83_10 : Nat) : Int)) (w249_83_11 : Nat) (w249_83_11k : gK[w249_83_11]? = some 25) (w249_83_11e : s_249.1 83 11 = ((w249_83_11 : Nat) : Int)) (w249_83_13 : Nat) (w249_83_13k : gK[w249_83_13]? = some 25) (w249_83_13e : s_249.1 83 13 = ((w249_83_13 : Nat) : Int)) (w249_83_14 : Nat) (w249_83_14k : gK[w249_83_14]? = some 25) (w249_83_14e : s_249.1 83 14 = ((w249_83_14 : Nat) : Int)), ir gG rm_P L ys (d + 3) rm_p_X3_guessJump (249, [], [], s_249) (fun r : im_Re => r.1 = none ∧ (tI r.2 ∧ fr [(19, 1), (19, 2), (25, 1), (25, 2)] s0 r.2)) := by
    intro s_249 hT_249 hF_249 w249_83_5 w249_83_5k w249_83_5e w249_83_8 w249_83_8k w249_83_8e w249_83_10 w249_83_10k w249_83_10e w249_83_11 w249_83_11k w249_83_11e w249_83_13 w249_83_13k w249_83_13e w249_83_14 w249_83_14k w249_83_14e
    exact ir_vret rfl rfl ⟨rfl, hT_249, hF_249⟩
  have J210 : ∀ (s_210 : im_S) (hT_210 : tI s_210) (hF_210 : fr [(19, 1), (19, 2), (25, 1), (25, 2)] s0 s_210) (w210_83_5 : Nat) (w210_83_5k : gK[w210_83_5]? = some 21) (w210_83_5e : s_210.1 83 5 = ((w210_83_5 : Nat) : Int)) (w210_83_8 : Nat) (w210_83_8k : gK[w210_83_8]? = some 19) (w210_83_8e : s_210.1 83 8 = ((w210_83_8 : Nat) : Int)) (w210_83_10 : Nat) (w210_83_10k : gK[w210_83_10]? = some 25) (w210_83_10e : s_210.1 83 10 = ((w210_83_10 : Nat) : Int)) (w210_83_11 : Nat) (w210_83_11k : gK[w210_83_11]? = some 25) (w210_83_11e : s_210.1 83 11 = ((w210_83_11 : Nat) : Int)) (w210_83_13 : Nat) (w210_83_13k : gK[w210_83_13]? = some 25) (w210_83_13e : s_210.1 83 13 = ((w210_83_13 : Nat) : Int)) (w210_83_14 : Nat) (w210_83_14k : gK[w210_83_14]? = some 25) (w210_83_14e : s_210.1 83 14 = ((w210_83_14 : Nat) : Int)), ir gG rm_P L ys (d + 3) rm_p_X3_guessJump (210, [(0, (2, ((83 : Nat) : Int))), (1, (0, x1))], [], s_210) (fun r : im_Re => r.1 = none ∧ (tI r.2 ∧ fr [(19, 1), (19, 2), (25, 1), (25, 2)] s0 r.2)) := by
    intro s_210 hT_210 hF_210 w210_83_5 w210_83_5k w210_83_5e w210_83_8 w210_83_8k w210_83_8e w210_83_10 w210_83_10k w210_83_10e w210_83_11 w210_83_11k w210_83_11e w210_83_13 w210_83_13k w210_83_13e w210_83_14 w210_83_14k w210_83_14e
    refine ir_l (pc' := 211) rfl rfl rfl rfl rfl rfl ?_
    refine ir_getR (pc' := 214) rfl rfl rfl (gG_at tsk_10) rfl w210_83_8e ?_
    refine ir_cVI (pc' := 217) rfl rfl rfl rfl rfl (Nat.le_of_ble_eq_true rfl) oo_X1_bits (gG_at w210_83_8k) (sf_bits1_19 L ys (d + 1) s_210 hT_210 w210_83_8 w210_83_8k ) (fun z1 s2 hr => ?_)
    obtain ⟨hT2, hG2, z1l, z1h⟩ := hr
    have hF2 := fr_trans hF_210 hG2 (by decide)
    have e3 : s2.1 83 10 = ((w210_83_10 : Nat) : Int) := (hG2.1 _ _ tsk_10 10 (by decide)).trans w210_83_10e
    have e4 : s2.1 83 13 = ((w210_83_13 : Nat) : Int) := (hG2.1 _ _ tsk_10 13 (by decide)).trans w210_83_13e
    have e5 : s2.1 83 11 = ((w210_83_11 : Nat) : Int) := (hG2.1 _ _ tsk_10 11 (by decide)).trans w210_83_11e
    have e6 : s2.1 83 14 = ((w210_83_14 : Nat) : Int) := (hG2.1 _ _ tsk_10 14 (by decide)).trans w210_83_14e
    have e7 : s2.1 83 8 = ((w210_83_8 : Nat) : Int) := (hG2.1 _ _ tsk_10 8 (by decide)).trans w210_83_8e
    have e8 : s2.1 83 5 = ((w210_83_5 : Nat) : Int) := (hG2.1 _ _ tsk_10 5 (by decide)).trans w210_83_5e
    refine ir_l (pc' := 218) rfl rfl rfl rfl rfl rfl ?_
    refine ir_c_le (pt := 249) (pc' := 221) rfl rfl rfl (fun c9 => ?_) (fun c9 => ?_)
    · refine ir_w [] trivial ?_
      exact J249 s2 hT2 hF2 w210_83_5 w210_83_5k e8 w210_83_8 w210_83_8k e7 w210_83_10 w210_83_10k e3 w210_83_11 w210_83_11k e5 w210_83_13 w210_83_13k e4 w210_83_14 w210_83_14k e6
    · refine ir_l (pc' := 222) rfl rfl rfl rfl rfl rfl ?_
      refine ir_getR (pc' := 225) rfl rfl rfl (gG_at tsk_10) rfl e7 ?_
      refine ir_k (pc' := 226) (v := (1, 1)) rfl rfl rfl (fun _ => rfl) ?_
      refine ir_cVV (pc' := 229) rfl rfl rfl rfl rfl (Nat.le_of_ble_eq_true rfl) oo_X1_set (gG_at w210_83_8k) (sf_set1_19 L ys (d + 1) s2 hT2 w210_83_8 w210_83_8k (1) (by omega) (by omega) ) (fun s11 hr => ?_)
      obtain ⟨hT11, hG11⟩ := hr
      have hF11 := fr_trans hF2 hG11 (by decide)
      have e12 : s11.1 83 10 = ((w210_83_10 : Nat) : Int) := (hG11.1 _ _ tsk_10 10 (by decide)).trans e3
      have e13 : s11.1 83 13 = ((w210_83_13 : Nat) : Int) := (hG11.1 _ _ tsk_10 13 (by decide)).trans e4
      have e14 : s11.1 83 11 = ((w210_83_11 : Nat) : Int) := (hG11.1 _ _ tsk_10 11 (by decide)).trans e5
      have e15 : s11.1 83 14 = ((w210_83_14 : Nat) : Int) := (hG11.1 _ _ tsk_10 14 (by decide)).trans e6
      have e16 : s11.1 83 8 = ((w210_83_8 : Nat) : Int) := (hG11.1 _ _ tsk_10 8 (by decide)).trans e7
      have e17 : s11.1 83 5 = ((w210_83_5 : Nat) : Int) := (hG11.1 _ _ tsk_10 5 (by decide)).trans e8
      refine ir_l (pc' := 230) rfl rfl rfl rfl rfl rfl ?_
      refine ir_getR (pc' := 233) rfl rfl rfl (gG_at tsk_10) rfl e16 ?_
      refine ir_l (pc' := 234) rfl rfl rfl rfl rfl rfl ?_
      refine ir_cVV (pc' := 237) rfl rfl rfl rfl rfl (Nat.le_of_ble_eq_true rfl) oo_X1_shiftUp (gG_at w210_83_8k) (sf_shiftUp1_19 L ys (d + 1) s11 hT11 w210_83_8 w210_83_8k (x1) (by omega) (by omega) ) (fun s19 hr => ?_)
      obtain ⟨hT19, hG19⟩ := hr
      have hF19 := fr_trans hF11 hG19 (by decide)
      have e20 : s19.1 83 10 = ((w210_83_10 : Nat) : Int) := (hG19.1 _ _ tsk_10 10 (by decide)).trans e12
      have e21 : s19.1 83 13 = ((w210_83_13 : Nat) : Int) := (hG19.1 _ _ tsk_10 13 (by decide)).trans e13
      have e22 : s19.1 83 11 = ((w210_83_11 : Nat) : Int) := (hG19.1 _ _ tsk_10 11 (by decide)).trans e14
      have e23 : s19.1 83 14 = ((w210_83_14 : Nat) : Int) := (hG19.1 _ _ tsk_10 14 (by decide)).trans e15
      have e24 : s19.1 83 8 = ((w210_83_8 : Nat) : Int) := (hG19.1 _ _ tsk_10 8 (by decide)).trans e16
      have e25 : s19.1 83 5 = ((w210_83_5 : Nat) : Int) := (hG19.1 _ _ tsk_10 5 (by decide)).trans e17
      refine ir_l (pc' := 238) rfl rfl rfl rfl rfl rfl ?_
      refine ir_getR (pc' := 241) rfl rfl rfl (gG_at tsk_10) rfl e24 ?_
      refine ir_l (pc' := 242) rfl rfl rfl rfl rfl rfl ?_
      refine ir_getR (pc' := 245) rfl rfl rfl (gG_at tsk_10) rfl e25 ?_
      refine ir_k (pc' := 246) (v := (0, (-1))) rfl rfl rfl (fun _ => rfl) ?_
      refine ir_cVV (pc' := 249) rfl rfl rfl rfl rfl (Nat.le_of_ble_eq_true rfl) oo_X1_add (gG_at w210_83_8k) (sf_add1_19_21 L ys d s19 hT19 w210_83_8 w210_83_8k w210_83_5 w210_83_5k ((-1)) (by omega) (by omega) ) (fun s27 hr => ?_)
      obtain ⟨hT27, hG27⟩ := hr
      have hF27 := fr_trans hF19 hG27 (by decide)
      have e28 : s27.1 83 10 = ((w210_83_10 : Nat) : Int) := (hG27.1 _ _ tsk_10 10 (by decide)).trans e20
      have e29 : s27.1 83 13 = ((w210_83_13 : Nat) : Int) := (hG27.1 _ _ tsk_10 13 (by decide)).trans e21
      have e30 : s27.1 83 11 = ((w210_83_11 : Nat) : Int) := (hG27.1 _ _ tsk_10 11 (by decide)).trans e22
      have e31 : s27.1 83 14 = ((w210_83_14 : Nat) : Int) := (hG27.1 _ _ tsk_10 14 (by decide)).trans e23
      have e32 : s27.1 83 8 = ((w210_83_8 : Nat) : Int) := (hG27.1 _ _ tsk_10 8 (by decide)).trans e24
      have e33 : s27.1 83 5 = ((w210_83_5 : Nat) : Int) := (hG27.1 _ _ tsk_10 5 (by decide)).trans e25
      refine ir_w [] trivial ?_
      exact J249 s27 hT27 hF27 w210_83_5 w210_83_5k e33 w210_83_8 w210_83_8k e32 w210_83_10 w210_83_10k e28 w210_83_11 w210_83_11k e30 w210_83_13 w210_83_13k e29 w210_83_14 w210_83_14k e31
  have J107 : ∀ n : Nat, ∀ (q107_l3 : Int) (q107_l3l : 0 ≤ q107_l3) (q107_l3h : q107_l3 ≤ 2147483647) (s_107 : im_S) (hT_107 : tI s_107) (hF_107 : fr [(19, 1), (19, 2), (25, 1), (25, 2)] s0 s_107) (w107_83_8 : Nat) (w107_83_8k : gK[w107_83_8]? = some 19) (w107_83_8e : s_107.1 83 8 = ((w107_83_8 : Nat) : Int)) (w107_83_10 : Nat) (w107_83_10k : gK[w107_83_10]? = some 25) (w107_83_10e : s_107.1 83 10 = ((w107_83_10 : Nat) : Int)) (w107_83_11 : Nat) (w107_83_11k : gK[w107_83_11]? = some 25) (w107_83_11e : s_107.1 83 11 = ((w107_83_11 : Nat) : Int)) (w107_83_13 : Nat) (w107_83_13k : gK[w107_83_13]? = some 25) (w107_83_13e : s_107.1 83 13 = ((w107_83_13 : Nat) : Int)) (w107_83_14 : Nat) (w107_83_14k : gK[w107_83_14]? = some 25) (w107_83_14e : s_107.1 83 14 = ((w107_83_14 : Nat) : Int)), (2147483647 + 1 - q107_l3) ≤ (n : Int) → ir gG rm_P L ys (d + 3) rm_p_X3_guessJump (107, [(0, (2, ((83 : Nat) : Int))), (1, (0, x1)), (3, (0, q107_l3))], [], s_107) (fun r : im_Re => r.1 = none ∧ (tI r.2 ∧ fr [(19, 1), (19, 2), (25, 1), (25, 2)] s0 r.2)) := by
    intro n
    induction n with
    | zero => intro q107_l3 q107_l3l q107_l3h s_107 hT_107 hF_107 w107_83_8 w107_83_8k w107_83_8e w107_83_10 w107_83_10k w107_83_10e w107_83_11 w107_83_11k w107_83_11e w107_83_13 w107_83_13k w107_83_13e w107_83_14 w107_83_14k w107_83_14e hr; exfalso; omega
    | succ n ih107 =>
      intro q107_l3 q107_l3l q107_l3h s_107 hT_107 hF_107 w107_83_8 w107_83_8k w107_83_8e w107_83_10 w107_83_10k w107_83_10e w107_83_11 w107_83_11k w107_83_11e w107_83_13 w107_83_13k w107_83_13e w107_83_14 w107_83_14k w107_83_14e hr
      have J166 : ∀ (f166_3h : q107_l3 ≤ 2147483646) (s_166 : im_S) (hT_166 : tI s_166) (hF_166 : fr [(19, 1), (19, 2), (25, 1), (25, 2)] s0 s_166) (w166_83_8 : Nat) (w166_83_8k : gK[w166_83_8]? = some 19) (w166_83_8e : s_166.1 83 8 = ((w166_83_8 : Nat) : Int)) (w166_83_10 : Nat) (w166_83_10k : gK[w166_83_10]? = some 25) (w166_83_10e : s_166.1 83 10 = ((w166_83_10 : Nat) : Int)) (w166_83_11 : Nat) (w166_83_11k : gK[w166_83_11]? = some 25) (w166_83_11e : s_166.1 83 11 = ((w166_83_11 : Nat) : Int)) (w166_83_13 : Nat) (w166_83_13k : gK[w166_83_13]? = some 25) (w166_83_13e : s_166.1 83 13 = ((w166_83_13 : Nat) : Int)) (w166_83_14 : Nat) (w166_83_14k : gK[w166_83_14]? = some 25) (w166_83_14e : s_166.1 83 14 = ((w166_83_14 : Nat) : Int)), ir gG rm_P L ys (d + 3) rm_p_X3_guessJump (166, [(0, (2, ((83 : Nat) : Int))), (1, (0, x1)), (3, (0, q107_l3))], [], s_166) (fun r : im_Re => r.1 = none ∧ (tI r.2 ∧ fr [(19, 1), (19, 2), (25, 1), (25, 2)] s0 r.2)) := by
        intro f166_3h s_166 hT_166 hF_166 w166_83_8 w166_83_8k w166_83_8e w166_83_10 w166_83_10k w166_83_10e w166_83_11 w166_83_11k w166_83_11e w166_83_13 w166_83_13k w166_83_13e w166_83_14 w166_83_14k w166_83_14e
        refine ir_inc (pc' := 169) rfl rfl rfl rfl rfl (by omega) (by omega) ?_
        refine ir_goto (pc' := 107) rfl rfl ?_
        refine ir_w [(0, (2, ((83 : Nat) : Int))), (1, (0, x1)), (3, (0, (q107_l3 + 1)))] ⟨rfl, rfl, rfl, trivial⟩ ?_
        exact ih107 ((q107_l3 + 1)) (by omega) (by omega) s_166 hT_166 hF_166 w166_83_8 w166_83_8k w166_83_8e w166_83_10 w166_83_10k w166_83_10e w166_83_11 w166_83_11k w166_83_11e w166_83_13 w166_83_13k w166_83_13e w166_83_14 w166_83_14k w166_83_14e (by omega)
      refine ir_l (pc' := 108) rfl rfl rfl rfl rfl rfl ?_
      refine ir_l (pc' := 109) rfl rfl rfl rfl rfl rfl ?_
      refine ir_c_gt (pt := 172) (pc' := 112) rfl rfl rfl (fun c34 => ?_) (fun c34 => ?_)
      · refine ir_l (pc' := 173) rfl rfl rfl rfl rfl rfl ?_
        refine ir_getR (pc' := 176) rfl rfl rfl (gG_at tsk_10) rfl w107_83_8e ?_
        refine ir_l (pc' := 177) rfl rfl rfl rfl rfl rfl ?_
        refine ir_tgr (pc' := 180) rfl rfl rfl tf_10_5 tsk_10 hT_107 (fun b35 b35e b35k => ?_)
        refine ir_k (pc' := 181) (v := (0, 1)) rfl rfl rfl (fun _ => rfl) ?_
        refine ir_cVV (pc' := 184) rfl rfl rfl rfl rfl (Nat.le_of_ble_eq_true rfl) oo_X1_add (gG_at w107_83_8k) (sf_add1_19_21 L ys d s_107 hT_107 w107_83_8 w107_83_8k b35 b35k (1) (by omega) (by omega) ) (fun s37 hr => ?_)
        obtain ⟨hT37, hG37⟩ := hr
        have hF37 := fr_trans hF_107 hG37 (by decide)
        have e38 : s37.1 83 10 = ((w107_83_10 : Nat) : Int) := (hG37.1 _ _ tsk_10 10 (by decide)).trans w107_83_10e
        have e39 : s37.1 83 13 = ((w107_83_13 : Nat) : Int) := (hG37.1 _ _ tsk_10 13 (by decide)).trans w107_83_13e
        have e40 : s37.1 83 11 = ((w107_83_11 : Nat) : Int) := (hG37.1 _ _ tsk_10 11 (by decide)).trans w107_83_11e
        have e41 : s37.1 83 14 = ((w107_83_14 : Nat) : Int) := (hG37.1 _ _ tsk_10 14 (by decide)).trans w107_83_14e
        have e42 : s37.1 83 8 = ((w107_83_8 : Nat) : Int) := (hG37.1 _ _ tsk_10 8 (by decide)).trans w107_83_8e
        have e43 : s37.1 83 5 = ((b35 : Nat) : Int) := (hG37.1 _ _ tsk_10 5 (by decide)).trans b35e
        refine ir_l (pc' := 185) rfl rfl rfl rfl rfl rfl ?_
        refine ir_getR (pc' := 188) rfl rfl rfl (gG_at tsk_10) rfl e42 ?_
        refine ir_k (pc' := 189) (v := (0, 1)) rfl rfl rfl (fun _ => rfl) ?_
        refine ir_cVV (pc' := 192) rfl rfl rfl rfl rfl (Nat.le_of_ble_eq_true rfl) oo_X1_shiftDown (gG_at w107_83_8k) (sf_shiftDown1_19 L ys (d + 1) s37 hT37 w107_83_8 w107_83_8k (1) (by omega) (by omega) ) (fun s45 hr => ?_)
        obtain ⟨hT45, hG45⟩ := hr
        have hF45 := fr_trans hF37 hG45 (by decide)
        have e46 : s45.1 83 10 = ((w107_83_10 : Nat) : Int) := (hG45.1 _ _ tsk_10 10 (by decide)).trans e38
        have e47 : s45.1 83 13 = ((w107_83_13 : Nat) : Int) := (hG45.1 _ _ tsk_10 13 (by decide)).trans e39
        have e48 : s45.1 83 11 = ((w107_83_11 : Nat) : Int) := (hG45.1 _ _ tsk_10 11 (by decide)).trans e40
        have e49 : s45.1 83 14 = ((w107_83_14 : Nat) : Int) := (hG45.1 _ _ tsk_10 14 (by decide)).trans e41
        have e50 : s45.1 83 8 = ((w107_83_8 : Nat) : Int) := (hG45.1 _ _ tsk_10 8 (by decide)).trans e42
        have e51 : s45.1 83 5 = ((b35 : Nat) : Int) := (hG45.1 _ _ tsk_10 5 (by decide)).trans e43
        refine ir_l (pc' := 193) rfl rfl rfl rfl rfl rfl ?_
        refine ir_getR (pc' := 196) rfl rfl rfl (gG_at tsk_10) rfl e50 ?_
        refine ir_tgi (pc' := 199) rfl rfl rfl tf_19_2 w107_83_8k hT45 (fun z52 z52e z52l z52h => ?_)
        refine ir_z_ne (pt := 210) (pc' := 202) rfl rfl rfl (fun c53 => ?_) (fun c53 => ?_)
        · refine ir_w [(0, (2, ((83 : Nat) : Int))), (1, (0, x1))] ⟨rfl, rfl, trivial⟩ ?_
          exact J210 s45 hT45 hF45 b35 b35k e51 w107_83_8 w107_83_8k e50 w107_83_10 w107_83_10k e46 w107_83_11 w107_83_11k e48 w107_83_13 w107_83_13k e47 w107_83_14 w107_83_14k e49
        · refine ir_l (pc' := 203) rfl rfl rfl rfl rfl rfl ?_
          refine ir_getR (pc' := 206) rfl rfl rfl (gG_at tsk_10) rfl e50 ?_
          refine ir_k (pc' := 207) (v := (1, 1)) rfl rfl rfl (fun _ => rfl) ?_
          refine ir_cVV (pc' := 210) rfl rfl rfl rfl rfl (Nat.le_of_ble_eq_true rfl) oo_X1_set (gG_at w107_83_8k) (sf_set1_19 L ys (d + 1) s45 hT45 w107_83_8 w107_83_8k (1) (by omega) (by omega) ) (fun s55 hr => ?_)
          obtain ⟨hT55, hG55⟩ := hr
          have hF55 := fr_trans hF45 hG55 (by decide)
          have e56 : s55.1 83 10 = ((w107_83_10 : Nat) : Int) := (hG55.1 _ _ tsk_10 10 (by decide)).trans e46
          have e57 : s55.1 83 13 = ((w107_83_13 : Nat) : Int) := (hG55.1 _ _ tsk_10 13 (by decide)).trans e47
          have e58 : s55.1 83 11 = ((w107_83_11 : Nat) : Int) := (hG55.1 _ _ tsk_10 11 (by decide)).trans e48
          have e59 : s55.1 83 14 = ((w107_83_14 : Nat) : Int) := (hG55.1 _ _ tsk_10 14 (by decide)).trans e49
          have e60 : s55.1 83 8 = ((w107_83_8 : Nat) : Int) := (hG55.1 _ _ tsk_10 8 (by decide)).trans e50
          have e61 : s55.1 83 5 = ((b35 : Nat) : Int) := (hG55.1 _ _ tsk_10 5 (by decide)).trans e51
          refine ir_w [(0, (2, ((83 : Nat) : Int))), (1, (0, x1))] ⟨rfl, rfl, trivial⟩ ?_
          exact J210 s55 hT55 hF55 b35 b35k e61 w107_83_8 w107_83_8k e60 w107_83_10 w107_83_10k e56 w107_83_11 w107_83_11k e58 w107_83_13 w107_83_13k e57 w107_83_14 w107_83_14k e59
      · refine ir_l (pc' := 113) rfl rfl rfl rfl rfl rfl ?_
        refine ir_getR (pc' := 116) rfl rfl rfl (gG_at tsk_10) rfl w107_83_10e ?_
        refine ir_k (pc' := 117) (v := (0, 1)) rfl rfl rfl (fun _ => rfl) ?_
        refine ir_cVV (pc' := 120) rfl rfl rfl rfl rfl (Nat.le_of_ble_eq_true rfl) oo_X1_shiftUp (gG_at w107_83_10k) (sf_shiftUp1_25 L ys (d + 1) s_107 hT_107 w107_83_10 w107_83_10k (1) (by omega) (by omega) ) (fun s63 hr => ?_)
        obtain ⟨hT63, hG63⟩ := hr
        have hF63 := fr_trans hF_107 hG63 (by decide)
        have e64 : s63.1 83 10 = ((w107_83_10 : Nat) : Int) := (hG63.1 _ _ tsk_10 10 (by decide)).trans w107_83_10e
        have e65 : s63.1 83 13 = ((w107_83_13 : Nat) : Int) := (hG63.1 _ _ tsk_10 13 (by decide)).trans w107_83_13e
        have e66 : s63.1 83 11 = ((w107_83_11 : Nat) : Int) := (hG63.1 _ _ tsk_10 11 (by decide)).trans w107_83_11e
        have e67 : s63.1 83 14 = ((w107_83_14 : Nat) : Int) := (hG63.1 _ _ tsk_10 14 (by decide)).trans w107_83_14e
        have e68 : s63.1 83 8 = ((w107_83_8 : Nat) : Int) := (hG63.1 _ _ tsk_10 8 (by decide)).trans w107_83_8e
        refine ir_l (pc' := 121) rfl rfl rfl rfl rfl rfl ?_
        refine ir_getR (pc' := 124) rfl rfl rfl (gG_at tsk_10) rfl e68 ?_
        refine ir_k (pc' := 125) (v := (0, 1)) rfl rfl rfl (fun _ => rfl) ?_
        refine ir_cVV (pc' := 128) rfl rfl rfl rfl rfl (Nat.le_of_ble_eq_true rfl) oo_X1_shiftUp (gG_at w107_83_8k) (sf_shiftUp1_19 L ys (d + 1) s63 hT63 w107_83_8 w107_83_8k (1) (by omega) (by omega) ) (fun s70 hr => ?_)
        obtain ⟨hT70, hG70⟩ := hr
        have hF70 := fr_trans hF63 hG70 (by decide)
        have e71 : s70.1 83 10 = ((w107_83_10 : Nat) : Int) := (hG70.1 _ _ tsk_10 10 (by decide)).trans e64
        have e72 : s70.1 83 13 = ((w107_83_13 : Nat) : Int) := (hG70.1 _ _ tsk_10 13 (by decide)).trans e65
        have e73 : s70.1 83 11 = ((w107_83_11 : Nat) : Int) := (hG70.1 _ _ tsk_10 11 (by decide)).trans e66
        have e74 : s70.1 83 14 = ((w107_83_14 : Nat) : Int) := (hG70.1 _ _ tsk_10 14 (by decide)).trans e67
        have e75 : s70.1 83 8 = ((w107_83_8 : Nat) : Int) := (hG70.1 _ _ tsk_10 8 (by decide)).trans e68
        refine ir_l (pc' := 129) rfl rfl rfl rfl rfl rfl ?_
        refine ir_getR (pc' := 132) rfl rfl rfl (gG_at tsk_10) rfl e71 ?_
        refine ir_l (pc' := 133) rfl rfl rfl rfl rfl rfl ?_
        refine ir_getR (pc' := 136) rfl rfl rfl (gG_at tsk_10) rfl e73 ?_
        refine ir_cVI (pc' := 139) rfl rfl rfl rfl rfl (Nat.le_of_ble_eq_true rfl) oo_X1_compareSize (gG_at w107_83_10k) (sf_compareSize1_25_25 L ys (d + 2) s70 hT70 w107_83_10 w107_83_10k w107_83_11 w107_83_11k ) (fun z76 s77 hr => ?_)
        obtain ⟨hT77, hG77, z76l, z76h⟩ := hr
        have hF77 := fr_trans hF70 hG77 (by decide)
        have e78 : s77.1 83 10 = ((w107_83_10 : Nat) : Int) := (hG77.1 _ _ tsk_10 10 (by decide)).trans e71
        have e79 : s77.1 83 13 = ((w107_83_13 : Nat) : Int) := (hG77.1 _ _ tsk_10 13 (by decide)).trans e72
        have e80 : s77.1 83 11 = ((w107_83_11 : Nat) : Int) := (hG77.1 _ _ tsk_10 11 (by decide)).trans e73
        have e81 : s77.1 83 14 = ((w107_83_14 : Nat) : Int) := (hG77.1 _ _ tsk_10 14 (by decide)).trans e74
        have e82 : s77.1 83 8 = ((w107_83_8 : Nat) : Int) := (hG77.1 _ _ tsk_10 8 (by decide)).trans e75
        refine ir_z_lt (pt := 166) (pc' := 142) rfl rfl rfl (fun c83 => ?_) (fun c83 => ?_)
        · refine ir_w [(0, (2, ((83 : Nat) : Int))), (1, (0, x1)), (3, (0, q107_l3))] ⟨rfl, rfl, rfl, trivial⟩ ?_
          exact J166 (by omega) s77 hT77 hF77 w107_83_8 w107_83_8k e82 w107_83_10 w107_83_10k e78 w107_83_11 w107_83_11k e80 w107_83_13 w107_83_13k e79 w107_83_14 w107_83_14k e81
        · refine ir_l (pc' := 143) rfl rfl rfl rfl rfl rfl ?_
          refine ir_getR (pc' := 146) rfl rfl rfl (gG_at tsk_10) rfl e78 ?_
          refine ir_l (pc' := 147) rfl rfl rfl rfl rfl rfl ?_
          refine ir_getR (pc' := 150) rfl rfl rfl (gG_at tsk_10) rfl e80 ?_
          refine ir_k (pc' := 151) (v := (0, (-1))) rfl rfl rfl (fun _ => rfl) ?_
          refine ir_cVV (pc' := 154) rfl rfl rfl rfl rfl (Nat.le_of_ble_eq_true rfl) oo_X1_add (gG_at w107_83_10k) (sf_add1_25_25 L ys d s77 hT77 w107_83_10 w107_83_10k w107_83_11 w107_83_11k ((-1)) (by omega) (by omega) ) (fun s85 hr => ?_)
          obtain ⟨hT85, hG85⟩ := hr
          have hF85 := fr_trans hF77 hG85 (by decide)
          have e86 : s85.1 83 10 = ((w107_83_10 : Nat) : Int) := (hG85.1 _ _ tsk_10 10 (by decide)).trans e78
          have e87 : s85.1 83 13 = ((w107_83_13 : Nat) : Int) := (hG85.1 _ _ tsk_10 13 (by decide)).trans e79
          have e88 : s85.1 83 11 = ((w107_83_11 : Nat) : Int) := (hG85.1 _ _ tsk_10 11 (by decide)).trans e80
          have e89 : s85.1 83 14 = ((w107_83_14 : Nat) : Int) := (hG85.1 _ _ tsk_10 14 (by decide)).trans e81
          have e90 : s85.1 83 8 = ((w107_83_8 : Nat) : Int) := (hG85.1 _ _ tsk_10 8 (by decide)).trans e82
          refine ir_l (pc' := 155) rfl rfl rfl rfl rfl rfl ?_
          refine ir_getR (pc' := 158) rfl rfl rfl (gG_at tsk_10) rfl e90 ?_
          refine ir_l (pc' := 159) rfl rfl rfl rfl rfl rfl ?_
          refine ir_tgr (pc' := 162) rfl rfl rfl tf_10_5 tsk_10 hT85 (fun b91 b91e b91k => ?_)
          refine ir_k (pc' := 163) (v := (0, 1)) rfl rfl rfl (fun _ => rfl) ?_
          refine ir_cVV (pc' := 166) rfl rfl rfl rfl rfl (Nat.le_of_ble_eq_true rfl) oo_X1_add (gG_at w107_83_8k) (sf_add1_19_21 L ys d s85 hT85 w107_83_8 w107_83_8k b91 b91k (1) (by omega) (by omega) ) (fun s93 hr => ?_)
          obtain ⟨hT93, hG93⟩ := hr
          have hF93 := fr_trans hF85 hG93 (by decide)
          have e94 : s93.1 83 10 = ((w107_83_10 : Nat) : Int) := (hG93.1 _ _ tsk_10 10 (by decide)).trans e86
          have e95 : s93.1 83 13 = ((w107_83_13 : Nat) : Int) := (hG93.1 _ _ tsk_10 13 (by decide)).trans e87
          have e96 : s93.1 83 11 = ((w107_83_11 : Nat) : Int) := (hG93.1 _ _ tsk_10 11 (by decide)).trans e88
          have e97 : s93.1 83 14 = ((w107_83_14 : Nat) : Int) := (hG93.1 _ _ tsk_10 14 (by decide)).trans e89
          have e98 : s93.1 83 8 = ((w107_83_8 : Nat) : Int) := (hG93.1 _ _ tsk_10 8 (by decide)).trans e90
          have e99 : s93.1 83 5 = ((b91 : Nat) : Int) := (hG93.1 _ _ tsk_10 5 (by decide)).trans b91e
          refine ir_w [(0, (2, ((83 : Nat) : Int))), (1, (0, x1)), (3, (0, q107_l3))] ⟨rfl, rfl, rfl, trivial⟩ ?_
          exact J166 (by omega) s93 hT93 hF93 w107_83_8 w107_83_8k e98 w107_83_10 w107_83_10k e94 w107_83_11 w107_83_11k e96 w107_83_13 w107_83_13k e95 w107_83_14 w107_83_14k e97
  refine ir_l (pc' := 1) rfl rfl rfl rfl rfl rfl ?_
  refine ir_tgr (pc' := 4) rfl rfl rfl tf_10_10 tsk_10 hT0 (fun b100 b100e b100k => ?_)
  refine ir_l (pc' := 5) rfl rfl rfl rfl rfl rfl ?_
  refine ir_tgr (pc' := 8) rfl rfl rfl tf_10_13 tsk_10 hT0 (fun b101 b101e b101k => ?_)
  refine ir_cVV (pc' := 11) rfl rfl rfl rfl rfl (Nat.le_of_ble_eq_true rfl) oo_X1_copy (gG_at b100k) (sf_copy1_25_25 L ys (d + 1) s0 hT0 b100 b100k b101 b101k ) (fun s103 hr => ?_)
  obtain ⟨hT103, hG103⟩ := hr
  have hF103 := fr_trans hF0 hG103 (by decide)
  have e104 : s103.1 83 10 = ((b100 : Nat) : Int) := (hG103.1 _ _ tsk_10 10 (by decide)).trans b100e
  have e105 : s103.1 83 13 = ((b101 : Nat) : Int) := (hG103.1 _ _ tsk_10 13 (by decide)).trans b101e
  refine ir_l (pc' := 12) rfl rfl rfl rfl rfl rfl ?_
  refine ir_tgr (pc' := 15) rfl rfl rfl tf_10_11 tsk_10 hT103 (fun b106 b106e b106k => ?_)
  refine ir_l (pc' := 16) rfl rfl rfl rfl rfl rfl ?_
  refine ir_tgr (pc' := 19) rfl rfl rfl tf_10_14 tsk_10 hT103 (fun b107 b107e b107k => ?_)
  refine ir_cVV (pc' := 22) rfl rfl rfl rfl rfl (Nat.le_of_ble_eq_true rfl) oo_X1_copy (gG_at b106k) (sf_copy1_25_25 L ys (d + 1) s103 hT103 b106 b106k b107 b107k ) (fun s109 hr => ?_)
  obtain ⟨hT109, hG109⟩ := hr
  have hF109 := fr_trans hF103 hG109 (by decide)
  have e110 : s109.1 83 10 = ((b100 : Nat) : Int) := (hG109.1 _ _ tsk_10 10 (by decide)).trans e104
  have e111 : s109.1 83 13 = ((b101 : Nat) : Int) := (hG109.1 _ _ tsk_10 13 (by decide)).trans e105
  have e112 : s109.1 83 11 = ((b106 : Nat) : Int) := (hG109.1 _ _ tsk_10 11 (by decide)).trans b106e
  have e113 : s109.1 83 14 = ((b107 : Nat) : Int) := (hG109.1 _ _ tsk_10 14 (by decide)).trans b107e
  refine ir_l (pc' := 23) rfl rfl rfl rfl rfl rfl ?_
  refine ir_getR (pc' := 26) rfl rfl rfl (gG_at tsk_10) rfl e110 ?_
  refine ir_l (pc' := 27) rfl rfl rfl rfl rfl rfl ?_
  refine ir_getR (pc' := 30) rfl rfl rfl (gG_at tsk_10) rfl e110 ?_
  refine ir_tgi (pc' := 33) rfl rfl rfl tf_25_2 b100k hT109 (fun z114 z114e z114l z114h => ?_)
  refine ir_cSI (pc' := 36) rfl rfl rfl rfl rfl rfl (Nat.le_of_ble_eq_true rfl) (sf_absI L ys (d + 2) s109 (z114) (by omega) (by omega)) (fun z115 s116 hr => ?_)
  obtain ⟨rfl, z115p0, z115p1, z115p2⟩ := hr
  refine ir_tpi (pc' := 39) rfl rfl rfl tf_25_2 rfl b100k hT109 rfl (by omega) (by omega) (fun s117 hT117 e117 g117 r117 => ?_)
  have hF117 := fr_put (k := 25) hF109 (by decide) b100k g117 r117
  have e118 : s117.1 83 10 = ((b100 : Nat) : Int) := (g117 83 10 (fun z => absurd z.2 (by decide))).trans e110
  have e119 : s117.1 83 13 = ((b101 : Nat) : Int) := (g117 83 13 (fun z => absurd z.2 (by decide))).trans e111
  have e120 : s117.1 83 11 = ((b106 : Nat) : Int) := (g117 83 11 (fun z => absurd z.2 (by decide))).trans e112
  have e121 : s117.1 83 14 = ((b107 : Nat) : Int) := (g117 83 14 (fun z => absurd z.2 (by decide))).trans e113
  refine ir_l (pc' := 40) rfl rfl rfl rfl rfl rfl ?_
  refine ir_getR (pc' := 43) rfl rfl rfl (gG_at tsk_10) rfl e120 ?_
  refine ir_l (pc' := 44) rfl rfl rfl rfl rfl rfl ?_
  refine ir_getR (pc' := 47) rfl rfl rfl (gG_at tsk_10) rfl e120 ?_
  refine ir_tgi (pc' := 50) rfl rfl rfl tf_25_2 b106k hT117 (fun z122 z122e z122l z122h => ?_)
  refine ir_cSI (pc' := 53) rfl rfl rfl rfl rfl rfl (Nat.le_of_ble_eq_true rfl) (sf_absI L ys (d + 2) s117 (z122) (by omega) (by omega)) (fun z123 s124 hr => ?_)
  obtain ⟨rfl, z123p0, z123p1, z123p2⟩ := hr
  refine ir_tpi (pc' := 56) rfl rfl rfl tf_25_2 rfl b106k hT117 rfl (by omega) (by omega) (fun s125 hT125 e125 g125 r125 => ?_)
  have hF125 := fr_put (k := 25) hF117 (by decide) b106k g125 r125
  have e126 : s125.1 83 10 = ((b100 : Nat) : Int) := (g125 83 10 (fun z => absurd z.2 (by decide))).trans e118
  have e127 : s125.1 83 13 = ((b101 : Nat) : Int) := (g125 83 13 (fun z => absurd z.2 (by decide))).trans e119
  have e128 : s125.1 83 11 = ((b106 : Nat) : Int) := (g125 83 11 (fun z => absurd z.2 (by decide))).trans e120
  have e129 : s125.1 83 14 = ((b107 : Nat) : Int) := (g125 83 14 (fun z => absurd z.2 (by decide))).trans e121
  refine ir_l (pc' := 57) rfl rfl rfl rfl rfl rfl ?_
  refine ir_getR (pc' := 60) rfl rfl rfl (gG_at tsk_10) rfl e128 ?_
  refine ir_l (pc' := 61) rfl rfl rfl rfl rfl rfl ?_
  refine ir_getR (pc' := 64) rfl rfl rfl (gG_at tsk_10) rfl e126 ?_
  refine ir_k (pc' := 65) (v := (0, 1)) rfl rfl rfl (fun _ => rfl) ?_
  refine ir_cVV (pc' := 68) rfl rfl rfl rfl rfl (Nat.le_of_ble_eq_true rfl) oo_X1_add (gG_at b106k) (sf_add1_25_25 L ys d s125 hT125 b106 b106k b100 b100k (1) (by omega) (by omega) ) (fun s131 hr => ?_)
  obtain ⟨hT131, hG131⟩ := hr
  have hF131 := fr_trans hF125 hG131 (by decide)
  have e132 : s131.1 83 10 = ((b100 : Nat) : Int) := (hG131.1 _ _ tsk_10 10 (by decide)).trans e126
  have e133 : s131.1 83 13 = ((b101 : Nat) : Int) := (hG131.1 _ _ tsk_10 13 (by decide)).trans e127
  have e134 : s131.1 83 11 = ((b106 : Nat) : Int) := (hG131.1 _ _ tsk_10 11 (by decide)).trans e128
  have e135 : s131.1 83 14 = ((b107 : Nat) : Int) := (hG131.1 _ _ tsk_10 14 (by decide)).trans e129
  refine ir_l (pc' := 69) rfl rfl rfl rfl rfl rfl ?_
  refine ir_getR (pc' := 72) rfl rfl rfl (gG_at tsk_10) rfl e134 ?_
  refine ir_cVI (pc' := 75) rfl rfl rfl rfl rfl (Nat.le_of_ble_eq_true rfl) oo_X1_bits (gG_at b106k) (sf_bits1_25 L ys (d + 1) s131 hT131 b106 b106k ) (fun z136 s137 hr => ?_)
  obtain ⟨hT137, hG137, z136l, z136h⟩ := hr
  have hF137 := fr_trans hF131 hG137 (by decide)
  have e138 : s137.1 83 10 = ((b100 : Nat) : Int) := (hG137.1 _ _ tsk_10 10 (by decide)).trans e132
  have e139 : s137.1 83 13 = ((b101 : Nat) : Int) := (hG137.1 _ _ tsk_10 13 (by decide)).trans e133
  have e140 : s137.1 83 11 = ((b106 : Nat) : Int) := (hG137.1 _ _ tsk_10 11 (by decide)).trans e134
  have e141 : s137.1 83 14 = ((b107 : Nat) : Int) := (hG137.1 _ _ tsk_10 14 (by decide)).trans e135
  refine ir_l (pc' := 76) rfl rfl rfl rfl rfl rfl ?_
  refine ir_iiA (pc' := 77) rfl rfl rfl rfl (fun z142 z142l z142h => ?_)
  refine ir_k (pc' := 79) (v := (0, 32)) rfl rfl rfl (fun _ => rfl) ?_
  refine ir_iiA (pc' := 80) rfl rfl rfl rfl (fun z143 z143l z143h => ?_)
  refine ir_s (pc' := 81) rfl rfl rfl rfl rfl rfl ?_
  refine ir_l (pc' := 82) rfl rfl rfl rfl rfl rfl ?_
  refine ir_getR (pc' := 85) rfl rfl rfl (gG_at tsk_10) rfl e138 ?_
  refine ir_l (pc' := 86) rfl rfl rfl rfl rfl rfl ?_
  refine ir_cVV (pc' := 89) rfl rfl rfl rfl rfl (Nat.le_of_ble_eq_true rfl) oo_X1_shiftDown (gG_at b100k) (sf_shiftDown1_25 L ys (d + 1) s137 hT137 b100 b100k (z143) (by omega) (by omega) ) (fun s145 hr => ?_)
  obtain ⟨hT145, hG145⟩ := hr
  have hF145 := fr_trans hF137 hG145 (by decide)
  have e146 : s145.1 83 10 = ((b100 : Nat) : Int) := (hG145.1 _ _ tsk_10 10 (by decide)).trans e138
  have e147 : s145.1 83 13 = ((b101 : Nat) : Int) := (hG145.1 _ _ tsk_10 13 (by decide)).trans e139
  have e148 : s145.1 83 11 = ((b106 : Nat) : Int) := (hG145.1 _ _ tsk_10 11 (by decide)).trans e140
  have e149 : s145.1 83 14 = ((b107 : Nat) : Int) := (hG145.1 _ _ tsk_10 14 (by decide)).trans e141
  refine ir_l (pc' := 90) rfl rfl rfl rfl rfl rfl ?_
  refine ir_getR (pc' := 93) rfl rfl rfl (gG_at tsk_10) rfl e148 ?_
  refine ir_l (pc' := 94) rfl rfl rfl rfl rfl rfl ?_
  refine ir_cVV (pc' := 97) rfl rfl rfl rfl rfl (Nat.le_of_ble_eq_true rfl) oo_X1_shiftDown (gG_at b106k) (sf_shiftDown1_25 L ys (d + 1) s145 hT145 b106 b106k (z143) (by omega) (by omega) ) (fun s151 hr => ?_)
  obtain ⟨hT151, hG151⟩ := hr
  have hF151 := fr_trans hF145 hG151 (by decide)
  have e152 : s151.1 83 10 = ((b100 : Nat) : Int) := (hG151.1 _ _ tsk_10 10 (by decide)).trans e146
  have e153 : s151.1 83 13 = ((b101 : Nat) : Int) := (hG151.1 _ _ tsk_10 13 (by decide)).trans e147
  have e154 : s151.1 83 11 = ((b106 : Nat) : Int) := (hG151.1 _ _ tsk_10 11 (by decide)).trans e148
  have e155 : s151.1 83 14 = ((b107 : Nat) : Int) := (hG151.1 _ _ tsk_10 14 (by decide)).trans e149
  refine ir_l (pc' := 98) rfl rfl rfl rfl rfl rfl ?_
  refine ir_tgr (pc' := 101) rfl rfl rfl tf_10_8 tsk_10 hT151 (fun b156 b156e b156k => ?_)
  refine ir_k (pc' := 102) (v := (1, 0)) rfl rfl rfl (fun _ => rfl) ?_
  refine ir_cVV (pc' := 105) rfl rfl rfl rfl rfl (Nat.le_of_ble_eq_true rfl) oo_X1_set (gG_at b156k) (sf_set1_19 L ys (d + 1) s151 hT151 b156 b156k (0) (by omega) (by omega) ) (fun s158 hr => ?_)
  obtain ⟨hT158, hG158⟩ := hr
  have hF158 := fr_trans hF151 hG158 (by decide)
  have e159 : s158.1 83 10 = ((b100 : Nat) : Int) := (hG158.1 _ _ tsk_10 10 (by decide)).trans e152
  have e160 : s158.1 83 13 = ((b101 : Nat) : Int) := (hG158.1 _ _ tsk_10 13 (by decide)).trans e153
  have e161 : s158.1 83 11 = ((b106 : Nat) : Int) := (hG158.1 _ _ tsk_10 11 (by decide)).trans e154
  have e162 : s158.1 83 14 = ((b107 : Nat) : Int) := (hG158.1 _ _ tsk_10 14 (by decide)).trans e155
  have e163 : s158.1 83 8 = ((b156 : Nat) : Int) := (hG158.1 _ _ tsk_10 8 (by decide)).trans b156e
  refine ir_k (pc' := 106) (v := (0, 0)) rfl rfl rfl (fun _ => rfl) ?_
  refine ir_s (pc' := 107) rfl rfl rfl rfl rfl rfl ?_
  refine ir_w [(0, (2, ((83 : Nat) : Int))), (1, (0, x1)), (3, (0, 0))] ⟨rfl, rfl, rfl, trivial⟩ ?_
  exact J107 _ (0) (by omega) (by omega) s158 hT158 hF158 b156 b156k e163 b100 b100k e159 b106 b106k e161 b101 b101k e160 b107 b107k e162 (Int.self_le_toNat _)
