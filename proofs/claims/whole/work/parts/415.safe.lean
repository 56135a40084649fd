/-! WALKS OF THE CLASS'S METHODS, by program -/
theorem sf_locate4 (L : Nat) (ys : Nat → Int32) (d : Nat) (s0 : im_S) (hT0 : tI s0) (x1 : Int) (x1l : -9223372036854775808 ≤ x1) (x1h : x1 ≤ 9223372036854775807) (x2 : Int) (x2l : -9223372036854775808 ≤ x2) (x2h : x2 ≤ 9223372036854775807) (x3 : Int) (x3l : -9223372036854775808 ≤ x3) (x3h : x3 ≤ 9223372036854775807) : icI gG rm_P L ys 0 (d + 6) 156 [(2, ((1 : Nat) : Int)), (1, x1), (1, x2), (1, x3)] s0 (fun z s => tI s ∧ fr [(19, 1), (19, 2), (25, 1), (25, 2)] s0 s ∧ 0 ≤ z ∧ z ≤ 160) := by
  refine ic_startM (M := rm_p_X4_locate) om_X4_locate (Nat.le_of_ble_eq_true rfl) ?_
  refine ir_w [(0, (2, ((1 : Nat) : Int))), (1, (1, x1)), (3, (1, x2)), (5, (1, x3))] ⟨rfl, rfl, rfl, rfl, trivial⟩ ?_
  have hF0 := fr_refl [(19, 1), (19, 2), (25, 1), (25, 2)] s0
  have J9 : ∀ n : Nat, ∀ (q9_l7 : Int) (q9_l7l : 0 ≤ q9_l7) (q9_l7h : q9_l7 ≤ 80) (q9_l8 : Int) (q9_l8l : 0 ≤ q9_l8) (q9_l8h : q9_l8 ≤ 80) (s_9 : im_S) (hT_9 : tI s_9) (hF_9 : fr [(19, 1), (19, 2), (25, 1), (25, 2)] s0 s_9) (w9_1_4 : Int) (w9_1_4l : 0 ≤ w9_1_4) (w9_1_4h : w9_1_4 ≤ 80) (w9_1_4e : s_9.1 1 4 = w9_1_4) (i9_0 : q9_l7 ≤ q9_l8), (q9_l8 - q9_l7 + 1) ≤ (n : Int) → ir gG rm_P L ys (d + 5) rm_p_X4_locate (9, [(0, (2, ((1 : Nat) : Int))), (1, (1, x1)), (3, (1, x2)), (5, (1, x3)), (7, (0, q9_l7)), (8, (0, q9_l8))], [], s_9) (fun r : im_Re => ∃ z, r.1 = some (0, z) ∧ (tI r.2 ∧ fr [(19, 1), (19, 2), (25, 1), (25, 2)] s0 r.2 ∧ 0 ≤ z ∧ z ≤ 160)) := by
    intro n
    induction n with
    | zero => intro q9_l7 q9_l7l q9_l7h q9_l8 q9_l8l q9_l8h s_9 hT_9 hF_9 w9_1_4 w9_1_4l w9_1_4h w9_1_4e i9_0 hr; exfalso; omega
    | succ n ih9 =>
      intro q9_l7 q9_l7l q9_l7h q9_l8 q9_l8l q9_l8h s_9 hT_9 hF_9 w9_1_4 w9_1_4l w9_1_4h w9_1_4e i9_0 hr
      have J74 : ∀ (q74_l7 : Int) (q74_l7l : 0 ≤ q74_l7) (q74_l7h : q74_l7 ≤ 80) (q74_l8 : Int) (q74_l8l : 0 ≤ q74_l8) (q74_l8h : q74_l8 ≤ 80) (s_74 : im_S) (hT_74 : tI s_74) (hF_74 : fr [(19, 1), (19, 2), (25, 1), (25, 2)] s0 s_74) (w74_1_1e : s_74.1 1 1 = ((83 : Nat) : Int)) (w74_1_4 : Int) (w74_1_4l : 0 ≤ w74_1_4) (w74_1_4h : w74_1_4 ≤ 80) (w74_1_4e : s_74.1 1 4 = w74_1_4) (i74_0 : q74_l7 ≤ q74_l8) (i74_1 : q74_l8 - q74_l7 < q9_l8 - q9_l7), ir gG rm_P L ys (d + 5) rm_p_X4_locate (74, [(0, (2, ((1 : Nat) : Int))), (1, (1, x1)), (3, (1, x2)), (5, (1, x3)), (7, (0, q74_l7)), (8, (0, q74_l8))], [], s_74) (fun r : im_Re => ∃ z, r.1 = some (0, z) ∧ (tI r.2 ∧ fr [(19, 1), (19, 2), (25, 1), (25, 2)] s0 r.2 ∧ 0 ≤ z ∧ z ≤ 160)) := by
        intro q74_l7 q74_l7l q74_l7h q74_l8 q74_l8l q74_l8h s_74 hT_74 hF_74 w74_1_1e w74_1_4 w74_1_4l w74_1_4h w74_1_4e i74_0 i74_1
        refine ir_goto (pc' := 9) rfl rfl ?_
        refine ir_w [(0, (2, ((1 : Nat) : Int))), (1, (1, x1)), (3, (1, x2)), (5, (1, x3)), (7, (0, q74_l7)), (8, (0, q74_l8))] ⟨rfl, rfl, rfl, rfl, rfl, rfl, trivial⟩ ?_
        exact ih9 (q74_l7) (by omega) (by omega) (q74_l8) (by omega) (by omega) s_74 hT_74 hF_74 (w74_1_4) (by omega) (by omega) w74_1_4e (by omega) (by omega)
      refine ir_l (pc' := 11) rfl rfl rfl rfl rfl rfl ?_
      refine ir_l (pc' := 13) rfl rfl rfl rfl rfl rfl ?_
      refine ir_c_ge (pt := 77) (pc' := 16) rfl rfl rfl (fun c1 => ?_) (fun c1 => ?_)
      · refine ir_k (pc' := 78) (v := (0, 2)) rfl rfl rfl (fun _ => rfl) ?_
        refine ir_l (pc' := 80) rfl rfl rfl rfl rfl rfl ?_
        refine ir_mul (pc' := 81) rfl rfl (by omega) (by omega) ?_
        exact ir_iret rfl rfl ⟨_, rfl, hT_9, hF_9, by omega, by omega⟩
      · refine ir_l (pc' := 18) rfl rfl rfl rfl rfl rfl ?_
        refine ir_l (pc' := 20) rfl rfl rfl rfl rfl rfl ?_
        refine ir_add (pc' := 21) rfl rfl (by omega) (by omega) ?_
        refine ir_k (pc' := 22) (v := (0, 2)) rfl rfl rfl (fun _ => rfl) ?_
        refine ir_divN (pc' := 23) rfl rfl (by omega) (by omega) (by omega) (by omega) ?_
        refine ir_s (pc' := 25) rfl rfl rfl rfl rfl rfl ?_
        refine ir_l (pc' := 26) rfl rfl rfl rfl rfl rfl ?_
        refine ir_tgr (pc' := 29) rfl rfl rfl tf_1_1 tsk_1 hT_9 (fun b2 b2e b2k => ?_)
        obtain rfl := tsg_10 b2k
        refine ir_l (pc' := 30) rfl rfl rfl rfl rfl rfl ?_
        refine ir_l (pc' := 32) rfl rfl rfl rfl rfl rfl ?_
        refine ir_cVR (pc' := 35) rfl rfl rfl rfl rfl (Nat.le_of_ble_eq_true rfl) oo_X4_rootAt (gG_at tsk_1) (sf_rootAt4 L ys (d + 3) s_9 hT_9 (((q9_l7 + q9_l8) / 2)) (by omega) (by omega) ) (fun b3 s4 hr => ?_)
        obtain ⟨hT4, hG4, b3k⟩ := hr
        have hF4 := fr_trans hF_9 hG4 (by decide)
        have e5 : s4.1 1 4 = w9_1_4 := (hG4.1 _ _ tsk_1 4 (by decide)).trans w9_1_4e
        have e6 : s4.1 1 1 = ((83 : Nat) : Int) := (hG4.1 _ _ tsk_1 1 (by decide)).trans b2e
        refine ir_l (pc' := 36) rfl rfl rfl rfl rfl rfl ?_
        refine ir_l (pc' := 37) rfl rfl rfl rfl rfl rfl ?_
        refine ir_l (pc' := 39) rfl rfl rfl rfl rfl rfl ?_
        refine ir_cVI (pc' := 42) rfl rfl rfl rfl rfl (Nat.le_of_ble_eq_true rfl) oo_X3_compareWith (gG_at tsk_10) (sf_compareWith3 L ys d s4 hT4 b3 b3k (x1) (by omega) (by omega) (x2) (by omega) (by omega) (x3) (by omega) (by omega) ) (fun z7 s8 hr => ?_)
        obtain ⟨hT8, hG8, z7l, z7h⟩ := hr
        have hF8 := fr_trans hF4 hG8 (by decide)
        have e9 : s8.1 1 4 = w9_1_4 := (hG8.1 _ _ tsk_1 4 (by decide)).trans e5
        have e10 : s8.1 1 1 = ((83 : Nat) : Int) := (hG8.1 _ _ tsk_1 1 (by decide)).trans e6
        refine ir_s (pc' := 44) rfl rfl rfl rfl rfl rfl ?_
        refine ir_l (pc' := 46) rfl rfl rfl rfl rfl rfl ?_
        refine ir_z_ne (pt := 56) (pc' := 49) rfl rfl rfl (fun c11 => ?_) (fun c11 => ?_)
        · refine ir_l (pc' := 58) rfl rfl rfl rfl rfl rfl ?_
          refine ir_z_ge (pt := 70) (pc' := 61) rfl rfl rfl (fun c12 => ?_) (fun c12 => ?_)
          · refine ir_l (pc' := 72) rfl rfl rfl rfl rfl rfl ?_
            refine ir_s (pc' := 74) rfl rfl rfl rfl rfl rfl ?_
            refine ir_w [(0, (2, ((1 : Nat) : Int))), (1, (1, x1)), (3, (1, x2)), (5, (1, x3)), (7, (0, q9_l7)), (8, (0, ((q9_l7 + q9_l8) / 2)))] ⟨rfl, rfl, rfl, rfl, rfl, rfl, trivial⟩ ?_
            exact J74 (q9_l7) (by omega) (by omega) (((q9_l7 + q9_l8) / 2)) (by omega) (by omega) s8 hT8 hF8 e10 (w9_1_4) (by omega) (by omega) e9 (by omega) (by omega)
          · refine ir_l (pc' := 63) rfl rfl rfl rfl rfl rfl ?_
            refine ir_k (pc' := 64) (v := (0, 1)) rfl rfl rfl (fun _ => rfl) ?_
            refine ir_add (pc' := 65) rfl rfl (by omega) (by omega) ?_
            refine ir_s (pc' := 67) rfl rfl rfl rfl rfl rfl ?_
            refine ir_goto (pc' := 74) rfl rfl ?_
            refine ir_w [(0, (2, ((1 : Nat) : Int))), (1, (1, x1)), (3, (1, x2)), (5, (1, x3)), (7, (0, (((q9_l7 + q9_l8) / 2) + 1))), (8, (0, q9_l8))] ⟨rfl, rfl, rfl, rfl, rfl, rfl, trivial⟩ ?_
            exact J74 ((((q9_l7 + q9_l8) / 2) + 1)) (by omega) (by omega) (q9_l8) (by omega) (by omega) s8 hT8 hF8 e10 (w9_1_4) (by omega) (by omega) e9 (by omega) (by omega)
        · refine ir_k (pc' := 50) (v := (0, 2)) rfl rfl rfl (fun _ => rfl) ?_
          refine ir_l (pc' := 52) rfl rfl rfl rfl rfl rfl ?_
          refine ir_mul (pc' := 53) rfl rfl (by omega) (by omega) ?_
          refine ir_k (pc' := 54) (v := (0, 1)) rfl rfl rfl (fun _ => rfl) ?_
          refine ir_add (pc' := 55) rfl rfl (by omega) (by omega) ?_
          exact ir_iret rfl rfl ⟨_, rfl, hT8, hF8, by omega, by omega⟩
  refine ir_k (pc' := 1) (v := (0, 0)) rfl rfl rfl (fun _ => rfl) ?_
  refine ir_s (pc' := 3) rfl rfl rfl rfl rfl rfl ?_
  refine ir_l (pc' := 4) rfl rfl rfl rfl rfl rfl ?_
  refine ir_tgi (pc' := 7) rfl rfl rfl tf_1_4 tsk_1 hT0 (fun z13 z13e z13l z13h => ?_)
  refine ir_s (pc' := 9) rfl rfl rfl rfl rfl rfl ?_
  refine ir_w [(0, (2, ((1 : Nat) : Int))), (1, (1, x1)), (3, (1, x2)), (5, (1, x3)), (7, (0, 0)), (8, (0, z13))] ⟨rfl, rfl, rfl, rfl, rfl, rfl, trivial⟩ ?_
  exact J9 _ (0) (by omega) (by omega) (z13) (by omega) (by omega) s0 hT0 hF0 (z13) (by omega) (by omega) z13e (by omega) (Int.self_le_toNat _)
theorem sf_fillBetween4 (L : Nat) (ys : Nat → Int32) (d : Nat) (s0 : im_S) (hT0 : tI s0) (x1 : Int) (x1l : 0 ≤ x1) (x1h : x1 ≤ 160) : icV gG rm_P L ys (d + 7) 151 [(2, ((1 : Nat) : Int)), (0, x1)] s0 (fun s => tI s ∧ fr [(19, 1), (19, 2), (25, 1), (25, 2)] s0 s) := by
  refine ic_startM (M := rm_p_X4_fillBetween) om_X4_fillBetween (Nat.le_of_ble_eq_true rfl) ?_
  refine ir_w [(0, (2, ((1 : Nat) : Int))), (1, (0, x1))] ⟨rfl, rfl, trivial⟩ ?_
  have hF0 := fr_refl [(19, 1), (19, 2), (25, 1), (25, 2)] s0
  have J143 : ∀ (s_143 : im_S) (hT_143 : tI s_143) (hF_143 : fr [(19, 1), (19, 2), (25, 1), (25, 2)] s0 s_143) (w143_1_11e : s_143.1 1 11 = ((580 : Nat) : Int)) (w143_1_12e : s_143.1 1 12 = ((581 : Nat) : Int)), ir gG rm_P L ys (d + 6) rm_p_X4_fillBetween (143, [], [], s_143) (fun r : im_Re => r.1 = none ∧ (tI r.2 ∧ fr [(19, 1), (19, 2), (25, 1), (25, 2)] s0 r.2)) := by
    intro s_143 hT_143 hF_143 w143_1_11e w143_1_12e
    exact ir_vret rfl rfl ⟨rfl, hT_143, hF_143⟩
  have J140 : ∀ (q140_s1 : Int) (q140_s1l : 0 ≤ q140_s1) (q140_s1h : q140_s1 ≤ 160) (q140_s2 : Int) (q140_s2l : -9223372036854775808 ≤ q140_s2) (q140_s2h : q140_s2 ≤ 9223372036854775807) (s_140 : im_S) (hT_140 : tI s_140) (hF_140 : fr [(19, 1), (19, 2), (25, 1), (25, 2)] s0 s_140) (w140_1_11e : s_140.1 1 11 = ((580 : Nat) : Int)) (w140_1_12e : s_140.1 1 12 = ((581 : Nat) : Int)), ir gG rm_P L ys (d + 6) rm_p_X4_fillBetween (140, [], [(1, q140_s2), (0, q140_s1), (2, ((1 : Nat) : Int))], s_140) (fun r : im_Re => r.1 = none ∧ (tI r.2 ∧ fr [(19, 1), (19, 2), (25, 1), (25, 2)] s0 r.2)) := by
    intro q140_s1 q140_s1l q140_s1h q140_s2 q140_s2l q140_s2h s_140 hT_140 hF_140 w140_1_11e w140_1_12e
    refine ir_cVV (pc' := 143) rfl rfl rfl rfl rfl (Nat.le_of_ble_eq_true rfl) oo_X4_descend (gG_at tsk_1) (sf_descend4 L ys d s_140 hT_140 (q140_s1) (by omega) (by omega) (q140_s2) (by omega) (by omega) ) (fun s2 hr => ?_)
    obtain ⟨hT2, hG2⟩ := hr
    have hF2 := fr_trans hF_140 hG2 (by decide)
    have e3 : s2.1 1 12 = ((581 : Nat) : Int) := (hG2.1 _ _ tsk_1 12 (by decide)).trans w140_1_12e
    have e4 : s2.1 1 11 = ((580 : Nat) : Int) := (hG2.1 _ _ tsk_1 11 (by decide)).trans w140_1_11e
    refine ir_w [] trivial ?_
    exact J143 s2 hT2 hF2 e4 e3
  have J94 : ∀ (q94_l2 : Int) (q94_l2l : -9223372036854775808 ≤ q94_l2) (q94_l2h : q94_l2 ≤ 9223372036854775807) (q94_l4 : Int) (q94_l4l : 0 ≤ q94_l4) (q94_l4h : q94_l4 ≤ 160) (s_94 : im_S) (hT_94 : tI s_94) (hF_94 : fr [(19, 1), (19, 2), (25, 1), (25, 2)] s0 s_94) (w94_1_12e : s_94.1 1 12 = ((581 : Nat) : Int)), ir gG rm_P L ys (d + 6) rm_p_X4_fillBetween (94, [(0, (2, ((1 : Nat) : Int))), (1, (0, x1)), (2, (1, q94_l2)), (4, (0, q94_l4))], [], s_94) (fun r : im_Re => r.1 = none ∧ (tI r.2 ∧ fr [(19, 1), (19, 2), (25, 1), (25, 2)] s0 r.2)) := by
    intro q94_l2 q94_l2l q94_l2h q94_l4 q94_l4l q94_l4h s_94 hT_94 hF_94 w94_1_12e
    refine ir_l (pc' := 95) rfl rfl rfl rfl rfl rfl ?_
    refine ir_tgr (pc' := 98) rfl rfl rfl tf_1_11 tsk_1 hT_94 (fun b5 b5e b5k => ?_)
    obtain rfl := tsg_30 b5k
    refine ir_l (pc' := 99) rfl rfl rfl rfl rfl rfl ?_
    refine ir_l (pc' := 100) rfl rfl rfl rfl rfl rfl ?_
    refine ir_tls (pc' := 101) rfl rfl te_30 tsk_30 hT_94 (by omega) (by omega) (by omega) (by omega) (fun s6 hT6 r6 o6 => ?_)
    have hF6 := fr_row hF_94 r6 o6
    have e7 : s6.1 1 12 = ((581 : Nat) : Int) := by rw [r6]; exact w94_1_12e
    have e8 : s6.1 1 11 = ((580 : Nat) : Int) := by rw [r6]; exact b5e
    refine ir_l (pc' := 102) rfl rfl rfl rfl rfl rfl ?_
    refine ir_getR (pc' := 105) rfl rfl rfl (gG_at tsk_1) rfl e7 ?_
    refine ir_l (pc' := 106) rfl rfl rfl rfl rfl rfl ?_
    refine ir_k (pc' := 107) (v := (0, 1)) rfl rfl rfl (fun _ => rfl) ?_
    refine ir_tis (pc' := 108) rfl rfl rfl rfl te_31 tsk_31 hT6 (by omega) (by omega) (rfl) (by omega) (by omega) (fun s9 hT9 r9 o9 => ?_)
    have hF9 := fr_row hF6 r9 o9
    have e10 : s9.1 1 12 = ((581 : Nat) : Int) := by rw [r9]; exact e7
    have e11 : s9.1 1 11 = ((580 : Nat) : Int) := by rw [r9]; exact e8
    refine ir_l (pc' := 110) rfl rfl rfl rfl rfl rfl ?_
    refine ir_l (pc' := 111) rfl rfl rfl rfl rfl rfl ?_
    refine ir_c_eq (pt := 143) (pc' := 114) rfl rfl rfl (fun c12 => ?_) (fun c12 => ?_)
    · refine ir_w [] trivial ?_
      exact J143 s9 hT9 hF9 e11 e10
    · refine ir_l (pc' := 115) rfl rfl rfl rfl rfl rfl ?_
      refine ir_l (pc' := 116) rfl rfl rfl rfl rfl rfl ?_
      refine ir_k (pc' := 117) (v := (1, 0)) rfl rfl rfl (fun _ => rfl) ?_
      refine ir_k (pc' := 118) (v := (1, 1)) rfl rfl rfl (fun _ => rfl) ?_
      refine ir_cVI (pc' := 121) rfl rfl rfl rfl rfl (Nat.le_of_ble_eq_true rfl) oo_X4_locate (gG_at tsk_1) (sf_locate4 L ys d s9 hT9 (q94_l2) (by omega) (by omega) (0) (by omega) (by omega) (1) (by omega) (by omega) ) (fun z13 s14 hr => ?_)
      obtain ⟨hT14, hG14, z13l, z13h⟩ := hr
      have hF14 := fr_trans hF9 hG14 (by decide)
      have e15 : s14.1 1 12 = ((581 : Nat) : Int) := (hG14.1 _ _ tsk_1 12 (by decide)).trans e10
      have e16 : s14.1 1 11 = ((580 : Nat) : Int) := (hG14.1 _ _ tsk_1 11 (by decide)).trans e11
      refine ir_l (pc' := 122) rfl rfl rfl rfl rfl rfl ?_
      refine ir_c_eq (pt := 143) (pc' := 125) rfl rfl rfl (fun c17 => ?_) (fun c17 => ?_)
      · refine ir_w [] trivial ?_
        exact J143 s14 hT14 hF14 e16 e15
      · refine ir_l (pc' := 126) rfl rfl rfl rfl rfl rfl ?_
        refine ir_l (pc' := 127) rfl rfl rfl rfl rfl rfl ?_
        refine ir_l (pc' := 129) rfl rfl rfl rfl rfl rfl ?_
        refine ir_l (pc' := 130) rfl rfl rfl rfl rfl rfl ?_
        refine ir_c_ge (pt := 139) (pc' := 133) rfl rfl rfl (fun c18 => ?_) (fun c18 => ?_)
        · refine ir_l (pc' := 140) rfl rfl rfl rfl rfl rfl ?_
          refine ir_w [] trivial ?_
          exact J140 (x1) (by omega) (by omega) (q94_l2) (by omega) (by omega) s14 hT14 hF14 e16 e15
        · refine ir_l (pc' := 134) rfl rfl rfl rfl rfl rfl ?_
          refine ir_k (pc' := 135) (v := (1, 1)) rfl rfl rfl (fun _ => rfl) ?_
          refine ir_jjA (pc' := 136) rfl rfl rfl rfl (fun z19 z19l z19h => ?_)
          refine ir_goto (pc' := 140) rfl rfl ?_
          refine ir_w [] trivial ?_
          exact J140 (x1) (by omega) (by omega) (z19) (by omega) (by omega) s14 hT14 hF14 e16 e15
  have J93 : ∀ (q93_l4 : Int) (q93_l4l : 1 ≤ q93_l4) (q93_l4h : q93_l4 ≤ 160) (q93_s0 : Int) (q93_s0l : -9223372036854775808 ≤ q93_s0) (q93_s0h : q93_s0 ≤ 9223372036854775807) (f93_1h : x1 ≤ 159) (s_93 : im_S) (hT_93 : tI s_93) (hF_93 : fr [(19, 1), (19, 2), (25, 1), (25, 2)] s0 s_93) (w93_1_12e : s_93.1 1 12 = ((581 : Nat) : Int)), ir gG rm_P L ys (d + 6) rm_p_X4_fillBetween (93, [(0, (2, ((1 : Nat) : Int))), (1, (0, x1)), (4, (0, q93_l4))], [(1, q93_s0)], s_93) (fun r : im_Re => r.1 = none ∧ (tI r.2 ∧ fr [(19, 1), (19, 2), (25, 1), (25, 2)] s0 r.2)) := by
    intro q93_l4 q93_l4l q93_l4h q93_s0 q93_s0l q93_s0h f93_1h s_93 hT_93 hF_93 w93_1_12e
    refine ir_s2 (pc' := 94) rfl rfl rfl rfl rfl rfl ?_
    refine ir_w [(0, (2, ((1 : Nat) : Int))), (1, (0, x1)), (2, (1, q93_s0)), (4, (0, q93_l4))] ⟨rfl, rfl, rfl, rfl, trivial⟩ ?_
    exact J94 (q93_s0) (by omega) (by omega) (q93_l4) (by omega) (by omega) s_93 hT_93 hF_93 w93_1_12e
  have J88 : ∀ (q88_l4 : Int) (q88_l4l : 1 ≤ q88_l4) (q88_l4h : q88_l4 ≤ 160) (q88_l5 : Nat) (q88_l5k : gK[q88_l5]? = some 23) (f88_1h : x1 ≤ 159) (s_88 : im_S) (hT_88 : tI s_88) (hF_88 : fr [(19, 1), (19, 2), (25, 1), (25, 2)] s0 s_88) (w88_1_12e : s_88.1 1 12 = ((581 : Nat) : Int)), ir gG rm_P L ys (d + 6) rm_p_X4_fillBetween (88, [(0, (2, ((1 : Nat) : Int))), (1, (0, x1)), (4, (0, q88_l4)), (5, (2, ((q88_l5 : Nat) : Int)))], [], s_88) (fun r : im_Re => r.1 = none ∧ (tI r.2 ∧ fr [(19, 1), (19, 2), (25, 1), (25, 2)] s0 r.2)) := by
    intro q88_l4 q88_l4l q88_l4h q88_l5 q88_l5k f88_1h s_88 hT_88 hF_88 w88_1_12e
    refine ir_l (pc' := 90) rfl rfl rfl rfl rfl rfl ?_
    refine ir_tgj (pc' := 93) rfl rfl rfl tf_23_4 q88_l5k hT_88 (fun z20 z20e z20l z20h => ?_)
    refine ir_w [(0, (2, ((1 : Nat) : Int))), (1, (0, x1)), (4, (0, q88_l4))] ⟨rfl, rfl, rfl, trivial⟩ ?_
    exact J93 (q88_l4) (by omega) (by omega) (z20) (by omega) (by omega) (by omega) s_88 hT_88 hF_88 w88_1_12e
  refine ir_l (pc' := 1) rfl rfl rfl rfl rfl rfl ?_
  refine ir_tgr (pc' := 4) rfl rfl rfl tf_1_12 tsk_1 hT0 (fun b21 b21e b21k => ?_)
  obtain rfl := tsg_31 b21k
  refine ir_l (pc' := 5) rfl rfl rfl rfl rfl rfl ?_
  refine ir_tia (pc' := 6) rfl rfl te_31 (by decide) tsk_31 hT0 (by omega) (by omega) (fun z22 z22e z22l z22h => ?_)
  clear z22e
  refine ir_z_eq (pt := 10) (pc' := 9) rfl rfl rfl (fun c23 => ?_) (fun c23 => ?_)
  · refine ir_k (pc' := 11) (v := (1, 0)) rfl rfl rfl (fun _ => rfl) ?_
    refine ir_s2 (pc' := 12) rfl rfl rfl rfl rfl rfl ?_
    refine ir_l (pc' := 13) rfl rfl rfl rfl rfl rfl ?_
    refine ir_k (pc' := 14) (v := (1, 0)) rfl rfl rfl (fun _ => rfl) ?_
    refine ir_k (pc' := 15) (v := (1, 0)) rfl rfl rfl (fun _ => rfl) ?_
    refine ir_k (pc' := 16) (v := (1, 1)) rfl rfl rfl (fun _ => rfl) ?_
    refine ir_cVI (pc' := 19) rfl rfl rfl rfl rfl (Nat.le_of_ble_eq_true rfl) oo_X4_locate (gG_at tsk_1) (sf_locate4 L ys d s0 hT0 (0) (by omega) (by omega) (0) (by omega) (by omega) (1) (by omega) (by omega) ) (fun z24 s25 hr => ?_)
    obtain ⟨hT25, hG25, z24l, z24h⟩ := hr
    have hF25 := fr_trans hF0 hG25 (by decide)
    have e26 : s25.1 1 12 = ((581 : Nat) : Int) := (hG25.1 _ _ tsk_1 12 (by decide)).trans b21e
    refine ir_s (pc' := 21) rfl rfl rfl rfl rfl rfl ?_
    refine ir_l (pc' := 23) rfl rfl rfl rfl rfl rfl ?_
    refine ir_l (pc' := 24) rfl rfl rfl rfl rfl rfl ?_
    refine ir_c_ge (pt := 45) (pc' := 27) rfl rfl rfl (fun c27 => ?_) (fun c27 => ?_)
    · refine ir_l (pc' := 47) rfl rfl rfl rfl rfl rfl ?_
      refine ir_l (pc' := 48) rfl rfl rfl rfl rfl rfl ?_
      refine ir_c_le (pt := 94) (pc' := 51) rfl rfl rfl (fun c28 => ?_) (fun c28 => ?_)
      · refine ir_w [(0, (2, ((1 : Nat) : Int))), (1, (0, x1)), (2, (1, 0)), (4, (0, z24))] ⟨rfl, rfl, rfl, rfl, trivial⟩ ?_
        exact J94 (0) (by omega) (by omega) (z24) (by omega) (by omega) s25 hT25 hF25 e26
      · refine ir_l (pc' := 52) rfl rfl rfl rfl rfl rfl ?_
        refine ir_l (pc' := 53) rfl rfl rfl rfl rfl rfl ?_
        refine ir_k (pc' := 54) (v := (0, 2)) rfl rfl rfl (fun _ => rfl) ?_
        refine ir_divN (pc' := 55) rfl rfl (by omega) (by omega) (by omega) (by omega) ?_
        refine ir_cVR (pc' := 58) rfl rfl rfl rfl rfl (Nat.le_of_ble_eq_true rfl) oo_X4_rootAt (gG_at tsk_1) (sf_rootAt4 L ys (d + 4) s25 hT25 ((x1 / 2)) (by omega) (by omega) ) (fun b29 s30 hr => ?_)
        obtain ⟨hT30, hG30, b29k⟩ := hr
        have hF30 := fr_trans hF25 hG30 (by decide)
        have e31 : s30.1 1 12 = ((581 : Nat) : Int) := (hG30.1 _ _ tsk_1 12 (by decide)).trans e26
        refine ir_s (pc' := 60) rfl rfl rfl rfl rfl rfl ?_
        refine ir_l (pc' := 62) rfl rfl rfl rfl rfl rfl ?_
        refine ir_tgi (pc' := 65) rfl rfl rfl tf_23_1 b29k hT30 (fun z32 z32e z32l z32h => ?_)
        refine ir_z_eq (pt := 88) (pc' := 68) rfl rfl rfl (fun c33 => ?_) (fun c33 => ?_)
        · refine ir_w [(0, (2, ((1 : Nat) : Int))), (1, (0, x1)), (4, (0, z24)), (5, (2, ((b29 : Nat) : Int)))] ⟨rfl, rfl, rfl, rfl, trivial⟩ ?_
          exact J88 (z24) (by omega) (by omega) b29 b29k (by omega) s30 hT30 hF30 e31
        · refine ir_l (pc' := 70) rfl rfl rfl rfl rfl rfl ?_
          refine ir_tgj (pc' := 73) rfl rfl rfl tf_23_5 b29k hT30 (fun z34 z34e z34l z34h => ?_)
          refine ir_k (pc' := 74) (v := (1, 0)) rfl rfl rfl (fun _ => rfl) ?_
          refine ir_lcmp (pc' := 75) rfl rfl (by omega) (by omega) (by omega) (by omega) (fun z35 z35c => ?_)
          refine ir_z_ne (pt := 88) (pc' := 78) rfl rfl rfl (fun c36 => ?_) (fun c36 => ?_)
          · refine ir_w [(0, (2, ((1 : Nat) : Int))), (1, (0, x1)), (4, (0, z24)), (5, (2, ((b29 : Nat) : Int)))] ⟨rfl, rfl, rfl, rfl, trivial⟩ ?_
            exact J88 (z24) (by omega) (by omega) b29 b29k (by omega) s30 hT30 hF30 e31
          · refine ir_l (pc' := 80) rfl rfl rfl rfl rfl rfl ?_
            refine ir_tgj (pc' := 83) rfl rfl rfl tf_23_4 b29k hT30 (fun z37 z37e z37l z37h => ?_)
            refine ir_k (pc' := 84) (v := (1, 1)) rfl rfl rfl (fun _ => rfl) ?_
            refine ir_jjA (pc' := 85) rfl rfl rfl rfl (fun z38 z38l z38h => ?_)
            refine ir_goto (pc' := 93) rfl rfl ?_
            refine ir_w [(0, (2, ((1 : Nat) : Int))), (1, (0, x1)), (4, (0, z24))] ⟨rfl, rfl, rfl, trivial⟩ ?_
            exact J93 (z24) (by omega) (by omega) (z38) (by omega) (by omega) (by omega) s30 hT30 hF30 e31
    · refine ir_l (pc' := 28) rfl rfl rfl rfl rfl rfl ?_
      refine ir_l (pc' := 29) rfl rfl rfl rfl rfl rfl ?_
      refine ir_k (pc' := 30) (v := (0, 2)) rfl rfl rfl (fun _ => rfl) ?_
      refine ir_divN (pc' := 31) rfl rfl (by omega) (by omega) (by omega) (by omega) ?_
      refine ir_k (pc' := 32) (v := (0, 1)) rfl rfl rfl (fun _ => rfl) ?_
      refine ir_sub (pc' := 33) rfl rfl (by omega) (by omega) ?_
      refine ir_cVR (pc' := 36) rfl rfl rfl rfl rfl (Nat.le_of_ble_eq_true rfl) oo_X4_rootAt (gG_at tsk_1) (sf_rootAt4 L ys (d + 4) s25 hT25 (((x1 / 2) - 1)) (by omega) (by omega) ) (fun b39 s40 hr => ?_)
      obtain ⟨hT40, hG40, b39k⟩ := hr
      have hF40 := fr_trans hF25 hG40 (by decide)
      have e41 : s40.1 1 12 = ((581 : Nat) : Int) := (hG40.1 _ _ tsk_1 12 (by decide)).trans e26
      refine ir_tgj (pc' := 39) rfl rfl rfl tf_23_4 b39k hT40 (fun z42 z42e z42l z42h => ?_)
      refine ir_k (pc' := 40) (v := (1, 1)) rfl rfl rfl (fun _ => rfl) ?_
      refine ir_jjA (pc' := 41) rfl rfl rfl rfl (fun z43 z43l z43h => ?_)
      refine ir_s2 (pc' := 42) rfl rfl rfl rfl rfl rfl ?_
      refine ir_goto (pc' := 94) rfl rfl ?_
      refine ir_w [(0, (2, ((1 : Nat) : Int))), (1, (0, x1)), (2, (1, z43)), (4, (0, z24))] ⟨rfl, rfl, rfl, rfl, trivial⟩ ?_
      exact J94 (z43) (by omega) (by omega) (z24) (by omega) (by omega) s40 hT40 hF40 e41
  · exact ir_vret rfl rfl ⟨rfl, hT0, hF0⟩
theorem sf_fillSigns4 (L : Nat) (ys : Nat → Int32) (d : Nat) (s0 : im_S) (hT0 : tI s0) (x1 : Int) (x1l : 0 ≤ x1) (x1h : x1 ≤ 9) : icV gG rm_P L ys (d + 3) 153 [(2, ((1 : Nat) : Int)), (0, x1)] s0 (fun s => tI s ∧ fr [] s0 s) := by
  refine ic_startM (M := rm_p_X4_fillSigns) om_X4_fillSigns (Nat.le_of_ble_eq_true rfl) ?_
  refine ir_w [(0, (2, ((1 : Nat) : Int))), (1, (0, x1))] ⟨rfl, rfl, trivial⟩ ?_
  have hF0 := fr_refl [] s0
  have J42 : ∀ n : Nat, ∀ (q42_l2 : Int) (q42_l2l : -1 ≤ q42_l2) (q42_l2h : q42_l2 ≤ 1) (q42_l3 : Int) (q42_l3l : -1 ≤ q42_l3) (q42_l3h : q42_l3 ≤ 79) (s_42 : im_S) (hT_42 : tI s_42) (hF_42 : fr [] s0 s_42) (w42_1_0e : s_42.1 1 0 = ((2 : Nat) : Int)) (w42_1_4 : Int) (w42_1_4l : 0 ≤ w42_1_4) (w42_1_4h : w42_1_4 ≤ 80) (w42_1_4e : s_42.1 1 4 = w42_1_4) (w42_1_5e : s_42.1 1 5 = ((578 : Nat) : Int)) (w42_2_9e : s_42.1 2 9 = ((60 : Nat) : Int)), (q42_l3 - -1 + 1) ≤ (n : Int) → ir gG rm_P L ys (d + 2) rm_p_X4_fillSigns (42, [(0, (2, ((1 : Nat) : Int))), (1, (0, x1)), (2, (0, q42_l2)), (3, (0, q42_l3))], [], s_42) (fun r : im_Re => r.1 = none ∧ (tI r.2 ∧ fr [] s0 r.2)) := by
    intro n
    induction n with
    | zero => intro q42_l2 q42_l2l q42_l2h q42_l3 q42_l3l q42_l3h s_42 hT_42 hF_42 w42_1_0e w42_1_4 w42_1_4l w42_1_4h w42_1_4e w42_1_5e w42_2_9e hr; exfalso; omega
    | succ n ih42 =>
      intro q42_l2 q42_l2l q42_l2h q42_l3 q42_l3l q42_l3h s_42 hT_42 hF_42 w42_1_0e w42_1_4 w42_1_4l w42_1_4h w42_1_4e w42_1_5e w42_2_9e hr
      have J104 : ∀ (q104_s0 : Int) (q104_s0l : -1 ≤ q104_s0) (q104_s0h : q104_s0 ≤ 1) (f104_3l : 0 ≤ q42_l3) (s_104 : im_S) (hT_104 : tI s_104) (hF_104 : fr [] s0 s_104) (w104_1_0e : s_104.1 1 0 = ((2 : Nat) : Int)) (w104_1_2e : s_104.1 1 2 = ((84 : Nat) : Int)) (w104_1_4 : Int) (w104_1_4l : 0 ≤ w104_1_4) (w104_1_4h : w104_1_4 ≤ 80) (w104_1_4e : s_104.1 1 4 = w104_1_4) (w104_1_5e : s_104.1 1 5 = ((578 : Nat) : Int)) (w104_2_9e : s_104.1 2 9 = ((60 : Nat) : Int)), ir gG rm_P L ys (d + 2) rm_p_X4_fillSigns (104, [(0, (2, ((1 : Nat) : Int))), (1, (0, x1)), (3, (0, q42_l3))], [(0, q104_s0)], s_104) (fun r : im_Re => r.1 = none ∧ (tI r.2 ∧ fr [] s0 r.2)) := by
        intro q104_s0 q104_s0l q104_s0h f104_3l s_104 hT_104 hF_104 w104_1_0e w104_1_2e w104_1_4 w104_1_4l w104_1_4h w104_1_4e w104_1_5e w104_2_9e
        refine ir_s (pc' := 105) rfl rfl rfl rfl rfl rfl ?_
        refine ir_l (pc' := 106) rfl rfl rfl rfl rfl rfl ?_
        refine ir_getR (pc' := 109) rfl rfl rfl (gG_at tsk_1) rfl w104_1_5e ?_
        refine ir_k (pc' := 110) (v := (0, 2)) rfl rfl rfl (fun _ => rfl) ?_
        refine ir_l (pc' := 111) rfl rfl rfl rfl rfl rfl ?_
        refine ir_mul (pc' := 112) rfl rfl (by omega) (by omega) ?_
        refine ir_k (pc' := 114) (v := (0, 10)) rfl rfl rfl (fun _ => rfl) ?_
        refine ir_mul (pc' := 115) rfl rfl (by omega) (by omega) ?_
        refine ir_l (pc' := 116) rfl rfl rfl rfl rfl rfl ?_
        refine ir_add (pc' := 117) rfl rfl (by omega) (by omega) ?_
        refine ir_l (pc' := 118) rfl rfl rfl rfl rfl rfl ?_
        refine ir_i2bE (pc' := 119) rfl rfl (by omega) (by omega) ?_
        refine ir_tbs (pc' := 120) rfl rfl te_28 (by decide) tsk_28 hT_104 (by omega) (by omega) (im_fit_of (lo := -128) (hi := 127) (by decide) (by omega) (by omega)) (by omega) (by omega) (fun s1 hT1 r1 o1 => ?_)
        have hF1 := fr_row hF_104 r1 o1
        have e2 : s1.1 1 0 = ((2 : Nat) : Int) := by rw [r1]; exact w104_1_0e
        have e3 : s1.1 2 9 = ((60 : Nat) : Int) := by rw [r1]; exact w104_2_9e
        have e4 : s1.1 1 5 = ((578 : Nat) : Int) := by rw [r1]; exact w104_1_5e
        have e5 : s1.1 1 4 = w104_1_4 := by rw [r1]; exact w104_1_4e
        have e6 : s1.1 1 2 = ((84 : Nat) : Int) := by rw [r1]; exact w104_1_2e
        refine ir_inc (pc' := 123) rfl rfl rfl rfl rfl (by omega) (by omega) ?_
        refine ir_goto (pc' := 42) rfl rfl ?_
        refine ir_w [(0, (2, ((1 : Nat) : Int))), (1, (0, x1)), (2, (0, q104_s0)), (3, (0, (q42_l3 + (-1))))] ⟨rfl, rfl, rfl, rfl, trivial⟩ ?_
        exact ih42 (q104_s0) (by omega) (by omega) ((q42_l3 + (-1))) (by omega) (by omega) s1 hT1 hF1 e2 (w104_1_4) (by omega) (by omega) e5 e4 e3 (by omega)
      have J88 : ∀ (q88_l4 : Int) (q88_l4l : -2147483648 ≤ q88_l4) (q88_l4h : q88_l4 ≤ 2147483647) (q88_s1 : Int) (q88_s1l : 10 ≤ q88_s1) (q88_s1h : q88_s1 ≤ 1599) (q88_s2 : Int) (q88_s2l : -1 ≤ q88_s2) (q88_s2h : q88_s2 ≤ 1) (f88_3l : 0 ≤ q42_l3) (s_88 : im_S) (hT_88 : tI s_88) (hF_88 : fr [] s0 s_88) (w88_1_0e : s_88.1 1 0 = ((2 : Nat) : Int)) (w88_1_2e : s_88.1 1 2 = ((84 : Nat) : Int)) (w88_1_4 : Int) (w88_1_4l : 0 ≤ w88_1_4) (w88_1_4h : w88_1_4 ≤ 80) (w88_1_4e : s_88.1 1 4 = w88_1_4) (w88_1_5e : s_88.1 1 5 = ((578 : Nat) : Int)) (w88_2_9e : s_88.1 2 9 = ((60 : Nat) : Int)), ir gG rm_P L ys (d + 2) rm_p_X4_fillSigns (88, [(0, (2, ((1 : Nat) : Int))), (1, (0, x1)), (2, (0, q42_l2)), (3, (0, q42_l3)), (4, (0, q88_l4))], [(0, q88_s2), (0, q88_s1), (2, ((578 : Nat) : Int))], s_88) (fun r : im_Re => r.1 = none ∧ (tI r.2 ∧ fr [] s0 r.2)) := by
        intro q88_l4 q88_l4l q88_l4h q88_s1 q88_s1l q88_s1h q88_s2 q88_s2l q88_s2h f88_3l s_88 hT_88 hF_88 w88_1_0e w88_1_2e w88_1_4 w88_1_4l w88_1_4h w88_1_4e w88_1_5e w88_2_9e
        refine ir_i2bE (pc' := 89) rfl rfl (by omega) (by omega) ?_
        refine ir_tbs (pc' := 90) rfl rfl te_28 (by decide) tsk_28 hT_88 (by omega) (by omega) (im_fit_of (lo := -128) (hi := 127) (by decide) (by omega) (by omega)) (by omega) (by omega) (fun s7 hT7 r7 o7 => ?_)
        have hF7 := fr_row hF_88 r7 o7
        have e8 : s7.1 1 0 = ((2 : Nat) : Int) := by rw [r7]; exact w88_1_0e
        have e9 : s7.1 2 9 = ((60 : Nat) : Int) := by rw [r7]; exact w88_2_9e
        have e10 : s7.1 1 5 = ((578 : Nat) : Int) := by rw [r7]; exact w88_1_5e
        have e11 : s7.1 1 4 = w88_1_4 := by rw [r7]; exact w88_1_4e
        have e12 : s7.1 1 2 = ((84 : Nat) : Int) := by rw [r7]; exact w88_1_2e
        refine ir_l (pc' := 92) rfl rfl rfl rfl rfl rfl ?_
        refine ir_k (pc' := 93) (v := (0, 2)) rfl rfl rfl (fun _ => rfl) ?_
        refine ir_remA (pc' := 94) rfl rfl (by omega) (by omega) (by omega) (by omega) (fun z13 z13l z13h => ?_)
        refine ir_k (pc' := 95) (v := (0, 1)) rfl rfl rfl (fun _ => rfl) ?_
        refine ir_c_ne (pt := 103) (pc' := 98) rfl rfl rfl (fun c14 => ?_) (fun c14 => ?_)
        · refine ir_l (pc' := 104) rfl rfl rfl rfl rfl rfl ?_
          refine ir_w [(0, (2, ((1 : Nat) : Int))), (1, (0, x1)), (3, (0, q42_l3))] ⟨rfl, rfl, rfl, trivial⟩ ?_
          exact J104 (q42_l2) (by omega) (by omega) (by omega) s7 hT7 hF7 e8 e12 (w88_1_4) (by omega) (by omega) e11 e10 e9
        · refine ir_l (pc' := 99) rfl rfl rfl rfl rfl rfl ?_
          refine ir_ineg (pc' := 100) rfl rfl (by omega) (by omega) ?_
          refine ir_goto (pc' := 104) rfl rfl ?_
          refine ir_w [(0, (2, ((1 : Nat) : Int))), (1, (0, x1)), (3, (0, q42_l3))] ⟨rfl, rfl, rfl, trivial⟩ ?_
          exact J104 ((-q42_l2)) (by omega) (by omega) (by omega) s7 hT7 hF7 e8 e12 (w88_1_4) (by omega) (by omega) e11 e10 e9
      refine ir_l (pc' := 43) rfl rfl rfl rfl rfl rfl ?_
      refine ir_z_lt (pt := 126) (pc' := 46) rfl rfl rfl (fun c15 => ?_) (fun c15 => ?_)
      · exact ir_vret rfl rfl ⟨rfl, hT_42, hF_42⟩
      · refine ir_l (pc' := 47) rfl rfl rfl rfl rfl rfl ?_
        refine ir_tgr (pc' := 50) rfl rfl rfl tf_1_2 tsk_1 hT_42 (fun b16 b16e b16k => ?_)
        obtain rfl := tsg_11 b16k
        refine ir_l (pc' := 51) rfl rfl rfl rfl rfl rfl ?_
        refine ir_l (pc' := 52) rfl rfl rfl rfl rfl rfl ?_
        refine ir_cVR (pc' := 55) rfl rfl rfl rfl rfl (Nat.le_of_ble_eq_true rfl) oo_X4_rootAt (gG_at tsk_1) (sf_rootAt4 L ys d s_42 hT_42 (q42_l3) (by omega) (by omega) ) (fun b17 s18 hr => ?_)
        obtain ⟨hT18, hG18, b17k⟩ := hr
        have hF18 := fr_trans hF_42 hG18 (by decide)
        have e19 : s18.1 1 0 = ((2 : Nat) : Int) := (hG18.1 _ _ tsk_1 0 (by decide)).trans w42_1_0e
        have e20 : s18.1 2 9 = ((60 : Nat) : Int) := (hG18.1 _ _ tsk_2 9 (by decide)).trans w42_2_9e
        have e21 : s18.1 1 5 = ((578 : Nat) : Int) := (hG18.1 _ _ tsk_1 5 (by decide)).trans w42_1_5e
        have e22 : s18.1 1 4 = w42_1_4 := (hG18.1 _ _ tsk_1 4 (by decide)).trans w42_1_4e
        have e23 : s18.1 1 2 = ((84 : Nat) : Int) := (hG18.1 _ _ tsk_1 2 (by decide)).trans b16e
        refine ir_tgi (pc' := 58) rfl rfl rfl tf_23_0 b17k hT18 (fun z24 z24e z24l z24h => ?_)
        refine ir_l (pc' := 59) rfl rfl rfl rfl rfl rfl ?_
        refine ir_cVI (pc' := 62) rfl rfl rfl rfl rfl (Nat.le_of_ble_eq_true rfl) oo_X0_multiplicity (gG_at tsk_11) (sf_multiplicity0 L ys (d + 1) s18 hT18 (z24) (by omega) (by omega) (x1) (by omega) (by omega) ) (fun z25 s26 hr => ?_)
        obtain ⟨hT26, hG26, z25l, z25h⟩ := hr
        have hF26 := fr_trans hF18 hG26 (by decide)
        have e27 : s26.1 1 0 = ((2 : Nat) : Int) := (hG26.1 _ _ tsk_1 0 (by decide)).trans e19
        have e28 : s26.1 2 9 = ((60 : Nat) : Int) := (hG26.1 _ _ tsk_2 9 (by decide)).trans e20
        have e29 : s26.1 1 5 = ((578 : Nat) : Int) := (hG26.1 _ _ tsk_1 5 (by decide)).trans e21
        have e30 : s26.1 1 4 = w42_1_4 := (hG26.1 _ _ tsk_1 4 (by decide)).trans e22
        have e31 : s26.1 1 2 = ((84 : Nat) : Int) := (hG26.1 _ _ tsk_1 2 (by decide)).trans e23
        have e32 : s26.1 b17 0 = z24 := (hG26.1 _ _ b17k 0 (by decide)).trans z24e
        refine ir_s (pc' := 64) rfl rfl rfl rfl rfl rfl ?_
        refine ir_l (pc' := 65) rfl rfl rfl rfl rfl rfl ?_
        refine ir_getR (pc' := 68) rfl rfl rfl (gG_at tsk_1) rfl e29 ?_
        refine ir_k (pc' := 69) (v := (0, 2)) rfl rfl rfl (fun _ => rfl) ?_
        refine ir_l (pc' := 70) rfl rfl rfl rfl rfl rfl ?_
        refine ir_mul (pc' := 71) rfl rfl (by omega) (by omega) ?_
        refine ir_k (pc' := 72) (v := (0, 1)) rfl rfl rfl (fun _ => rfl) ?_
        refine ir_add (pc' := 73) rfl rfl (by omega) (by omega) ?_
        refine ir_k (pc' := 75) (v := (0, 10)) rfl rfl rfl (fun _ => rfl) ?_
        refine ir_mul (pc' := 76) rfl rfl (by omega) (by omega) ?_
        refine ir_l (pc' := 77) rfl rfl rfl rfl rfl rfl ?_
        refine ir_add (pc' := 78) rfl rfl (by omega) (by omega) ?_
        refine ir_l (pc' := 80) rfl rfl rfl rfl rfl rfl ?_
        refine ir_z_le (pt := 87) (pc' := 83) rfl rfl rfl (fun c33 => ?_) (fun c33 => ?_)
        · refine ir_l (pc' := 88) rfl rfl rfl rfl rfl rfl ?_
          refine ir_w [(0, (2, ((1 : Nat) : Int))), (1, (0, x1)), (2, (0, q42_l2)), (3, (0, q42_l3)), (4, (0, z25))] ⟨rfl, rfl, rfl, rfl, rfl, trivial⟩ ?_
          exact J88 (z25) (by omega) (by omega) (((((2 * q42_l3) + 1) * 10) + x1)) (by omega) (by omega) (q42_l2) (by omega) (by omega) (by omega) s26 hT26 hF26 e27 e31 (w42_1_4) (by omega) (by omega) e30 e29 e28
        · refine ir_k (pc' := 84) (v := (0, 0)) rfl rfl rfl (fun _ => rfl) ?_
          refine ir_goto (pc' := 88) rfl rfl ?_
          refine ir_w [(0, (2, ((1 : Nat) : Int))), (1, (0, x1)), (2, (0, q42_l2)), (3, (0, q42_l3)), (4, (0, z25))] ⟨rfl, rfl, rfl, rfl, rfl, trivial⟩ ?_
          exact J88 (z25) (by omega) (by omega) (((((2 * q42_l3) + 1) * 10) + x1)) (by omega) (by omega) (0) (by omega) (by omega) (by omega) s26 hT26 hF26 e27 e31 (w42_1_4) (by omega) (by omega) e30 e29 e28
  refine ir_l (pc' := 1) rfl rfl rfl rfl rfl rfl ?_
  refine ir_tgr (pc' := 4) rfl rfl rfl tf_1_0 tsk_1 hT0 (fun b34 b34e b34k => ?_)
  obtain rfl := tsg_2 b34k
  refine ir_tgr (pc' := 7) rfl rfl rfl tf_2_9 tsk_2 hT0 (fun b35 b35e b35k => ?_)
  obtain rfl := tsg_7 b35k
  refine ir_l (pc' := 8) rfl rfl rfl rfl rfl rfl ?_
  refine ir_taa (pc' := 9) (k2 := 4) rfl rfl te_7 (by decide) tsk_7 hT0 (by omega) (by omega) (fun b36 b36k => ?_)
  refine ir_cVI (pc' := 12) rfl rfl rfl rfl rfl (Nat.le_of_ble_eq_true rfl) oo_X6_lead (gG_at b36k) (sf_lead6 L ys (d + 1) s0 hT0 b36 b36k ) (fun z37 s38 hr => ?_)
  obtain ⟨hT38, hG38, z37l, z37h, p38_0⟩ := hr
  have hF38 := fr_trans hF0 hG38 (by decide)
  have e39 : s38.1 1 0 = ((2 : Nat) : Int) := (hG38.1 _ _ tsk_1 0 (by decide)).trans b34e
  have e40 : s38.1 2 9 = ((60 : Nat) : Int) := (hG38.1 _ _ tsk_2 9 (by decide)).trans b35e
  refine ir_k (pc' := 13) (v := (1, 0)) rfl rfl rfl (fun _ => rfl) ?_
  refine ir_cSI (pc' := 16) rfl rfl rfl rfl rfl rfl (Nat.le_of_ble_eq_true rfl) (sf_cmpJ L ys (d + 1) s38 (z37) (by omega) (by omega) (0) (by omega) (by omega)) (fun z41 s42 hr => ?_)
  obtain ⟨rfl, z41p0, z41p1⟩ := hr
  refine ir_s (pc' := 17) rfl rfl rfl rfl rfl rfl ?_
  refine ir_l (pc' := 18) rfl rfl rfl rfl rfl rfl ?_
  refine ir_tgr (pc' := 21) rfl rfl rfl tf_1_5 tsk_1 hT38 (fun b43 b43e b43k => ?_)
  obtain rfl := tsg_28 b43k
  refine ir_k (pc' := 22) (v := (0, 2)) rfl rfl rfl (fun _ => rfl) ?_
  refine ir_l (pc' := 23) rfl rfl rfl rfl rfl rfl ?_
  refine ir_tgi (pc' := 26) rfl rfl rfl tf_1_4 tsk_1 hT38 (fun z44 z44e z44l z44h => ?_)
  refine ir_mul (pc' := 27) rfl rfl (by omega) (by omega) ?_
  refine ir_k (pc' := 29) (v := (0, 10)) rfl rfl rfl (fun _ => rfl) ?_
  refine ir_mul (pc' := 30) rfl rfl (by omega) (by omega) ?_
  refine ir_l (pc' := 31) rfl rfl rfl rfl rfl rfl ?_
  refine ir_add (pc' := 32) rfl rfl (by omega) (by omega) ?_
  refine ir_l (pc' := 33) rfl rfl rfl rfl rfl rfl ?_
  refine ir_i2bE (pc' := 34) rfl rfl (by omega) (by omega) ?_
  refine ir_tbs (pc' := 35) rfl rfl te_28 (by decide) tsk_28 hT38 (by omega) (by omega) (im_fit_of (lo := -128) (hi := 127) (by decide) (by omega) (by omega)) (by omega) (by omega) (fun s45 hT45 r45 o45 => ?_)
  have hF45 := fr_row hF38 r45 o45
  have e46 : s45.1 1 0 = ((2 : Nat) : Int) := by rw [r45]; exact e39
  have e47 : s45.1 2 9 = ((60 : Nat) : Int) := by rw [r45]; exact e40
  have e48 : s45.1 1 5 = ((578 : Nat) : Int) := by rw [r45]; exact b43e
  have e49 : s45.1 1 4 = z44 := by rw [r45]; exact z44e
  refine ir_l (pc' := 36) rfl rfl rfl rfl rfl rfl ?_
  refine ir_getI (pc' := 39) rfl rfl rfl (gG_at tsk_1) rfl (by decide) (by decide) e49 (by omega) (by omega) ?_
  refine ir_k (pc' := 40) (v := (0, 1)) rfl rfl rfl (fun _ => rfl) ?_
  refine ir_sub (pc' := 41) rfl rfl (by omega) (by omega) ?_
  refine ir_s (pc' := 42) rfl rfl rfl rfl rfl rfl ?_
  refine ir_w [(0, (2, ((1 : Nat) : Int))), (1, (0, x1)), (2, (0, z41)), (3, (0, (z44 - 1)))] ⟨rfl, rfl, rfl, rfl, trivial⟩ ?_
  exact J42 _ (z41) (by omega) (by omega) ((z44 - 1)) (by omega) (by omega) s45 hT45 hF45 e46 (z44) (by omega) (by omega) e49 e48 e47 (Int.self_le_toNat _)
theorem sf_trueAtoms4 (L : Nat) (ys : Nat → Int32) (d : Nat) (s0 : im_S) (hT0 : tI s0) (x1 : Int) (x1l : 0 ≤ x1) (x1h : x1 ≤ 160) : icI gG rm_P L ys 0 (d + 1) 159 [(2, ((1 : Nat) : Int)), (0, x1)] s0 (fun z s => tI s ∧ fr [] s0 s ∧ -2147483648 ≤ z ∧ z ≤ 2147483647) := by
  refine ic_startM (M := rm_p_X4_trueAtoms) om_X4_trueAtoms (Nat.le_of_ble_eq_true rfl) ?_
  refine ir_w [(0, (2, ((1 : Nat) : Int))), (1, (0, x1))] ⟨rfl, rfl, trivial⟩ ?_
  have hF0 := fr_refl [] s0
  have J4 : ∀ n : Nat, ∀ (q4_l2 : Int) (q4_l2l : -2147483648 ≤ q4_l2) (q4_l2h : q4_l2 ≤ 2147483647) (q4_l3 : Int) (q4_l3l : 0 ≤ q4_l3) (q4_l3h : q4_l3 ≤ 10) (s_4 : im_S) (hT_4 : tI s_4) (hF_4 : fr [] s0 s_4), (10 + 1 - q4_l3) ≤ (n : Int) → ir gG rm_P L ys d rm_p_X4_trueAtoms (4, [(0, (2, ((1 : Nat) : Int))), (1, (0, x1)), (2, (0, q4_l2)), (3, (0, q4_l3))], [], s_4) (fun r : im_Re => ∃ z, r.1 = some (0, z) ∧ (tI r.2 ∧ fr [] s0 r.2 ∧ -2147483648 ≤ z ∧ z ≤ 2147483647)) := by
    intro n
    induction n with
    | zero => intro q4_l2 q4_l2l q4_l2h q4_l3 q4_l3l q4_l3h s_4 hT_4 hF_4 hr; exfalso; omega
    | succ n ih4 =>
      intro q4_l2 q4_l2l q4_l2h q4_l3 q4_l3l q4_l3h s_4 hT_4 hF_4 hr
      have J79 : ∀ (q79_s0 : Int) (q79_s0l : -2147483648 ≤ q79_s0) (q79_s0h : q79_s0 ≤ 2147483647) (q79_s1 : Int) (q79_s1l : -2147483648 ≤ q79_s1) (q79_s1h : q79_s1 ≤ 2147483647) (f79_3h : q4_l3 ≤ 9) (s_79 : im_S) (hT_79 : tI s_79) (hF_79 : fr [] s0 s_79) (w79_1_0e : s_79.1 1 0 = ((2 : Nat) : Int)) (w79_1_5e : s_79.1 1 5 = ((578 : Nat) : Int)) (w79_2_10e : s_79.1 2 10 = ((81 : Nat) : Int)) (w79_2_11 : Int) (w79_2_11l : 1 ≤ w79_2_11) (w79_2_11h : w79_2_11 ≤ 10) (w79_2_11e : s_79.1 2 11 = w79_2_11), ir gG rm_P L ys d rm_p_X4_trueAtoms (79, [(0, (2, ((1 : Nat) : Int))), (1, (0, x1)), (3, (0, q4_l3))], [(0, q79_s1), (0, q79_s0)], s_79) (fun r : im_Re => ∃ z, r.1 = some (0, z) ∧ (tI r.2 ∧ fr [] s0 r.2 ∧ -2147483648 ≤ z ∧ z ≤ 2147483647)) := by
        intro q79_s0 q79_s0l q79_s0h q79_s1 q79_s1l q79_s1h f79_3h s_79 hT_79 hF_79 w79_1_0e w79_1_5e w79_2_10e w79_2_11 w79_2_11l w79_2_11h w79_2_11e
        refine ir_iiA (pc' := 80) rfl rfl rfl rfl (fun z1 z1l z1h => ?_)
        refine ir_s (pc' := 81) rfl rfl rfl rfl rfl rfl ?_
        refine ir_inc (pc' := 84) rfl rfl rfl rfl rfl (by omega) (by omega) ?_
        refine ir_goto (pc' := 4) rfl rfl ?_
        refine ir_w [(0, (2, ((1 : Nat) : Int))), (1, (0, x1)), (2, (0, z1)), (3, (0, (q4_l3 + 1)))] ⟨rfl, rfl, rfl, rfl, trivial⟩ ?_
        exact ih4 (z1) (by omega) (by omega) ((q4_l3 + 1)) (by omega) (by omega) s_79 hT_79 hF_79 (by omega)
      have J62 : ∀ (q62_l4 : Int) (q62_l4l : -128 ≤ q62_l4) (q62_l4h : q62_l4 ≤ 127) (q62_s0 : Int) (q62_s0l : -1 ≤ q62_s0) (q62_s0h : q62_s0 ≤ 1) (f62_3h : q4_l3 ≤ 9) (s_62 : im_S) (hT_62 : tI s_62) (hF_62 : fr [] s0 s_62) (w62_1_0e : s_62.1 1 0 = ((2 : Nat) : Int)) (w62_1_5e : s_62.1 1 5 = ((578 : Nat) : Int)) (w62_2_10e : s_62.1 2 10 = ((81 : Nat) : Int)) (w62_2_11 : Int) (w62_2_11l : 1 ≤ w62_2_11) (w62_2_11h : w62_2_11 ≤ 10) (w62_2_11e : s_62.1 2 11 = w62_2_11), ir gG rm_P L ys d rm_p_X4_trueAtoms (62, [(0, (2, ((1 : Nat) : Int))), (1, (0, x1)), (2, (0, q4_l2)), (3, (0, q4_l3)), (4, (0, q62_l4))], [(0, q62_s0)], s_62) (fun r : im_Re => ∃ z, r.1 = some (0, z) ∧ (tI r.2 ∧ fr [] s0 r.2 ∧ -2147483648 ≤ z ∧ z ≤ 2147483647)) := by
        intro q62_l4 q62_l4l q62_l4h q62_s0 q62_s0l q62_s0h f62_3h s_62 hT_62 hF_62 w62_1_0e w62_1_5e w62_2_10e w62_2_11 w62_2_11l w62_2_11h w62_2_11e
        refine ir_s (pc' := 64) rfl rfl rfl rfl rfl rfl ?_
        refine ir_l (pc' := 65) rfl rfl rfl rfl rfl rfl ?_
        refine ir_l (pc' := 67) rfl rfl rfl rfl rfl rfl ?_
        refine ir_l (pc' := 69) rfl rfl rfl rfl rfl rfl ?_
        refine ir_c_ne (pt := 78) (pc' := 72) rfl rfl rfl (fun c2 => ?_) (fun c2 => ?_)
        · refine ir_k (pc' := 79) (v := (0, 0)) rfl rfl rfl (fun _ => rfl) ?_
          refine ir_w [(0, (2, ((1 : Nat) : Int))), (1, (0, x1)), (3, (0, q4_l3))] ⟨rfl, rfl, rfl, trivial⟩ ?_
          exact J79 (q4_l2) (by omega) (by omega) (0) (by omega) (by omega) (by omega) s_62 hT_62 hF_62 w62_1_0e w62_1_5e w62_2_10e (w62_2_11) (by omega) (by omega) w62_2_11e
        · refine ir_k (pc' := 73) (v := (0, 1)) rfl rfl rfl (fun _ => rfl) ?_
          refine ir_l (pc' := 74) rfl rfl rfl rfl rfl rfl ?_
          refine ir_iiA (pc' := 75) rfl rfl rfl rfl (fun z3 z3l z3h => ?_)
          refine ir_goto (pc' := 79) rfl rfl ?_
          refine ir_w [(0, (2, ((1 : Nat) : Int))), (1, (0, x1)), (3, (0, q4_l3))] ⟨rfl, rfl, rfl, trivial⟩ ?_
          exact J79 (q4_l2) (by omega) (by omega) (z3) (by omega) (by omega) (by omega) s_62 hT_62 hF_62 w62_1_0e w62_1_5e w62_2_10e (w62_2_11) (by omega) (by omega) w62_2_11e
      refine ir_l (pc' := 5) rfl rfl rfl rfl rfl rfl ?_
      refine ir_l (pc' := 6) rfl rfl rfl rfl rfl rfl ?_
      refine ir_tgr (pc' := 9) rfl rfl rfl tf_1_0 tsk_1 hT_4 (fun b4 b4e b4k => ?_)
      obtain rfl := tsg_2 b4k
      refine ir_tgi (pc' := 12) rfl rfl rfl tf_2_11 tsk_2 hT_4 (fun z5 z5e z5l z5h => ?_)
      refine ir_c_ge (pt := 87) (pc' := 15) rfl rfl rfl (fun c6 => ?_) (fun c6 => ?_)
      · refine ir_l (pc' := 88) rfl rfl rfl rfl rfl rfl ?_
        exact ir_iret rfl rfl ⟨_, rfl, hT_4, hF_4, by omega, by omega⟩
      · refine ir_l (pc' := 16) rfl rfl rfl rfl rfl rfl ?_
        refine ir_tgr (pc' := 19) rfl rfl rfl tf_1_5 tsk_1 hT_4 (fun b7 b7e b7k => ?_)
        obtain rfl := tsg_28 b7k
        refine ir_l (pc' := 20) rfl rfl rfl rfl rfl rfl ?_
        refine ir_k (pc' := 22) (v := (0, 10)) rfl rfl rfl (fun _ => rfl) ?_
        refine ir_mul (pc' := 23) rfl rfl (by omega) (by omega) ?_
        refine ir_l (pc' := 24) rfl rfl rfl rfl rfl rfl ?_
        refine ir_add (pc' := 25) rfl rfl (by omega) (by omega) ?_
        refine ir_tba (pc' := 26) rfl rfl te_28 (by decide) (by decide) tsk_28 hT_4 (by omega) (by omega) (fun z8 z8e z8l z8h => ?_)
        clear z8e
        refine ir_s (pc' := 28) rfl rfl rfl rfl rfl rfl ?_
        refine ir_l (pc' := 29) rfl rfl rfl rfl rfl rfl ?_
        refine ir_getR (pc' := 32) rfl rfl rfl (gG_at tsk_1) rfl b4e ?_
        refine ir_tgr (pc' := 35) rfl rfl rfl tf_2_10 tsk_2 hT_4 (fun b9 b9e b9k => ?_)
        obtain rfl := tsg_8 b9k
        refine ir_l (pc' := 36) rfl rfl rfl rfl rfl rfl ?_
        refine ir_tia (pc' := 37) rfl rfl te_8 (by decide) tsk_8 hT_4 (by omega) (by omega) (fun z10 z10e z10l z10h => ?_)
        clear z10e
        refine ir_z_ne (pt := 44) (pc' := 40) rfl rfl rfl (fun c11 => ?_) (fun c11 => ?_)
        · refine ir_l (pc' := 45) rfl rfl rfl rfl rfl rfl ?_
          refine ir_getR (pc' := 48) rfl rfl rfl (gG_at tsk_1) rfl b4e ?_
          refine ir_getR (pc' := 51) rfl rfl rfl (gG_at tsk_2) rfl b9e ?_
          refine ir_l (pc' := 52) rfl rfl rfl rfl rfl rfl ?_
          refine ir_tia (pc' := 53) rfl rfl te_8 (by decide) tsk_8 hT_4 (by omega) (by omega) (fun z12 z12e z12l z12h => ?_)
          clear z12e
          refine ir_k (pc' := 54) (v := (0, 1)) rfl rfl rfl (fun _ => rfl) ?_
          refine ir_c_ne (pt := 61) (pc' := 57) rfl rfl rfl (fun c13 => ?_) (fun c13 => ?_)
          · refine ir_k (pc' := 62) (v := (0, 1)) rfl rfl rfl (fun _ => rfl) ?_
            refine ir_w [(0, (2, ((1 : Nat) : Int))), (1, (0, x1)), (2, (0, q4_l2)), (3, (0, q4_l3)), (4, (0, z8))] ⟨rfl, rfl, rfl, rfl, rfl, trivial⟩ ?_
            exact J62 (z8) (by omega) (by omega) (1) (by omega) (by omega) (by omega) s_4 hT_4 hF_4 b4e b7e b9e (z5) (by omega) (by omega) z5e
          · refine ir_k (pc' := 58) (v := (0, (-1))) rfl rfl rfl (fun _ => rfl) ?_
            refine ir_goto (pc' := 62) rfl rfl ?_
            refine ir_w [(0, (2, ((1 : Nat) : Int))), (1, (0, x1)), (2, (0, q4_l2)), (3, (0, q4_l3)), (4, (0, z8))] ⟨rfl, rfl, rfl, rfl, rfl, trivial⟩ ?_
            exact J62 (z8) (by omega) (by omega) ((-1)) (by omega) (by omega) (by omega) s_4 hT_4 hF_4 b4e b7e b9e (z5) (by omega) (by omega) z5e
        · refine ir_k (pc' := 41) (v := (0, 0)) rfl rfl rfl (fun _ => rfl) ?_
          refine ir_goto (pc' := 62) rfl rfl ?_
          refine ir_w [(0, (2, ((1 : Nat) : Int))), (1, (0, x1)), (2, (0, q4_l2)), (3, (0, q4_l3)), (4, (0, z8))] ⟨rfl, rfl, rfl, rfl, rfl, trivial⟩ ?_
          exact J62 (z8) (by omega) (by omega) (0) (by omega) (by omega) (by omega) s_4 hT_4 hF_4 b4e b7e b9e (z5) (by omega) (by omega) z5e
  refine ir_k (pc' := 1) (v := (0, 0)) rfl rfl rfl (fun _ => rfl) ?_
  refine ir_s (pc' := 2) rfl rfl rfl rfl rfl rfl ?_
  refine ir_k (pc' := 3) (v := (0, 0)) rfl rfl rfl (fun _ => rfl) ?_
  refine ir_s (pc' := 4) rfl rfl rfl rfl rfl rfl ?_
  refine ir_w [(0, (2, ((1 : Nat) : Int))), (1, (0, x1)), (2, (0, 0)), (3, (0, 0))] ⟨rfl, rfl, rfl, rfl, trivial⟩ ?_
  exact J4 _ (0) (by omega) (by omega) (0) (by omega) (by omega) s0 hT0 hF0 (Int.self_le_toNat _)
theorem sf_fulfilledBy7 (L : Nat) (ys : Nat → Int32) (d : Nat) (s0 : im_S) (hT0 : tI s0) (x1 : Int) (x1l : -2147483648 ≤ x1) (x1h : x1 ≤ 2147483647) : icI gG rm_P L ys 0 (d + 1) 184 [(2, ((2 : Nat) : Int)), (0, x1)] s0 (fun z s => tI s ∧ fr [] s0 s ∧ 0 ≤ z ∧ z ≤ 1) := by
  refine ic_startM (M := rm_p_X7_fulfilledBy) om_X7_fulfilledBy (Nat.le_of_ble_eq_true rfl) ?_
  refine ir_w [(0, (2, ((2 : Nat) : Int))), (1, (0, x1))] ⟨rfl, rfl, trivial⟩ ?_
  have hF0 := fr_refl [] s0
  have J111 : ∀ (q111_s0 : Int) (q111_s0l : 0 ≤ q111_s0) (q111_s0h : q111_s0 ≤ 1) (s_111 : im_S) (hT_111 : tI s_111) (hF_111 : fr [] s0 s_111) (w111_2_13 : Int) (w111_2_13l : 0 ≤ w111_2_13) (w111_2_13h : w111_2_13 ≤ 160) (w111_2_13e : s_111.1 2 13 = w111_2_13), ir gG rm_P L ys d rm_p_X7_fulfilledBy (111, [], [(0, q111_s0)], s_111) (fun r : im_Re => ∃ z, r.1 = some (0, z) ∧ (tI r.2 ∧ fr [] s0 r.2 ∧ 0 ≤ z ∧ z ≤ 1)) := by
    intro q111_s0 q111_s0l q111_s0h s_111 hT_111 hF_111 w111_2_13 w111_2_13l w111_2_13h w111_2_13e
    exact ir_zret rfl rfl (by omega) ⟨_, rfl, hT_111, hF_111, by omega, by omega⟩
  have J5 : ∀ n : Nat, ∀ (q5_l2 : Int) (q5_l2l : -9223372036854775808 ≤ q5_l2) (q5_l2h : q5_l2 ≤ 9223372036854775807) (q5_l4 : Int) (q5_l4l : 0 ≤ q5_l4) (q5_l4h : q5_l4 ≤ 160) (s_5 : im_S) (hT_5 : tI s_5) (hF_5 : fr [] s0 s_5), (160 + 1 - q5_l4) ≤ (n : Int) → ir gG rm_P L ys d rm_p_X7_fulfilledBy (5, [(0, (2, ((2 : Nat) : Int))), (1, (0, x1)), (2, (1, q5_l2)), (4, (0, q5_l4))], [], s_5) (fun r : im_Re => ∃ z, r.1 = some (0, z) ∧ (tI r.2 ∧ fr [] s0 r.2 ∧ 0 ≤ z ∧ z ≤ 1)) := by
    intro n
    induction n with
    | zero => intro q5_l2 q5_l2l q5_l2h q5_l4 q5_l4l q5_l4h s_5 hT_5 hF_5 hr; exfalso; omega
    | succ n ih5 =>
      intro q5_l2 q5_l2l q5_l2h q5_l4 q5_l4l q5_l4h s_5 hT_5 hF_5 hr
      have J92 : ∀ (q92_l2 : Int) (q92_l2l : -9223372036854775808 ≤ q92_l2) (q92_l2h : q92_l2 ≤ 9223372036854775807) (f92_4h : q5_l4 ≤ 159) (s_92 : im_S) (hT_92 : tI s_92) (hF_92 : fr [] s0 s_92) (w92_2_12e : s_92.1 2 12 = ((82 : Nat) : Int)) (w92_2_13 : Int) (w92_2_13l : 1 ≤ w92_2_13) (w92_2_13h : w92_2_13 ≤ 160) (w92_2_13e : s_92.1 2 13 = w92_2_13), ir gG rm_P L ys d rm_p_X7_fulfilledBy (92, [(0, (2, ((2 : Nat) : Int))), (1, (0, x1)), (2, (1, q92_l2)), (4, (0, q5_l4))], [], s_92) (fun r : im_Re => ∃ z, r.1 = some (0, z) ∧ (tI r.2 ∧ fr [] s0 r.2 ∧ 0 ≤ z ∧ z ≤ 1)) := by
        intro q92_l2 q92_l2l q92_l2h f92_4h s_92 hT_92 hF_92 w92_2_12e w92_2_13 w92_2_13l w92_2_13h w92_2_13e
        refine ir_inc (pc' := 95) rfl rfl rfl rfl rfl (by omega) (by omega) ?_
        refine ir_goto (pc' := 5) rfl rfl ?_
        refine ir_w [(0, (2, ((2 : Nat) : Int))), (1, (0, x1)), (2, (1, q92_l2)), (4, (0, (q5_l4 + 1)))] ⟨rfl, rfl, rfl, rfl, trivial⟩ ?_
        exact ih5 (q92_l2) (by omega) (by omega) ((q5_l4 + 1)) (by omega) (by omega) s_92 hT_92 hF_92 (by omega)
      refine ir_l (pc' := 7) rfl rfl rfl rfl rfl rfl ?_
      refine ir_l (pc' := 8) rfl rfl rfl rfl rfl rfl ?_
      refine ir_tgi (pc' := 11) rfl rfl rfl tf_2_13 tsk_2 hT_5 (fun z1 z1e z1l z1h => ?_)
      refine ir_c_ge (pt := 98) (pc' := 14) rfl rfl rfl (fun c2 => ?_) (fun c2 => ?_)
      · refine ir_l (pc' := 99) rfl rfl rfl rfl rfl rfl ?_
        refine ir_k (pc' := 100) (v := (1, 1)) rfl rfl rfl (fun _ => rfl) ?_
        refine ir_landm (pc' := 101) rfl rfl (by decide) (by decide) (fun z3 z3l z3h => ?_)
        refine ir_k (pc' := 102) (v := (1, 1)) rfl rfl rfl (fun _ => rfl) ?_
        refine ir_lcmp (pc' := 103) rfl rfl (by omega) (by omega) (by omega) (by omega) (fun z4 z4c => ?_)
        refine ir_z_ne (pt := 110) (pc' := 106) rfl rfl rfl (fun c5 => ?_) (fun c5 => ?_)
        · refine ir_k (pc' := 111) (v := (0, 0)) rfl rfl rfl (fun _ => rfl) ?_
          refine ir_w [] trivial ?_
          exact J111 (0) (by omega) (by omega) s_5 hT_5 hF_5 (z1) (by omega) (by omega) z1e
        · refine ir_k (pc' := 107) (v := (0, 1)) rfl rfl rfl (fun _ => rfl) ?_
          refine ir_goto (pc' := 111) rfl rfl ?_
          refine ir_w [] trivial ?_
          exact J111 (1) (by omega) (by omega) s_5 hT_5 hF_5 (z1) (by omega) (by omega) z1e
      · refine ir_l (pc' := 15) rfl rfl rfl rfl rfl rfl ?_
        refine ir_tgr (pc' := 18) rfl rfl rfl tf_2_12 tsk_2 hT_5 (fun b6 b6e b6k => ?_)
        obtain rfl := tsg_9 b6k
        refine ir_l (pc' := 20) rfl rfl rfl rfl rfl rfl ?_
        refine ir_tia (pc' := 21) rfl rfl te_9 (by decide) tsk_9 hT_5 (by omega) (by omega) (fun z7 z7e z7l z7h => ?_)
        clear z7e
        refine ir_s (pc' := 23) rfl rfl rfl rfl rfl rfl ?_
        refine ir_l (pc' := 24) rfl rfl rfl rfl rfl rfl ?_
        refine ir_k (pc' := 25) (v := (1, 1)) rfl rfl rfl (fun _ => rfl) ?_
        refine ir_landm (pc' := 26) rfl rfl (by decide) (by decide) (fun z8 z8l z8h => ?_)
        refine ir_s2 (pc' := 28) rfl rfl rfl rfl rfl rfl ?_
        refine ir_l (pc' := 30) rfl rfl rfl rfl rfl rfl ?_
        refine ir_k (pc' := 32) (v := (0, 10)) rfl rfl rfl (fun _ => rfl) ?_
        refine ir_c_ge (pt := 50) (pc' := 35) rfl rfl rfl (fun c9 => ?_) (fun c9 => ?_)
        · refine ir_l (pc' := 52) rfl rfl rfl rfl rfl rfl ?_
          refine ir_k (pc' := 54) (v := (0, 10)) rfl rfl rfl (fun _ => rfl) ?_
          refine ir_c_ne (pt := 64) (pc' := 57) rfl rfl rfl (fun c10 => ?_) (fun c10 => ?_)
          · refine ir_l (pc' := 66) rfl rfl rfl rfl rfl rfl ?_
            refine ir_k (pc' := 68) (v := (0, 11)) rfl rfl rfl (fun _ => rfl) ?_
            refine ir_c_ne (pt := 85) (pc' := 71) rfl rfl rfl (fun c11 => ?_) (fun c11 => ?_)
            · refine ir_l (pc' := 86) rfl rfl rfl rfl rfl rfl ?_
              refine ir_k (pc' := 87) (v := (0, 1)) rfl rfl rfl (fun _ => rfl) ?_
              refine ir_jijA (pc' := 88) rfl rfl rfl rfl (fun z12 z12l z12h => ?_)
              refine ir_l (pc' := 90) rfl rfl rfl rfl rfl rfl ?_
              refine ir_jjA (pc' := 91) rfl rfl rfl rfl (fun z13 z13l z13h => ?_)
              refine ir_s2 (pc' := 92) rfl rfl rfl rfl rfl rfl ?_
              refine ir_w [(0, (2, ((2 : Nat) : Int))), (1, (0, x1)), (2, (1, z13)), (4, (0, q5_l4))] ⟨rfl, rfl, rfl, rfl, trivial⟩ ?_
              exact J92 (z13) (by omega) (by omega) (by omega) s_5 hT_5 hF_5 b6e (z1) (by omega) (by omega) z1e
            · refine ir_l (pc' := 72) rfl rfl rfl rfl rfl rfl ?_
              refine ir_k (pc' := 73) (v := (0, 1)) rfl rfl rfl (fun _ => rfl) ?_
              refine ir_jijA (pc' := 74) rfl rfl rfl rfl (fun z14 z14l z14h => ?_)
              refine ir_l (pc' := 76) rfl rfl rfl rfl rfl rfl ?_
              refine ir_k (pc' := 79) (v := (1, (-2))) rfl rfl rfl (fun _ => rfl) ?_
              refine ir_jjA (pc' := 80) rfl rfl rfl rfl (fun z15 z15l z15h => ?_)
              refine ir_jjA (pc' := 81) rfl rfl rfl rfl (fun z16 z16l z16h => ?_)
              refine ir_s2 (pc' := 82) rfl rfl rfl rfl rfl rfl ?_
              refine ir_goto (pc' := 92) rfl rfl ?_
              refine ir_w [(0, (2, ((2 : Nat) : Int))), (1, (0, x1)), (2, (1, z16)), (4, (0, q5_l4))] ⟨rfl, rfl, rfl, rfl, trivial⟩ ?_
              exact J92 (z16) (by omega) (by omega) (by omega) s_5 hT_5 hF_5 b6e (z1) (by omega) (by omega) z1e
          · refine ir_l (pc' := 58) rfl rfl rfl rfl rfl rfl ?_
            refine ir_k (pc' := 59) (v := (1, 1)) rfl rfl rfl (fun _ => rfl) ?_
            refine ir_jjA (pc' := 60) rfl rfl rfl rfl (fun z17 z17l z17h => ?_)
            refine ir_s2 (pc' := 61) rfl rfl rfl rfl rfl rfl ?_
            refine ir_goto (pc' := 92) rfl rfl ?_
            refine ir_w [(0, (2, ((2 : Nat) : Int))), (1, (0, x1)), (2, (1, z17)), (4, (0, q5_l4))] ⟨rfl, rfl, rfl, rfl, trivial⟩ ?_
            exact J92 (z17) (by omega) (by omega) (by omega) s_5 hT_5 hF_5 b6e (z1) (by omega) (by omega) z1e
        · refine ir_l (pc' := 36) rfl rfl rfl rfl rfl rfl ?_
          refine ir_k (pc' := 37) (v := (0, 1)) rfl rfl rfl (fun _ => rfl) ?_
          refine ir_jijA (pc' := 38) rfl rfl rfl rfl (fun z18 z18l z18h => ?_)
          refine ir_l (pc' := 39) rfl rfl rfl rfl rfl rfl ?_
          refine ir_l (pc' := 41) rfl rfl rfl rfl rfl rfl ?_
          refine ir_iiA (pc' := 42) rfl rfl rfl rfl (fun z19 z19l z19h => ?_)
          refine ir_k (pc' := 43) (v := (0, 1)) rfl rfl rfl (fun _ => rfl) ?_
          refine ir_andm (pc' := 44) rfl rfl (by decide) (by decide) (fun z20 z20l z20h => ?_)
          refine ir_i2l (pc' := 45) rfl rfl (by omega) (by omega) ?_
          refine ir_jjA (pc' := 46) rfl rfl rfl rfl (fun z21 z21l z21h => ?_)
          refine ir_s2 (pc' := 47) rfl rfl rfl rfl rfl rfl ?_
          refine ir_goto (pc' := 92) rfl rfl ?_
          refine ir_w [(0, (2, ((2 : Nat) : Int))), (1, (0, x1)), (2, (1, z21)), (4, (0, q5_l4))] ⟨rfl, rfl, rfl, rfl, trivial⟩ ?_
          exact J92 (z21) (by omega) (by omega) (by omega) s_5 hT_5 hF_5 b6e (z1) (by omega) (by omega) z1e
  refine ir_k (pc' := 1) (v := (1, 0)) rfl rfl rfl (fun _ => rfl) ?_
  refine ir_s2 (pc' := 2) rfl rfl rfl rfl rfl rfl ?_
  refine ir_k (pc' := 3) (v := (0, 0)) rfl rfl rfl (fun _ => rfl) ?_
  refine ir_s (pc' := 5) rfl rfl rfl rfl rfl rfl ?_
  refine ir_w [(0, (2, ((2 : Nat) : Int))), (1, (0, x1)), (2, (1, 0)), (4, (0, 0))] ⟨rfl, rfl, rfl, rfl, trivial⟩ ?_
  exact J5 _ (0) (by omega) (by omega) (0) (by omega) (by omega) s0 hT0 hF0 (Int.self_le_toNat _)
theorem sf_fillCells4 (L : Nat) (ys : Nat → Int32) (d : Nat) (s0 : im_S) (hT0 : tI s0)  : icV gG rm_P L ys (d + 4) 152 [(2, ((1 : Nat) : Int))] s0 (fun s => tI s ∧ fr [(1, 7), (1, 8), (1, 9), (1, 10)] s0 s) := by
  refine ic_startM (M := rm_p_X4_fillCells) om_X4_fillCells (Nat.le_of_ble_eq_true rfl) ?_
  refine ir_w [(0, (2, ((1 : Nat) : Int)))] ⟨rfl, trivial⟩ ?_
  have hF0 := fr_refl [(1, 7), (1, 8), (1, 9), (1, 10)] s0
  have J57 : ∀ n : Nat, ∀ (q57_l1 : Int) (q57_l1l : 1 ≤ q57_l1) (q57_l1h : q57_l1 ≤ 161) (q57_l2 : Int) (q57_l2l : 0 ≤ q57_l2) (q57_l2h : q57_l2 ≤ 161) (s_57 : im_S) (hT_57 : tI s_57) (hF_57 : fr [(1, 7), (1, 8), (1, 9), (1, 10)] s0 s_57) (w57_1_0e : s_57.1 1 0 = ((2 : Nat) : Int)) (w57_1_4 : Int) (w57_1_4l : 0 ≤ w57_1_4) (w57_1_4h : w57_1_4 ≤ 80) (w57_1_4e : s_57.1 1 4 = w57_1_4) (w57_1_7 : Int) (w57_1_7l : -2147483648 ≤ w57_1_7) (w57_1_7h : w57_1_7 ≤ 2147483647) (w57_1_7e : s_57.1 1 7 = w57_1_7) (w57_1_8 : Int) (w57_1_8l : -2 ≤ w57_1_8) (w57_1_8h : w57_1_8 ≤ 160) (w57_1_8e : s_57.1 1 8 = w57_1_8) (w57_1_9 : Int) (w57_1_9l : -2 ≤ w57_1_9) (w57_1_9h : w57_1_9 ≤ 160) (w57_1_9e : s_57.1 1 9 = w57_1_9) (w57_1_10 : Int) (w57_1_10l : -2147483648 ≤ w57_1_10) (w57_1_10h : w57_1_10 ≤ 2147483647) (w57_1_10e : s_57.1 1 10 = w57_1_10) (w57_2_11 : Int) (w57_2_11l : 0 ≤ w57_2_11) (w57_2_11h : w57_2_11 ≤ 10) (w57_2_11e : s_57.1 2 11 = w57_2_11), (161 + 1 - q57_l2) ≤ (n : Int) → ir gG rm_P L ys (d + 3) rm_p_X4_fillCells (57, [(0, (2, ((1 : Nat) : Int))), (1, (0, q57_l1)), (2, (0, q57_l2))], [], s_57) (fun r : im_Re => r.1 = none ∧ (tI r.2 ∧ fr [(1, 7), (1, 8), (1, 9), (1, 10)] s0 r.2)) := by
    intro n
    induction n with
    | zero => intro q57_l1 q57_l1l q57_l1h q57_l2 q57_l2l q57_l2h s_57 hT_57 hF_57 w57_1_0e w57_1_4 w57_1_4l w57_1_4h w57_1_4e w57_1_7 w57_1_7l w57_1_7h w57_1_7e w57_1_8 w57_1_8l w57_1_8h w57_1_8e w57_1_9 w57_1_9l w57_1_9h w57_1_9e w57_1_10 w57_1_10l w57_1_10h w57_1_10e w57_2_11 w57_2_11l w57_2_11h w57_2_11e hr; exfalso; omega
    | succ n ih57 =>
      intro q57_l1 q57_l1l q57_l1h q57_l2 q57_l2l q57_l2h s_57 hT_57 hF_57 w57_1_0e w57_1_4 w57_1_4l w57_1_4h w57_1_4e w57_1_7 w57_1_7l w57_1_7h w57_1_7e w57_1_8 w57_1_8l w57_1_8h w57_1_8e w57_1_9 w57_1_9l w57_1_9h w57_1_9e w57_1_10 w57_1_10l w57_1_10h w57_1_10e w57_2_11 w57_2_11l w57_2_11h w57_2_11e hr
      have J161 : ∀ (f161_2h : q57_l2 ≤ 160) (s_161 : im_S) (hT_161 : tI s_161) (hF_161 : fr [(1, 7), (1, 8), (1, 9), (1, 10)] s0 s_161) (w161_1_0e : s_161.1 1 0 = ((2 : Nat) : Int)) (w161_1_4 : Int) (w161_1_4l : 0 ≤ w161_1_4) (w161_1_4h : w161_1_4 ≤ 80) (w161_1_4e : s_161.1 1 4 = w161_1_4) (w161_1_6e : s_161.1 1 6 = ((579 : Nat) : Int)) (w161_1_7 : Int) (w161_1_7l : -2147483648 ≤ w161_1_7) (w161_1_7h : w161_1_7 ≤ 2147483647) (w161_1_7e : s_161.1 1 7 = w161_1_7) (w161_1_8 : Int) (w161_1_8l : -2 ≤ w161_1_8) (w161_1_8h : w161_1_8 ≤ 160) (w161_1_8e : s_161.1 1 8 = w161_1_8) (w161_1_9 : Int) (w161_1_9l : -2 ≤ w161_1_9) (w161_1_9h : w161_1_9 ≤ 160) (w161_1_9e : s_161.1 1 9 = w161_1_9) (w161_1_10 : Int) (w161_1_10l : -2147483648 ≤ w161_1_10) (w161_1_10h : w161_1_10 ≤ 2147483647) (w161_1_10e : s_161.1 1 10 = w161_1_10) (w161_1_12e : s_161.1 1 12 = ((581 : Nat) : Int)) (w161_2_11 : Int) (w161_2_11l : 0 ≤ w161_2_11) (w161_2_11h : w161_2_11 ≤ 10) (w161_2_11e : s_161.1 2 11 = w161_2_11), ir gG rm_P L ys (d + 3) rm_p_X4_fillCells (161, [(0, (2, ((1 : Nat) : Int))), (1, (0, q57_l1)), (2, (0, q57_l2))], [], s_161) (fun r : im_Re => r.1 = none ∧ (tI r.2 ∧ fr [(1, 7), (1, 8), (1, 9), (1, 10)] s0 r.2)) := by
        intro f161_2h s_161 hT_161 hF_161 w161_1_0e w161_1_4 w161_1_4l w161_1_4h w161_1_4e w161_1_6e w161_1_7 w161_1_7l w161_1_7h w161_1_7e w161_1_8 w161_1_8l w161_1_8h w161_1_8e w161_1_9 w161_1_9l w161_1_9h w161_1_9e w161_1_10 w161_1_10l w161_1_10h w161_1_10e w161_1_12e w161_2_11 w161_2_11l w161_2_11h w161_2_11e
        refine ir_inc (pc' := 164) rfl rfl rfl rfl rfl (by omega) (by omega) ?_
        refine ir_goto (pc' := 57) rfl rfl ?_
        refine ir_w [(0, (2, ((1 : Nat) : Int))), (1, (0, q57_l1)), (2, (0, (q57_l2 + 1)))] ⟨rfl, rfl, rfl, trivial⟩ ?_
        exact ih57 (q57_l1) (by omega) (by omega) ((q57_l2 + 1)) (by omega) (by omega) s_161 hT_161 hF_161 w161_1_0e (w161_1_4) (by omega) (by omega) w161_1_4e (w161_1_7) (by omega) (by omega) w161_1_7e (w161_1_8) (by omega) (by omega) w161_1_8e (w161_1_9) (by omega) (by omega) w161_1_9e (w161_1_10) (by omega) (by omega) w161_1_10e (w161_2_11) (by omega) (by omega) w161_2_11e (by omega)
      have J143 : ∀ (q143_s1 : Int) (q143_s1l : -2 ≤ q143_s1) (q143_s1h : q143_s1 ≤ 160) (f143_2h : q57_l2 ≤ 160) (s_143 : im_S) (hT_143 : tI s_143) (hF_143 : fr [(1, 7), (1, 8), (1, 9), (1, 10)] s0 s_143) (w143_1_0e : s_143.1 1 0 = ((2 : Nat) : Int)) (w143_1_4 : Int) (w143_1_4l : 0 ≤ w143_1_4) (w143_1_4h : w143_1_4 ≤ 80) (w143_1_4e : s_143.1 1 4 = w143_1_4) (w143_1_6e : s_143.1 1 6 = ((579 : Nat) : Int)) (w143_1_7 : Int) (w143_1_7l : -2147483648 ≤ w143_1_7) (w143_1_7h : w143_1_7 ≤ 2147483647) (w143_1_7e : s_143.1 1 7 = w143_1_7) (w143_1_8 : Int) (w143_1_8l : -2 ≤ w143_1_8) (w143_1_8h : w143_1_8 ≤ 160) (w143_1_8e : s_143.1 1 8 = w143_1_8) (w143_1_9 : Int) (w143_1_9l : -2 ≤ w143_1_9) (w143_1_9h : w143_1_9 ≤ 160) (w143_1_9e : s_143.1 1 9 = w143_1_9) (w143_1_10 : Int) (w143_1_10l : -2147483648 ≤ w143_1_10) (w143_1_10h : w143_1_10 ≤ 2147483647) (w143_1_10e : s_143.1 1 10 = w143_1_10) (w143_1_12e : s_143.1 1 12 = ((581 : Nat) : Int)) (w143_2_11 : Int) (w143_2_11l : 0 ≤ w143_2_11) (w143_2_11h : w143_2_11 ≤ 10) (w143_2_11e : s_143.1 2 11 = w143_2_11), ir gG rm_P L ys (d + 3) rm_p_X4_fillCells (143, [(0, (2, ((1 : Nat) : Int))), (1, (0, q57_l1)), (2, (0, q57_l2))], [(0, q143_s1), (2, ((1 : Nat) : Int))], s_143) (fun r : im_Re => r.1 = none ∧ (tI r.2 ∧ fr [(1, 7), (1, 8), (1, 9), (1, 10)] s0 r.2)) := by
        intro q143_s1 q143_s1l q143_s1h f143_2h s_143 hT_143 hF_143 w143_1_0e w143_1_4 w143_1_4l w143_1_4h w143_1_4e w143_1_6e w143_1_7 w143_1_7l w143_1_7h w143_1_7e w143_1_8 w143_1_8l w143_1_8h w143_1_8e w143_1_9 w143_1_9l w143_1_9h w143_1_9e w143_1_10 w143_1_10l w143_1_10h w143_1_10e w143_1_12e w143_2_11 w143_2_11l w143_2_11h w143_2_11e
        refine ir_tpi (pc' := 146) rfl rfl rfl tf_1_8 rfl tsk_1 hT_143 rfl (by omega) (by omega) (fun s1 hT1 e1 g1 r1 => ?_)
        have hF1 := fr_put (k := 1) hF_143 (by decide) tsk_1 g1 r1
        have e2 : s1.1 1 4 = w143_1_4 := (g1 1 4 (fun z => absurd z.2 (by decide))).trans w143_1_4e
        have e3 : s1.1 1 0 = ((2 : Nat) : Int) := (g1 1 0 (fun z => absurd z.2 (by decide))).trans w143_1_0e
        have e4 : s1.1 2 11 = w143_2_11 := (g1 2 11 (fun z => absurd z.2 (by decide))).trans w143_2_11e
        have e5 : s1.1 1 7 = w143_1_7 := (g1 1 7 (fun z => absurd z.2 (by decide))).trans w143_1_7e
        have e6 : s1.1 1 9 = w143_1_9 := (g1 1 9 (fun z => absurd z.2 (by decide))).trans w143_1_9e
        have e7 : s1.1 1 12 = ((581 : Nat) : Int) := (g1 1 12 (fun z => absurd z.2 (by decide))).trans w143_1_12e
        have e8 : s1.1 1 6 = ((579 : Nat) : Int) := (g1 1 6 (fun z => absurd z.2 (by decide))).trans w143_1_6e
        have e9 : s1.1 1 10 = w143_1_10 := (g1 1 10 (fun z => absurd z.2 (by decide))).trans w143_1_10e
        refine ir_l (pc' := 147) rfl rfl rfl rfl rfl rfl ?_
        refine ir_l (pc' := 148) rfl rfl rfl rfl rfl rfl ?_
        refine ir_tpi (pc' := 151) rfl rfl rfl tf_1_9 rfl tsk_1 hT1 rfl (by omega) (by omega) (fun s10 hT10 e10 g10 r10 => ?_)
        have hF10 := fr_put (k := 1) hF1 (by decide) tsk_1 g10 r10
        have e11 : s10.1 1 4 = w143_1_4 := (g10 1 4 (fun z => absurd z.2 (by decide))).trans e2
        have e12 : s10.1 1 0 = ((2 : Nat) : Int) := (g10 1 0 (fun z => absurd z.2 (by decide))).trans e3
        have e13 : s10.1 2 11 = w143_2_11 := (g10 2 11 (fun z => absurd z.2 (by decide))).trans e4
        have e14 : s10.1 1 7 = w143_1_7 := (g10 1 7 (fun z => absurd z.2 (by decide))).trans e5
        have e15 : s10.1 1 12 = ((581 : Nat) : Int) := (g10 1 12 (fun z => absurd z.2 (by decide))).trans e7
        have e16 : s10.1 1 6 = ((579 : Nat) : Int) := (g10 1 6 (fun z => absurd z.2 (by decide))).trans e8
        have e17 : s10.1 1 10 = w143_1_10 := (g10 1 10 (fun z => absurd z.2 (by decide))).trans e9
        have e18 : s10.1 1 8 = q143_s1 := (g10 1 8 (fun z => absurd z.2 (by decide))).trans e1
        refine ir_l (pc' := 152) rfl rfl rfl rfl rfl rfl ?_
        refine ir_x (pc' := 153) rfl rfl rfl (fun _ => rfl) ?_
        refine ir_getI (pc' := 156) rfl rfl rfl (gG_at tsk_1) rfl (by decide) (by decide) e14 (by omega) (by omega) ?_
        refine ir_k (pc' := 157) (v := (0, 1)) rfl rfl rfl (fun _ => rfl) ?_
        refine ir_iiA (pc' := 158) rfl rfl rfl rfl (fun z19 z19l z19h => ?_)
        refine ir_tpi (pc' := 161) rfl rfl rfl tf_1_7 rfl tsk_1 hT10 rfl (by omega) (by omega) (fun s20 hT20 e20 g20 r20 => ?_)
        have hF20 := fr_put (k := 1) hF10 (by decide) tsk_1 g20 r20
        have e21 : s20.1 1 4 = w143_1_4 := (g20 1 4 (fun z => absurd z.2 (by decide))).trans e11
        have e22 : s20.1 1 0 = ((2 : Nat) : Int) := (g20 1 0 (fun z => absurd z.2 (by decide))).trans e12
        have e23 : s20.1 2 11 = w143_2_11 := (g20 2 11 (fun z => absurd z.2 (by decide))).trans e13
        have e24 : s20.1 1 12 = ((581 : Nat) : Int) := (g20 1 12 (fun z => absurd z.2 (by decide))).trans e15
        have e25 : s20.1 1 6 = ((579 : Nat) : Int) := (g20 1 6 (fun z => absurd z.2 (by decide))).trans e16
        have e26 : s20.1 1 10 = w143_1_10 := (g20 1 10 (fun z => absurd z.2 (by decide))).trans e17
        have e27 : s20.1 1 8 = q143_s1 := (g20 1 8 (fun z => absurd z.2 (by decide))).trans e18
        have e28 : s20.1 1 9 = q57_l2 := (g20 1 9 (fun z => absurd z.2 (by decide))).trans e10
        refine ir_w [(0, (2, ((1 : Nat) : Int))), (1, (0, q57_l1)), (2, (0, q57_l2))] ⟨rfl, rfl, rfl, trivial⟩ ?_
        exact J161 (by omega) s20 hT20 hF20 e22 (w143_1_4) (by omega) (by omega) e21 e25 (z19) (by omega) (by omega) e20 (q143_s1) (by omega) (by omega) e27 (q57_l2) (by omega) (by omega) e28 (w143_1_10) (by omega) (by omega) e26 e24 (w143_2_11) (by omega) (by omega) e23
      have J123 : ∀ (q123_s1 : Int) (q123_s1l : -2147483648 ≤ q123_s1) (q123_s1h : q123_s1 ≤ 2147483647) (q123_s2 : Int) (q123_s2l : 0 ≤ q123_s2) (q123_s2h : q123_s2 ≤ 1) (f123_2h : q57_l2 ≤ 160) (s_123 : im_S) (hT_123 : tI s_123) (hF_123 : fr [(1, 7), (1, 8), (1, 9), (1, 10)] s0 s_123) (w123_1_0e : s_123.1 1 0 = ((2 : Nat) : Int)) (w123_1_4 : Int) (w123_1_4l : 0 ≤ w123_1_4) (w123_1_4h : w123_1_4 ≤ 80) (w123_1_4e : s_123.1 1 4 = w123_1_4) (w123_1_6e : s_123.1 1 6 = ((579 : Nat) : Int)) (w123_1_7 : Int) (w123_1_7l : -2147483648 ≤ w123_1_7) (w123_1_7h : w123_1_7 ≤ 2147483647) (w123_1_7e : s_123.1 1 7 = w123_1_7) (w123_1_8 : Int) (w123_1_8l : -2 ≤ w123_1_8) (w123_1_8h : w123_1_8 ≤ 160) (w123_1_8e : s_123.1 1 8 = w123_1_8) (w123_1_9 : Int) (w123_1_9l : -2 ≤ w123_1_9) (w123_1_9h : w123_1_9 ≤ 160) (w123_1_9e : s_123.1 1 9 = w123_1_9) (w123_1_10 : Int) (w123_1_10l : -2147483648 ≤ w123_1_10) (w123_1_10h : w123_1_10 ≤ 2147483647) (w123_1_10e : s_123.1 1 10 = w123_1_10) (w123_1_12e : s_123.1 1 12 = ((581 : Nat) : Int)) (w123_2_11 : Int) (w123_2_11l : 0 ≤ w123_2_11) (w123_2_11h : w123_2_11 ≤ 10) (w123_2_11e : s_123.1 2 11 = w123_2_11), ir gG rm_P L ys (d + 3) rm_p_X4_fillCells (123, [(0, (2, ((1 : Nat) : Int))), (1, (0, q57_l1)), (2, (0, q57_l2))], [(0, q123_s2), (0, q123_s1), (2, ((1 : Nat) : Int))], s_123) (fun r : im_Re => r.1 = none ∧ (tI r.2 ∧ fr [(1, 7), (1, 8), (1, 9), (1, 10)] s0 r.2)) := by
        intro q123_s1 q123_s1l q123_s1h q123_s2 q123_s2l q123_s2h f123_2h s_123 hT_123 hF_123 w123_1_0e w123_1_4 w123_1_4l w123_1_4h w123_1_4e w123_1_6e w123_1_7 w123_1_7l w123_1_7h w123_1_7e w123_1_8 w123_1_8l w123_1_8h w123_1_8e w123_1_9 w123_1_9l w123_1_9h w123_1_9e w123_1_10 w123_1_10l w123_1_10h w123_1_10e w123_1_12e w123_2_11 w123_2_11l w123_2_11h w123_2_11e
        refine ir_iiA (pc' := 124) rfl rfl rfl rfl (fun z29 z29l z29h => ?_)
        refine ir_tpi (pc' := 127) rfl rfl rfl tf_1_10 rfl tsk_1 hT_123 rfl (by omega) (by omega) (fun s30 hT30 e30 g30 r30 => ?_)
        have hF30 := fr_put (k := 1) hF_123 (by decide) tsk_1 g30 r30
        have e31 : s30.1 1 4 = w123_1_4 := (g30 1 4 (fun z => absurd z.2 (by decide))).trans w123_1_4e
        have e32 : s30.1 1 0 = ((2 : Nat) : Int) := (g30 1 0 (fun z => absurd z.2 (by decide))).trans w123_1_0e
        have e33 : s30.1 2 11 = w123_2_11 := (g30 2 11 (fun z => absurd z.2 (by decide))).trans w123_2_11e
        have e34 : s30.1 1 7 = w123_1_7 := (g30 1 7 (fun z => absurd z.2 (by decide))).trans w123_1_7e
        have e35 : s30.1 1 8 = w123_1_8 := (g30 1 8 (fun z => absurd z.2 (by decide))).trans w123_1_8e
        have e36 : s30.1 1 9 = w123_1_9 := (g30 1 9 (fun z => absurd z.2 (by decide))).trans w123_1_9e
        have e37 : s30.1 1 12 = ((581 : Nat) : Int) := (g30 1 12 (fun z => absurd z.2 (by decide))).trans w123_1_12e
        have e38 : s30.1 1 6 = ((579 : Nat) : Int) := (g30 1 6 (fun z => absurd z.2 (by decide))).trans w123_1_6e
        refine ir_l (pc' := 128) rfl rfl rfl rfl rfl rfl ?_
        refine ir_l (pc' := 129) rfl rfl rfl rfl rfl rfl ?_
        refine ir_getI (pc' := 132) rfl rfl rfl (gG_at tsk_1) rfl (by decide) (by decide) e34 (by omega) (by omega) ?_
        refine ir_z_ne (pt := 139) (pc' := 135) rfl rfl rfl (fun c39 => ?_) (fun c39 => ?_)
        · refine ir_l (pc' := 140) rfl rfl rfl rfl rfl rfl ?_
          refine ir_getI (pc' := 143) rfl rfl rfl (gG_at tsk_1) rfl (by decide) (by decide) e35 (by omega) (by omega) ?_
          refine ir_w [(0, (2, ((1 : Nat) : Int))), (1, (0, q57_l1)), (2, (0, q57_l2))] ⟨rfl, rfl, rfl, trivial⟩ ?_
          exact J143 (w123_1_8) (by omega) (by omega) (by omega) s30 hT30 hF30 e32 (w123_1_4) (by omega) (by omega) e31 e38 (w123_1_7) (by omega) (by omega) e34 (w123_1_8) (by omega) (by omega) e35 (w123_1_9) (by omega) (by omega) e36 (z29) (by omega) (by omega) e30 e37 (w123_2_11) (by omega) (by omega) e33
        · refine ir_l (pc' := 136) rfl rfl rfl rfl rfl rfl ?_
          refine ir_goto (pc' := 143) rfl rfl ?_
          refine ir_w [(0, (2, ((1 : Nat) : Int))), (1, (0, q57_l1)), (2, (0, q57_l2))] ⟨rfl, rfl, rfl, trivial⟩ ?_
          exact J143 (q57_l2) (by omega) (by omega) (by omega) s30 hT30 hF30 e32 (w123_1_4) (by omega) (by omega) e31 e38 (w123_1_7) (by omega) (by omega) e34 (w123_1_8) (by omega) (by omega) e35 (w123_1_9) (by omega) (by omega) e36 (z29) (by omega) (by omega) e30 e37 (w123_2_11) (by omega) (by omega) e33
      have J118 : ∀ (q118_s1 : Int) (q118_s1l : -2147483648 ≤ q118_s1) (q118_s1h : q118_s1 ≤ 2147483647) (f118_2h : q57_l2 ≤ 160) (s_118 : im_S) (hT_118 : tI s_118) (hF_118 : fr [(1, 7), (1, 8), (1, 9), (1, 10)] s0 s_118) (w118_1_0e : s_118.1 1 0 = ((2 : Nat) : Int)) (w118_1_4 : Int) (w118_1_4l : 0 ≤ w118_1_4) (w118_1_4h : w118_1_4 ≤ 80) (w118_1_4e : s_118.1 1 4 = w118_1_4) (w118_1_6e : s_118.1 1 6 = ((579 : Nat) : Int)) (w118_1_7 : Int) (w118_1_7l : -2147483648 ≤ w118_1_7) (w118_1_7h : w118_1_7 ≤ 2147483647) (w118_1_7e : s_118.1 1 7 = w118_1_7) (w118_1_8 : Int) (w118_1_8l : -2 ≤ w118_1_8) (w118_1_8h : w118_1_8 ≤ 160) (w118_1_8e : s_118.1 1 8 = w118_1_8) (w118_1_9 : Int) (w118_1_9l : -2 ≤ w118_1_9) (w118_1_9h : w118_1_9 ≤ 160) (w118_1_9e : s_118.1 1 9 = w118_1_9) (w118_1_10 : Int) (w118_1_10l : -2147483648 ≤ w118_1_10) (w118_1_10h : w118_1_10 ≤ 2147483647) (w118_1_10e : s_118.1 1 10 = w118_1_10) (w118_1_12e : s_118.1 1 12 = ((581 : Nat) : Int)) (w118_2_11 : Int) (w118_2_11l : 0 ≤ w118_2_11) (w118_2_11h : w118_2_11 ≤ 10) (w118_2_11e : s_118.1 2 11 = w118_2_11), ir gG rm_P L ys (d + 3) rm_p_X4_fillCells (118, [(0, (2, ((1 : Nat) : Int))), (1, (0, q57_l1)), (2, (0, q57_l2))], [(0, q118_s1), (2, ((1 : Nat) : Int))], s_118) (fun r : im_Re => r.1 = none ∧ (tI r.2 ∧ fr [(1, 7), (1, 8), (1, 9), (1, 10)] s0 r.2)) := by
        intro q118_s1 q118_s1l q118_s1h f118_2h s_118 hT_118 hF_118 w118_1_0e w118_1_4 w118_1_4l w118_1_4h w118_1_4e w118_1_6e w118_1_7 w118_1_7l w118_1_7h w118_1_7e w118_1_8 w118_1_8l w118_1_8h w118_1_8e w118_1_9 w118_1_9l w118_1_9h w118_1_9e w118_1_10 w118_1_10l w118_1_10h w118_1_10e w118_1_12e w118_2_11 w118_2_11l w118_2_11h w118_2_11e
        refine ir_k (pc' := 119) (v := (0, 1)) rfl rfl rfl (fun _ => rfl) ?_
        refine ir_goto (pc' := 123) rfl rfl ?_
        refine ir_w [(0, (2, ((1 : Nat) : Int))), (1, (0, q57_l1)), (2, (0, q57_l2))] ⟨rfl, rfl, rfl, trivial⟩ ?_
        exact J123 (q118_s1) (by omega) (by omega) (1) (by omega) (by omega) (by omega) s_118 hT_118 hF_118 w118_1_0e (w118_1_4) (by omega) (by omega) w118_1_4e w118_1_6e (w118_1_7) (by omega) (by omega) w118_1_7e (w118_1_8) (by omega) (by omega) w118_1_8e (w118_1_9) (by omega) (by omega) w118_1_9e (w118_1_10) (by omega) (by omega) w118_1_10e w118_1_12e (w118_2_11) (by omega) (by omega) w118_2_11e
      refine ir_l (pc' := 58) rfl rfl rfl rfl rfl rfl ?_
      refine ir_l (pc' := 59) rfl rfl rfl rfl rfl rfl ?_
      refine ir_c_ge (pt := 167) (pc' := 62) rfl rfl rfl (fun c40 => ?_) (fun c40 => ?_)
      · exact ir_vret rfl rfl ⟨rfl, hT_57, hF_57⟩
      · refine ir_l (pc' := 63) rfl rfl rfl rfl rfl rfl ?_
        refine ir_tgr (pc' := 66) rfl rfl rfl tf_1_12 tsk_1 hT_57 (fun b41 b41e b41k => ?_)
        obtain rfl := tsg_31 b41k
        refine ir_l (pc' := 67) rfl rfl rfl rfl rfl rfl ?_
        refine ir_k (pc' := 68) (v := (0, 0)) rfl rfl rfl (fun _ => rfl) ?_
        refine ir_tis (pc' := 69) rfl rfl rfl rfl te_31 tsk_31 hT_57 (by omega) (by omega) (rfl) (by omega) (by omega) (fun s42 hT42 r42 o42 => ?_)
        have hF42 := fr_row hF_57 r42 o42
        have e43 : s42.1 1 4 = w57_1_4 := by rw [r42]; exact w57_1_4e
        have e44 : s42.1 1 0 = ((2 : Nat) : Int) := by rw [r42]; exact w57_1_0e
        have e45 : s42.1 2 11 = w57_2_11 := by rw [r42]; exact w57_2_11e
        have e46 : s42.1 1 7 = w57_1_7 := by rw [r42]; exact w57_1_7e
        have e47 : s42.1 1 10 = w57_1_10 := by rw [r42]; exact w57_1_10e
        have e48 : s42.1 1 8 = w57_1_8 := by rw [r42]; exact w57_1_8e
        have e49 : s42.1 1 9 = w57_1_9 := by rw [r42]; exact w57_1_9e
        have e50 : s42.1 1 12 = ((581 : Nat) : Int) := by rw [r42]; exact b41e
        refine ir_l (pc' := 70) rfl rfl rfl rfl rfl rfl ?_
        refine ir_tgr (pc' := 73) rfl rfl rfl tf_1_6 tsk_1 hT42 (fun b51 b51e b51k => ?_)
        obtain rfl := tsg_29 b51k
        refine ir_l (pc' := 74) rfl rfl rfl rfl rfl rfl ?_
        refine ir_l (pc' := 75) rfl rfl rfl rfl rfl rfl ?_
        refine ir_getR (pc' := 78) rfl rfl rfl (gG_at tsk_1) rfl e44 ?_
        refine ir_l (pc' := 79) rfl rfl rfl rfl rfl rfl ?_
        refine ir_l (pc' := 80) rfl rfl rfl rfl rfl rfl ?_
        refine ir_cVI (pc' := 83) rfl rfl rfl rfl rfl (Nat.le_of_ble_eq_true rfl) oo_X4_trueAtoms (gG_at tsk_1) (sf_trueAtoms4 L ys (d + 2) s42 hT42 (q57_l2) (by omega) (by omega) ) (fun z52 s53 hr => ?_)
        obtain ⟨hT53, hG53, z52l, z52h⟩ := hr
        have hF53 := fr_trans hF42 hG53 (by decide)
        have e54 : s53.1 1 4 = w57_1_4 := (hG53.1 _ _ tsk_1 4 (by decide)).trans e43
        have e55 : s53.1 1 0 = ((2 : Nat) : Int) := (hG53.1 _ _ tsk_1 0 (by decide)).trans e44
        have e56 : s53.1 2 11 = w57_2_11 := (hG53.1 _ _ tsk_2 11 (by decide)).trans e45
        have e57 : s53.1 1 7 = w57_1_7 := (hG53.1 _ _ tsk_1 7 (by decide)).trans e46
        have e58 : s53.1 1 10 = w57_1_10 := (hG53.1 _ _ tsk_1 10 (by decide)).trans e47
        have e59 : s53.1 1 8 = w57_1_8 := (hG53.1 _ _ tsk_1 8 (by decide)).trans e48
        have e60 : s53.1 1 9 = w57_1_9 := (hG53.1 _ _ tsk_1 9 (by decide)).trans e49
        have e61 : s53.1 1 12 = ((581 : Nat) : Int) := (hG53.1 _ _ tsk_1 12 (by decide)).trans e50
        have e62 : s53.1 1 6 = ((579 : Nat) : Int) := (hG53.1 _ _ tsk_1 6 (by decide)).trans b51e
        refine ir_cVI (pc' := 86) rfl rfl rfl rfl rfl (Nat.le_of_ble_eq_true rfl) oo_X7_fulfilledBy (gG_at tsk_2) (sf_fulfilledBy7 L ys (d + 2) s53 hT53 (z52) (by omega) (by omega) ) (fun z63 s64 hr => ?_)
        obtain ⟨hT64, hG64, z63l, z63h⟩ := hr
        have hF64 := fr_trans hF53 hG64 (by decide)
        have e65 : s64.1 1 4 = w57_1_4 := (hG64.1 _ _ tsk_1 4 (by decide)).trans e54
        have e66 : s64.1 1 0 = ((2 : Nat) : Int) := (hG64.1 _ _ tsk_1 0 (by decide)).trans e55
        have e67 : s64.1 2 11 = w57_2_11 := (hG64.1 _ _ tsk_2 11 (by decide)).trans e56
        have e68 : s64.1 1 7 = w57_1_7 := (hG64.1 _ _ tsk_1 7 (by decide)).trans e57
        have e69 : s64.1 1 10 = w57_1_10 := (hG64.1 _ _ tsk_1 10 (by decide)).trans e58
        have e70 : s64.1 1 8 = w57_1_8 := (hG64.1 _ _ tsk_1 8 (by decide)).trans e59
        have e71 : s64.1 1 9 = w57_1_9 := (hG64.1 _ _ tsk_1 9 (by decide)).trans e60
        have e72 : s64.1 1 12 = ((581 : Nat) : Int) := (hG64.1 _ _ tsk_1 12 (by decide)).trans e61
        have e73 : s64.1 1 6 = ((579 : Nat) : Int) := (hG64.1 _ _ tsk_1 6 (by decide)).trans e62
        refine ir_tbs (pc' := 87) rfl rfl te_29 (by decide) tsk_29 hT64 (by omega) (by omega) (im_fit_of (lo := 0) (hi := 1) (by decide) (by omega) (by omega)) (by omega) (by omega) (fun s74 hT74 r74 o74 => ?_)
        have hF74 := fr_row hF64 r74 o74
        have e75 : s74.1 1 4 = w57_1_4 := by rw [r74]; exact e65
        have e76 : s74.1 1 0 = ((2 : Nat) : Int) := by rw [r74]; exact e66
        have e77 : s74.1 2 11 = w57_2_11 := by rw [r74]; exact e67
        have e78 : s74.1 1 7 = w57_1_7 := by rw [r74]; exact e68
        have e79 : s74.1 1 10 = w57_1_10 := by rw [r74]; exact e69
        have e80 : s74.1 1 8 = w57_1_8 := by rw [r74]; exact e70
        have e81 : s74.1 1 9 = w57_1_9 := by rw [r74]; exact e71
        have e82 : s74.1 1 12 = ((581 : Nat) : Int) := by rw [r74]; exact e72
        have e83 : s74.1 1 6 = ((579 : Nat) : Int) := by rw [r74]; exact e73
        refine ir_l (pc' := 88) rfl rfl rfl rfl rfl rfl ?_
        refine ir_getR (pc' := 91) rfl rfl rfl (gG_at tsk_1) rfl e83 ?_
        refine ir_l (pc' := 92) rfl rfl rfl rfl rfl rfl ?_
        refine ir_tba (pc' := 93) rfl rfl te_29 (by decide) (by decide) tsk_29 hT74 (by omega) (by omega) (fun z84 z84e z84l z84h => ?_)
        clear z84e
        refine ir_z_eq (pt := 161) (pc' := 96) rfl rfl rfl (fun c85 => ?_) (fun c85 => ?_)
        · refine ir_w [(0, (2, ((1 : Nat) : Int))), (1, (0, q57_l1)), (2, (0, q57_l2))] ⟨rfl, rfl, rfl, trivial⟩ ?_
          exact J161 (by omega) s74 hT74 hF74 e76 (w57_1_4) (by omega) (by omega) e75 e83 (w57_1_7) (by omega) (by omega) e78 (w57_1_8) (by omega) (by omega) e80 (w57_1_9) (by omega) (by omega) e81 (w57_1_10) (by omega) (by omega) e79 e82 (w57_2_11) (by omega) (by omega) e77
        · refine ir_l (pc' := 97) rfl rfl rfl rfl rfl rfl ?_
          refine ir_x (pc' := 98) rfl rfl rfl (fun _ => rfl) ?_
          refine ir_getI (pc' := 101) rfl rfl rfl (gG_at tsk_1) rfl (by decide) (by decide) e79 (by omega) (by omega) ?_
          refine ir_l (pc' := 102) rfl rfl rfl rfl rfl rfl ?_
          refine ir_getI (pc' := 105) rfl rfl rfl (gG_at tsk_1) rfl (by decide) (by decide) e81 (by omega) (by omega) ?_
          refine ir_l (pc' := 106) rfl rfl rfl rfl rfl rfl ?_
          refine ir_k (pc' := 107) (v := (0, 1)) rfl rfl rfl (fun _ => rfl) ?_
          refine ir_sub (pc' := 108) rfl rfl (by omega) (by omega) ?_
          refine ir_c_ne (pt := 118) (pc' := 111) rfl rfl rfl (fun c86 => ?_) (fun c86 => ?_)
          · refine ir_w [(0, (2, ((1 : Nat) : Int))), (1, (0, q57_l1)), (2, (0, q57_l2))] ⟨rfl, rfl, rfl, trivial⟩ ?_
            exact J118 (w57_1_10) (by omega) (by omega) (by omega) s74 hT74 hF74 e76 (w57_1_4) (by omega) (by omega) e75 e83 (w57_1_7) (by omega) (by omega) e78 (w57_1_8) (by omega) (by omega) e80 (w57_1_9) (by omega) (by omega) e81 (w57_1_10) (by omega) (by omega) e79 e82 (w57_2_11) (by omega) (by omega) e77
          · refine ir_l (pc' := 112) rfl rfl rfl rfl rfl rfl ?_
            refine ir_getI (pc' := 115) rfl rfl rfl (gG_at tsk_1) rfl (by decide) (by decide) e78 (by omega) (by omega) ?_
            refine ir_z_ne (pt := 122) (pc' := 118) rfl rfl rfl (fun c87 => ?_) (fun c87 => ?_)
            · refine ir_k (pc' := 123) (v := (0, 0)) rfl rfl rfl (fun _ => rfl) ?_
              refine ir_w [(0, (2, ((1 : Nat) : Int))), (1, (0, q57_l1)), (2, (0, q57_l2))] ⟨rfl, rfl, rfl, trivial⟩ ?_
              exact J123 (w57_1_10) (by omega) (by omega) (0) (by omega) (by omega) (by omega) s74 hT74 hF74 e76 (w57_1_4) (by omega) (by omega) e75 e83 (w57_1_7) (by omega) (by omega) e78 (w57_1_8) (by omega) (by omega) e80 (w57_1_9) (by omega) (by omega) e81 (w57_1_10) (by omega) (by omega) e79 e82 (w57_2_11) (by omega) (by omega) e77
            · refine ir_w [(0, (2, ((1 : Nat) : Int))), (1, (0, q57_l1)), (2, (0, q57_l2))] ⟨rfl, rfl, rfl, trivial⟩ ?_
              exact J118 (w57_1_10) (by omega) (by omega) (by omega) s74 hT74 hF74 e76 (w57_1_4) (by omega) (by omega) e75 e83 (w57_1_7) (by omega) (by omega) e78 (w57_1_8) (by omega) (by omega) e80 (w57_1_9) (by omega) (by omega) e81 (w57_1_10) (by omega) (by omega) e79 e82 (w57_2_11) (by omega) (by omega) e77
  have J11 : ∀ n : Nat, ∀ (q11_l1 : Int) (q11_l1l : 1 ≤ q11_l1) (q11_l1h : q11_l1 ≤ 161) (q11_l2 : Int) (q11_l2l : 0 ≤ q11_l2) (q11_l2h : q11_l2 ≤ 10) (s_11 : im_S) (hT_11 : tI s_11) (hF_11 : fr [(1, 7), (1, 8), (1, 9), (1, 10)] s0 s_11) (w11_1_4 : Int) (w11_1_4l : 0 ≤ w11_1_4) (w11_1_4h : w11_1_4 ≤ 80) (w11_1_4e : s_11.1 1 4 = w11_1_4), (10 + 1 - q11_l2) ≤ (n : Int) → ir gG rm_P L ys (d + 3) rm_p_X4_fillCells (11, [(0, (2, ((1 : Nat) : Int))), (1, (0, q11_l1)), (2, (0, q11_l2))], [], s_11) (fun r : im_Re => r.1 = none ∧ (tI r.2 ∧ fr [(1, 7), (1, 8), (1, 9), (1, 10)] s0 r.2)) := by
    intro n
    induction n with
    | zero => intro q11_l1 q11_l1l q11_l1h q11_l2 q11_l2l q11_l2h s_11 hT_11 hF_11 w11_1_4 w11_1_4l w11_1_4h w11_1_4e hr; exfalso; omega
    | succ n ih11 =>
      intro q11_l1 q11_l1l q11_l1h q11_l2 q11_l2l q11_l2h s_11 hT_11 hF_11 w11_1_4 w11_1_4l w11_1_4h w11_1_4e hr
      refine ir_l (pc' := 12) rfl rfl rfl rfl rfl rfl ?_
      refine ir_l (pc' := 13) rfl rfl rfl rfl rfl rfl ?_
      refine ir_tgr (pc' := 16) rfl rfl rfl tf_1_0 tsk_1 hT_11 (fun b88 b88e b88k => ?_)
      obtain rfl := tsg_2 b88k
      refine ir_tgi (pc' := 19) rfl rfl rfl tf_2_11 tsk_2 hT_11 (fun z89 z89e z89l z89h => ?_)
      refine ir_c_ge (pt := 33) (pc' := 22) rfl rfl rfl (fun c90 => ?_) (fun c90 => ?_)
      · refine ir_l (pc' := 34) rfl rfl rfl rfl rfl rfl ?_
        refine ir_k (pc' := 35) (v := (0, 0)) rfl rfl rfl (fun _ => rfl) ?_
        refine ir_tpi (pc' := 38) rfl rfl rfl tf_1_7 rfl tsk_1 hT_11 rfl (by omega) (by omega) (fun s91 hT91 e91 g91 r91 => ?_)
        have hF91 := fr_put (k := 1) hF_11 (by decide) tsk_1 g91 r91
        have e92 : s91.1 1 4 = w11_1_4 := (g91 1 4 (fun z => absurd z.2 (by decide))).trans w11_1_4e
        have e93 : s91.1 1 0 = ((2 : Nat) : Int) := (g91 1 0 (fun z => absurd z.2 (by decide))).trans b88e
        have e94 : s91.1 2 11 = z89 := (g91 2 11 (fun z => absurd z.2 (by decide))).trans z89e
        refine ir_l (pc' := 39) rfl rfl rfl rfl rfl rfl ?_
        refine ir_k (pc' := 40) (v := (0, 0)) rfl rfl rfl (fun _ => rfl) ?_
        refine ir_tpi (pc' := 43) rfl rfl rfl tf_1_10 rfl tsk_1 hT91 rfl (by omega) (by omega) (fun s95 hT95 e95 g95 r95 => ?_)
        have hF95 := fr_put (k := 1) hF91 (by decide) tsk_1 g95 r95
        have e96 : s95.1 1 4 = w11_1_4 := (g95 1 4 (fun z => absurd z.2 (by decide))).trans e92
        have e97 : s95.1 1 0 = ((2 : Nat) : Int) := (g95 1 0 (fun z => absurd z.2 (by decide))).trans e93
        have e98 : s95.1 2 11 = z89 := (g95 2 11 (fun z => absurd z.2 (by decide))).trans e94
        have e99 : s95.1 1 7 = 0 := (g95 1 7 (fun z => absurd z.2 (by decide))).trans e91
        refine ir_l (pc' := 44) rfl rfl rfl rfl rfl rfl ?_
        refine ir_k (pc' := 46) (v := (0, (-2))) rfl rfl rfl (fun _ => rfl) ?_
        refine ir_tpi (pc' := 49) rfl rfl rfl tf_1_8 rfl tsk_1 hT95 rfl (by omega) (by omega) (fun s100 hT100 e100 g100 r100 => ?_)
        have hF100 := fr_put (k := 1) hF95 (by decide) tsk_1 g100 r100
        have e101 : s100.1 1 4 = w11_1_4 := (g100 1 4 (fun z => absurd z.2 (by decide))).trans e96
        have e102 : s100.1 1 0 = ((2 : Nat) : Int) := (g100 1 0 (fun z => absurd z.2 (by decide))).trans e97
        have e103 : s100.1 2 11 = z89 := (g100 2 11 (fun z => absurd z.2 (by decide))).trans e98
        have e104 : s100.1 1 7 = 0 := (g100 1 7 (fun z => absurd z.2 (by decide))).trans e99
        have e105 : s100.1 1 10 = 0 := (g100 1 10 (fun z => absurd z.2 (by decide))).trans e95
        refine ir_l (pc' := 50) rfl rfl rfl rfl rfl rfl ?_
        refine ir_k (pc' := 52) (v := (0, (-2))) rfl rfl rfl (fun _ => rfl) ?_
        refine ir_tpi (pc' := 55) rfl rfl rfl tf_1_9 rfl tsk_1 hT100 rfl (by omega) (by omega) (fun s106 hT106 e106 g106 r106 => ?_)
        have hF106 := fr_put (k := 1) hF100 (by decide) tsk_1 g106 r106
        have e107 : s106.1 1 4 = w11_1_4 := (g106 1 4 (fun z => absurd z.2 (by decide))).trans e101
        have e108 : s106.1 1 0 = ((2 : Nat) : Int) := (g106 1 0 (fun z => absurd z.2 (by decide))).trans e102
        have e109 : s106.1 2 11 = z89 := (g106 2 11 (fun z => absurd z.2 (by decide))).trans e103
        have e110 : s106.1 1 7 = 0 := (g106 1 7 (fun z => absurd z.2 (by decide))).trans e104
        have e111 : s106.1 1 10 = 0 := (g106 1 10 (fun z => absurd z.2 (by decide))).trans e105
        have e112 : s106.1 1 8 = (-2) := (g106 1 8 (fun z => absurd z.2 (by decide))).trans e100
        refine ir_k (pc' := 56) (v := (0, 0)) rfl rfl rfl (fun _ => rfl) ?_
        refine ir_s (pc' := 57) rfl rfl rfl rfl rfl rfl ?_
        refine ir_w [(0, (2, ((1 : Nat) : Int))), (1, (0, q11_l1)), (2, (0, 0))] ⟨rfl, rfl, rfl, trivial⟩ ?_
        exact J57 _ (q11_l1) (by omega) (by omega) (0) (by omega) (by omega) s106 hT106 hF106 e108 (w11_1_4) (by omega) (by omega) e107 (0) (by omega) (by omega) e110 ((-2)) (by omega) (by omega) e112 ((-2)) (by omega) (by omega) e106 (0) (by omega) (by omega) e111 (z89) (by omega) (by omega) e109 (Int.self_le_toNat _)
      · refine ir_l (pc' := 23) rfl rfl rfl rfl rfl rfl ?_
        refine ir_l (pc' := 24) rfl rfl rfl rfl rfl rfl ?_
        refine ir_cVV (pc' := 27) rfl rfl rfl rfl rfl (Nat.le_of_ble_eq_true rfl) oo_X4_fillSigns (gG_at tsk_1) (sf_fillSigns4 L ys d s_11 hT_11 (q11_l2) (by omega) (by omega) ) (fun s114 hr => ?_)
        obtain ⟨hT114, hG114⟩ := hr
        have hF114 := fr_trans hF_11 hG114 (by decide)
        have e115 : s114.1 1 4 = w11_1_4 := (hG114.1 _ _ tsk_1 4 (by decide)).trans w11_1_4e
        have e116 : s114.1 1 0 = ((2 : Nat) : Int) := (hG114.1 _ _ tsk_1 0 (by decide)).trans b88e
        have e117 : s114.1 2 11 = z89 := (hG114.1 _ _ tsk_2 11 (by decide)).trans z89e
        refine ir_inc (pc' := 30) rfl rfl rfl rfl rfl (by omega) (by omega) ?_
        refine ir_goto (pc' := 11) rfl rfl ?_
        refine ir_w [(0, (2, ((1 : Nat) : Int))), (1, (0, q11_l1)), (2, (0, (q11_l2 + 1)))] ⟨rfl, rfl, rfl, trivial⟩ ?_
        exact ih11 (q11_l1) (by omega) (by omega) ((q11_l2 + 1)) (by omega) (by omega) s114 hT114 hF114 (w11_1_4) (by omega) (by omega) e115 (by omega)
  refine ir_k (pc' := 1) (v := (0, 2)) rfl rfl rfl (fun _ => rfl) ?_
  refine ir_l (pc' := 2) rfl rfl rfl rfl rfl rfl ?_
  refine ir_tgi (pc' := 5) rfl rfl rfl tf_1_4 tsk_1 hT0 (fun z118 z118e z118l z118h => ?_)
  refine ir_mul (pc' := 6) rfl rfl (by omega) (by omega) ?_
  refine ir_k (pc' := 7) (v := (0, 1)) rfl rfl rfl (fun _ => rfl) ?_
  refine ir_add (pc' := 8) rfl rfl (by omega) (by omega) ?_
  refine ir_s (pc' := 9) rfl rfl rfl rfl rfl rfl ?_
  refine ir_k (pc' := 10) (v := (0, 0)) rfl rfl rfl (fun _ => rfl) ?_
  refine ir_s (pc' := 11) rfl rfl rfl rfl rfl rfl ?_
  refine ir_w [(0, (2, ((1 : Nat) : Int))), (1, (0, ((2 * z118) + 1))), (2, (0, 0))] ⟨rfl, rfl, rfl, trivial⟩ ?_
  exact J11 _ (((2 * z118) + 1)) (by omega) (by omega) (0) (by omega) (by omega) s0 hT0 hF0 (z118) (by omega) (by omega) z118e (Int.self_le_toNat _)
