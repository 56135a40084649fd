/-! WALKS OF THE CLASS'S METHODS, by program -/
theorem sf_isAtom9 (L : Nat) (ys : Nat → Int32) (d : Nat) (s0 : im_S) (hT0 : tI s0) (x1 : Int) (x1l : -2147483648 ≤ x1) (x1h : x1 ≤ 2147483647) : icI gG rm_P L ys 0 (d + 1) 214 [(2, ((0 : Nat) : Int)), (0, x1)] s0 (fun z s => tI s ∧ fr [] s0 s ∧ 0 ≤ z ∧ z ≤ 1 ∧ (z = 0 ∨ (0 ≤ x1 ∧ x1 ≤ 9))) := by
  refine ic_startM (M := rm_p_X9_isAtom) om_X9_isAtom (Nat.le_of_ble_eq_true rfl) ?_
  refine ir_w [(0, (2, ((0 : Nat) : Int))), (1, (0, x1))] ⟨rfl, rfl, trivial⟩ ?_
  have hF0 := fr_refl [] s0
  have J27 : ∀ (q27_s0 : Int) (q27_s0l : 0 ≤ q27_s0) (q27_s0h : q27_s0 ≤ 1) (s_27 : im_S) (hT_27 : tI s_27) (hF_27 : fr [] s0 s_27) (w27_0_3 : Int) (w27_0_3l : 0 ≤ w27_0_3) (w27_0_3h : w27_0_3 ≤ 1) (w27_0_3e : s_27.1 0 3 = w27_0_3) (i27_0 : (q27_s0 = 0 ∨ (0 ≤ x1 ∧ x1 ≤ 9))), ir gG rm_P L ys d rm_p_X9_isAtom (27, [], [(0, q27_s0)], s_27) (fun r : im_Re => ∃ z, r.1 = some (0, z) ∧ (tI r.2 ∧ fr [] s0 r.2 ∧ 0 ≤ z ∧ z ≤ 1 ∧ (z = 0 ∨ (0 ≤ x1 ∧ x1 ≤ 9)))) := by
    intro q27_s0 q27_s0l q27_s0h s_27 hT_27 hF_27 w27_0_3 w27_0_3l w27_0_3h w27_0_3e i27_0
    exact ir_zret rfl rfl (by omega) ⟨_, rfl, hT_27, hF_27, by omega, by omega, (by first | omega | (dsimp only; omega))⟩
  have J26 : ∀ (s_26 : im_S) (hT_26 : tI s_26) (hF_26 : fr [] s0 s_26) (w26_0_3 : Int) (w26_0_3l : 0 ≤ w26_0_3) (w26_0_3h : w26_0_3 ≤ 1) (w26_0_3e : s_26.1 0 3 = w26_0_3), ir gG rm_P L ys d rm_p_X9_isAtom (26, [], [], s_26) (fun r : im_Re => ∃ z, r.1 = some (0, z) ∧ (tI r.2 ∧ fr [] s0 r.2 ∧ 0 ≤ z ∧ z ≤ 1 ∧ (z = 0 ∨ (0 ≤ x1 ∧ x1 ≤ 9)))) := by
    intro s_26 hT_26 hF_26 w26_0_3 w26_0_3l w26_0_3h w26_0_3e
    refine ir_k (pc' := 27) (v := (0, 0)) rfl rfl rfl (fun _ => rfl) ?_
    refine ir_w [] trivial ?_
    exact J27 (0) (by omega) (by omega) s_26 hT_26 hF_26 (w26_0_3) (by omega) (by omega) w26_0_3e (by omega)
  refine ir_l (pc' := 1) rfl rfl rfl rfl rfl rfl ?_
  refine ir_tgi (pc' := 4) rfl rfl rfl tf_0_3 tsk_0 hT0 (fun z1 z1e z1l z1h => ?_)
  refine ir_z_eq (pt := 26) (pc' := 7) rfl rfl rfl (fun c2 => ?_) (fun c2 => ?_)
  · refine ir_w [] trivial ?_
    exact J26 s0 hT0 hF0 (z1) (by omega) (by omega) z1e
  · refine ir_l (pc' := 8) rfl rfl rfl rfl rfl rfl ?_
    refine ir_z_lt (pt := 26) (pc' := 11) rfl rfl rfl (fun c3 => ?_) (fun c3 => ?_)
    · refine ir_w [] trivial ?_
      exact J26 s0 hT0 hF0 (z1) (by omega) (by omega) z1e
    · refine ir_l (pc' := 12) rfl rfl rfl rfl rfl rfl ?_
      refine ir_l (pc' := 13) rfl rfl rfl rfl rfl rfl ?_
      refine ir_tgr (pc' := 16) rfl rfl rfl tf_0_5 tsk_0 hT0 (fun b4 b4e b4k => ?_)
      obtain rfl := tsg_2 b4k
      refine ir_tgi (pc' := 19) rfl rfl rfl tf_2_11 tsk_2 hT0 (fun z5 z5e z5l z5h => ?_)
      refine ir_c_ge (pt := 26) (pc' := 22) rfl rfl rfl (fun c6 => ?_) (fun c6 => ?_)
      · refine ir_w [] trivial ?_
        exact J26 s0 hT0 hF0 (z1) (by omega) (by omega) z1e
      · refine ir_k (pc' := 23) (v := (0, 1)) rfl rfl rfl (fun _ => rfl) ?_
        refine ir_goto (pc' := 27) rfl rfl ?_
        refine ir_w [] trivial ?_
        exact J27 (1) (by omega) (by omega) s0 hT0 hF0 (z1) (by omega) (by omega) z1e (by omega)
theorem sf_atom9 (L : Nat) (ys : Nat → Int32) (d : Nat) (s0 : im_S) (hT0 : tI s0) (x1 : Int) (x1l : -2147483648 ≤ x1) (x1h : x1 ≤ 2147483647) (x2 : Int) (x2l : -2147483648 ≤ x2) (x2h : x2 ≤ 2147483647) : icI gG rm_P L ys 0 (d + 4) 206 [(2, ((0 : Nat) : Int)), (0, x1), (0, x2)] s0 (fun z s => tI s ∧ fr [] s0 s ∧ -2147483648 ≤ z ∧ z ≤ 2147483647) := by
  refine ic_startM (M := rm_p_X9_atom) om_X9_atom (Nat.le_of_ble_eq_true rfl) ?_
  refine ir_w [(0, (2, ((0 : Nat) : Int))), (1, (0, x1)), (2, (0, x2))] ⟨rfl, rfl, rfl, trivial⟩ ?_
  have hF0 := fr_refl [] s0
  have J116 : ∀ (q116_s0 : Int) (q116_s0l : -2147483648 ≤ q116_s0) (q116_s0h : q116_s0 ≤ 2147483647) (s_116 : im_S) (hT_116 : tI s_116) (hF_116 : fr [] s0 s_116) (w116_0_4e : s_116.1 0 4 = ((1 : Nat) : Int)) (w116_0_5e : s_116.1 0 5 = ((2 : Nat) : Int)) (w116_2_9e : s_116.1 2 9 = ((60 : Nat) : Int)), ir gG rm_P L ys (d + 3) rm_p_X9_atom (116, [], [(0, q116_s0)], s_116) (fun r : im_Re => ∃ z, r.1 = some (0, z) ∧ (tI r.2 ∧ fr [] s0 r.2 ∧ -2147483648 ≤ z ∧ z ≤ 2147483647)) := by
    intro q116_s0 q116_s0l q116_s0h s_116 hT_116 hF_116 w116_0_4e w116_0_5e w116_2_9e
    exact ir_iret rfl rfl ⟨_, rfl, hT_116, hF_116, by omega, by omega⟩
  have J67 : ∀ (q67_s0 : Int) (q67_s0l : -2 ≤ q67_s0) (q67_s0h : q67_s0 ≤ 8) (s_67 : im_S) (hT_67 : tI s_67) (hF_67 : fr [] s0 s_67) (w67_0_5e : s_67.1 0 5 = ((2 : Nat) : Int)) (w67_2_9e : s_67.1 2 9 = ((60 : Nat) : Int)), ir gG rm_P L ys (d + 3) rm_p_X9_atom (67, [], [(0, q67_s0)], s_67) (fun r : im_Re => ∃ z, r.1 = some (0, z) ∧ (tI r.2 ∧ fr [] s0 r.2 ∧ -2147483648 ≤ z ∧ z ≤ 2147483647)) := by
    intro q67_s0 q67_s0l q67_s0h s_67 hT_67 hF_67 w67_0_5e w67_2_9e
    exact ir_iret rfl rfl ⟨_, rfl, hT_67, hF_67, by omega, by omega⟩
  have J18 : ∀ (s_18 : im_S) (hT_18 : tI s_18) (hF_18 : fr [] s0 s_18), ir gG rm_P L ys (d + 3) rm_p_X9_atom (18, [], [], s_18) (fun r : im_Re => ∃ z, r.1 = some (0, z) ∧ (tI r.2 ∧ fr [] s0 r.2 ∧ -2147483648 ≤ z ∧ z ≤ 2147483647)) := by
    intro s_18 hT_18 hF_18
    refine ir_k (pc' := 20) (v := (0, (-2000000000))) rfl rfl rfl (fun _ => rfl) ?_
    exact ir_iret rfl rfl ⟨_, rfl, hT_18, hF_18, by omega, by omega⟩
  refine ir_l (pc' := 1) rfl rfl rfl rfl rfl rfl ?_
  refine ir_l (pc' := 2) rfl rfl rfl rfl rfl rfl ?_
  refine ir_cVI (pc' := 5) rfl rfl rfl rfl rfl (Nat.le_of_ble_eq_true rfl) oo_X9_isAtom (gG_at tsk_0) (sf_isAtom9 L ys (d + 2) s0 hT0 (x1) (by omega) (by omega) ) (fun z1 s2 hr => ?_)
  obtain ⟨hT2, hG2, z1l, z1h, p2_0⟩ := hr
  have hF2 := fr_trans hF0 hG2 (by decide)
  refine ir_z_eq (pt := 18) (pc' := 8) rfl rfl rfl (fun c3 => ?_) (fun c3 => ?_)
  · refine ir_w [] trivial ?_
    exact J18 s2 hT2 hF2
  · refine ir_l (pc' := 9) rfl rfl rfl rfl rfl rfl ?_
    refine ir_z_lt (pt := 18) (pc' := 12) rfl rfl rfl (fun c4 => ?_) (fun c4 => ?_)
    · refine ir_w [] trivial ?_
      exact J18 s2 hT2 hF2
    · refine ir_l (pc' := 13) rfl rfl rfl rfl rfl rfl ?_
      refine ir_k (pc' := 15) (v := (0, 12)) rfl rfl rfl (fun _ => rfl) ?_
      refine ir_c_le (pt := 21) (pc' := 18) rfl rfl rfl (fun c5 => ?_) (fun c5 => ?_)
      · refine ir_l (pc' := 22) rfl rfl rfl rfl rfl rfl ?_
        refine ir_tgr (pc' := 25) rfl rfl rfl tf_0_5 tsk_0 hT2 (fun b6 b6e b6k => ?_)
        obtain rfl := tsg_2 b6k
        refine ir_tgr (pc' := 28) rfl rfl rfl tf_2_9 tsk_2 hT2 (fun b7 b7e b7k => ?_)
        obtain rfl := tsg_7 b7k
        refine ir_l (pc' := 29) rfl rfl rfl rfl rfl rfl ?_
        refine ir_taa (pc' := 30) (k2 := 4) rfl rfl te_7 (by decide) tsk_7 hT2 (by omega) (by omega) (fun b8 b8k => ?_)
        refine ir_s (pc' := 31) rfl rfl rfl rfl rfl rfl ?_
        refine ir_l (pc' := 32) rfl rfl rfl rfl rfl rfl ?_
        refine ir_k (pc' := 34) (v := (0, 8)) rfl rfl rfl (fun _ => rfl) ?_
        refine ir_c_gt (pt := 45) (pc' := 37) rfl rfl rfl (fun c9 => ?_) (fun c9 => ?_)
        · refine ir_l (pc' := 46) rfl rfl rfl rfl rfl rfl ?_
          refine ir_k (pc' := 48) (v := (0, 9)) rfl rfl rfl (fun _ => rfl) ?_
          refine ir_c_ne (pt := 68) (pc' := 51) rfl rfl rfl (fun c10 => ?_) (fun c10 => ?_)
          · refine ir_l (pc' := 69) rfl rfl rfl rfl rfl rfl ?_
            refine ir_k (pc' := 71) (v := (0, 10)) rfl rfl rfl (fun _ => rfl) ?_
            refine ir_c_ne (pt := 84) (pc' := 74) rfl rfl rfl (fun c11 => ?_) (fun c11 => ?_)
            · refine ir_l (pc' := 85) rfl rfl rfl rfl rfl rfl ?_
              refine ir_tgr (pc' := 88) rfl rfl rfl tf_0_4 tsk_0 hT2 (fun b12 b12e b12k => ?_)
              obtain rfl := tsg_1 b12k
              refine ir_l (pc' := 89) rfl rfl rfl rfl rfl rfl ?_
              refine ir_cVI (pc' := 92) rfl rfl rfl rfl rfl (Nat.le_of_ble_eq_true rfl) oo_X4_rootsOf (gG_at tsk_1) (sf_rootsOf4 L ys d s2 hT2 (x1) (by omega) (by omega) ) (fun z13 s14 hr => ?_)
              obtain ⟨hT14, hG14, z13l, z13h⟩ := hr
              have hF14 := fr_trans hF2 hG14 (by decide)
              have e15 : s14.1 0 5 = ((2 : Nat) : Int) := (hG14.1 _ _ tsk_0 5 (by decide)).trans b6e
              have e16 : s14.1 2 9 = ((60 : Nat) : Int) := (hG14.1 _ _ tsk_2 9 (by decide)).trans b7e
              have e17 : s14.1 0 4 = ((1 : Nat) : Int) := (hG14.1 _ _ tsk_0 4 (by decide)).trans b12e
              refine ir_s (pc' := 94) rfl rfl rfl rfl rfl rfl ?_
              refine ir_l (pc' := 95) rfl rfl rfl rfl rfl rfl ?_
              refine ir_k (pc' := 97) (v := (0, 11)) rfl rfl rfl (fun _ => rfl) ?_
              refine ir_c_ne (pt := 105) (pc' := 100) rfl rfl rfl (fun c18 => ?_) (fun c18 => ?_)
              · refine ir_l (pc' := 106) rfl rfl rfl rfl rfl rfl ?_
                refine ir_tgr (pc' := 109) rfl rfl rfl tf_0_7 tsk_0 hT14 (fun b19 b19e b19k => ?_)
                obtain rfl := tsg_11 b19k
                refine ir_l (pc' := 110) rfl rfl rfl rfl rfl rfl ?_
                refine ir_cVI (pc' := 113) rfl rfl rfl rfl rfl (Nat.le_of_ble_eq_true rfl) oo_X0_distinctRoots (gG_at tsk_11) (sf_distinctRoots0 L ys (d + 1) s14 hT14 (x1) (by omega) (by omega) ) (fun z20 s21 hr => ?_)
                obtain ⟨hT21, hG21, z20l, z20h⟩ := hr
                have hF21 := fr_trans hF14 hG21 (by decide)
                have e22 : s21.1 0 5 = ((2 : Nat) : Int) := (hG21.1 _ _ tsk_0 5 (by decide)).trans e15
                have e23 : s21.1 2 9 = ((60 : Nat) : Int) := (hG21.1 _ _ tsk_2 9 (by decide)).trans e16
                have e24 : s21.1 0 4 = ((1 : Nat) : Int) := (hG21.1 _ _ tsk_0 4 (by decide)).trans e17
                have e25 : s21.1 0 7 = ((84 : Nat) : Int) := (hG21.1 _ _ tsk_0 7 (by decide)).trans b19e
                refine ir_l (pc' := 115) rfl rfl rfl rfl rfl rfl ?_
                refine ir_iiA (pc' := 116) rfl rfl rfl rfl (fun z26 z26l z26h => ?_)
                refine ir_w [] trivial ?_
                exact J116 (z26) (by omega) (by omega) s21 hT21 hF21 e24 e22 e23
              · refine ir_l (pc' := 102) rfl rfl rfl rfl rfl rfl ?_
                refine ir_goto (pc' := 116) rfl rfl ?_
                refine ir_w [] trivial ?_
                exact J116 (z13) (by omega) (by omega) s14 hT14 hF14 e17 e15 e16
            · refine ir_l (pc' := 75) rfl rfl rfl rfl rfl rfl ?_
              refine ir_getR (pc' := 78) rfl rfl rfl (gG_at tsk_0) rfl b6e ?_
              refine ir_tgr (pc' := 81) rfl rfl rfl tf_2_10 tsk_2 hT2 (fun b27 b27e b27k => ?_)
              obtain rfl := tsg_8 b27k
              refine ir_l (pc' := 82) rfl rfl rfl rfl rfl rfl ?_
              refine ir_tia (pc' := 83) rfl rfl te_8 (by decide) tsk_8 hT2 (by omega) (by omega) (fun z28 z28e z28l z28h => ?_)
              clear z28e
              exact ir_iret rfl rfl ⟨_, rfl, hT2, hF2, by omega, by omega⟩
          · refine ir_l (pc' := 52) rfl rfl rfl rfl rfl rfl ?_
            refine ir_tgi (pc' := 55) rfl rfl rfl tf_4_0 b8k hT2 (fun z29 z29e z29l z29h => ?_)
            refine ir_z_ge (pt := 63) (pc' := 58) rfl rfl rfl (fun c30 => ?_) (fun c30 => ?_)
            · refine ir_l (pc' := 64) rfl rfl rfl rfl rfl rfl ?_
              refine ir_getI (pc' := 67) rfl rfl rfl (gG_at b8k) rfl (by decide) (by decide) z29e (by omega) (by omega) ?_
              refine ir_w [] trivial ?_
              exact J67 (z29) (by omega) (by omega) s2 hT2 hF2 b6e b7e
            · refine ir_k (pc' := 60) (v := (0, (-2))) rfl rfl rfl (fun _ => rfl) ?_
              refine ir_goto (pc' := 67) rfl rfl ?_
              refine ir_w [] trivial ?_
              exact J67 ((-2)) (by omega) (by omega) s2 hT2 hF2 b6e b7e
        · refine ir_l (pc' := 38) rfl rfl rfl rfl rfl rfl ?_
          refine ir_tgr (pc' := 41) rfl rfl rfl tf_4_1 b8k hT2 (fun b31 b31e b31k => ?_)
          refine ir_l (pc' := 42) rfl rfl rfl rfl rfl rfl ?_
          refine ir_tla (pc' := 43) rfl rfl te_6 (by decide) b31k hT2 (by omega) (by omega) (fun z32 z32e z32l z32h => ?_)
          clear z32e
          refine ir_j1A (pc' := 44) rfl rfl rfl rfl (fun z33 z33e z33l z33h => ?_)
          clear z33e
          exact ir_iret rfl rfl ⟨_, rfl, hT2, hF2, by omega, by omega⟩
      · refine ir_w [] trivial ?_
        exact J18 s2 hT2 hF2
theorem sf_isFraction9 (L : Nat) (ys : Nat → Int32) (d : Nat) (s0 : im_S) (hT0 : tI s0) (x0 : Int) (x0l : -2147483648 ≤ x0) (x0h : x0 ≤ 2147483647) (x1 : Int) (x1l : -2147483648 ≤ x1) (x1h : x1 ≤ 2147483647) : icI gG rm_P L ys 0 (d + 1) 216 [(0, x0), (0, x1)] s0 (fun z s => tI s ∧ fr [] s0 s ∧ 0 ≤ z ∧ z ≤ 1 ∧ (z = 0 ∨ 1 ≤ x1)) := by
  refine ic_startM (M := rm_p_X9_isFraction) om_X9_isFraction (Nat.le_of_ble_eq_true rfl) ?_
  refine ir_w [(0, (0, x0)), (1, (0, x1))] ⟨rfl, rfl, trivial⟩ ?_
  have hF0 := fr_refl [] s0
  have J37 : ∀ (q37_s0 : Int) (q37_s0l : 0 ≤ q37_s0) (q37_s0h : q37_s0 ≤ 1) (s_37 : im_S) (hT_37 : tI s_37) (hF_37 : fr [] s0 s_37) (i37_0 : (q37_s0 = 0 ∨ 1 ≤ x1)), ir gG rm_P L ys d rm_p_X9_isFraction (37, [], [(0, q37_s0)], s_37) (fun r : im_Re => ∃ z, r.1 = some (0, z) ∧ (tI r.2 ∧ fr [] s0 r.2 ∧ 0 ≤ z ∧ z ≤ 1 ∧ (z = 0 ∨ 1 ≤ x1))) := by
    intro q37_s0 q37_s0l q37_s0h s_37 hT_37 hF_37 i37_0
    exact ir_zret rfl rfl (by omega) ⟨_, rfl, hT_37, hF_37, by omega, by omega, (by first | omega | (dsimp only; omega))⟩
  have J36 : ∀ (s_36 : im_S) (hT_36 : tI s_36) (hF_36 : fr [] s0 s_36), ir gG rm_P L ys d rm_p_X9_isFraction (36, [], [], s_36) (fun r : im_Re => ∃ z, r.1 = some (0, z) ∧ (tI r.2 ∧ fr [] s0 r.2 ∧ 0 ≤ z ∧ z ≤ 1 ∧ (z = 0 ∨ 1 ≤ x1))) := by
    intro s_36 hT_36 hF_36
    refine ir_k (pc' := 37) (v := (0, 0)) rfl rfl rfl (fun _ => rfl) ?_
    refine ir_w [] trivial ?_
    exact J37 (0) (by omega) (by omega) s_36 hT_36 hF_36 (by omega)
  refine ir_l (pc' := 1) rfl rfl rfl rfl rfl rfl ?_
  refine ir_k (pc' := 2) (v := (0, 1)) rfl rfl rfl (fun _ => rfl) ?_
  refine ir_c_lt (pt := 36) (pc' := 5) rfl rfl rfl (fun c1 => ?_) (fun c1 => ?_)
  · refine ir_w [] trivial ?_
    exact J36 s0 hT0 hF0
  · refine ir_l (pc' := 6) rfl rfl rfl rfl rfl rfl ?_
    refine ir_i2l (pc' := 7) rfl rfl (by omega) (by omega) ?_
    refine ir_k (pc' := 10) (v := (1, 1000000000)) rfl rfl rfl (fun _ => rfl) ?_
    refine ir_lcmp (pc' := 11) rfl rfl (by omega) (by omega) (by omega) (by omega) (fun z2 z2c => ?_)
    refine ir_z_gt (pt := 36) (pc' := 14) rfl rfl rfl (fun c3 => ?_) (fun c3 => ?_)
    · refine ir_w [] trivial ?_
      exact J36 s0 hT0 hF0
    · refine ir_l (pc' := 15) rfl rfl rfl rfl rfl rfl ?_
      refine ir_i2l (pc' := 16) rfl rfl (by omega) (by omega) ?_
      refine ir_k (pc' := 19) (v := (1, (-1000000000))) rfl rfl rfl (fun _ => rfl) ?_
      refine ir_lcmp (pc' := 20) rfl rfl (by omega) (by omega) (by omega) (by omega) (fun z4 z4c => ?_)
      refine ir_z_lt (pt := 36) (pc' := 23) rfl rfl rfl (fun c5 => ?_) (fun c5 => ?_)
      · refine ir_w [] trivial ?_
        exact J36 s0 hT0 hF0
      · refine ir_l (pc' := 24) rfl rfl rfl rfl rfl rfl ?_
        refine ir_i2l (pc' := 25) rfl rfl (by omega) (by omega) ?_
        refine ir_k (pc' := 28) (v := (1, 1000000000)) rfl rfl rfl (fun _ => rfl) ?_
        refine ir_lcmp (pc' := 29) rfl rfl (by omega) (by omega) (by omega) (by omega) (fun z6 z6c => ?_)
        refine ir_z_gt (pt := 36) (pc' := 32) rfl rfl rfl (fun c7 => ?_) (fun c7 => ?_)
        · refine ir_w [] trivial ?_
          exact J36 s0 hT0 hF0
        · refine ir_k (pc' := 33) (v := (0, 1)) rfl rfl rfl (fun _ => rfl) ?_
          refine ir_goto (pc' := 37) rfl rfl ?_
          refine ir_w [] trivial ?_
          exact J37 (1) (by omega) (by omega) s0 hT0 hF0 (by omega)
theorem sf_cellOf9 (L : Nat) (ys : Nat → Int32) (d : Nat) (s0 : im_S) (hT0 : tI s0) (x1 : Int) (x1l : -2147483648 ≤ x1) (x1h : x1 ≤ 2147483647) (x2 : Int) (x2l : -2147483648 ≤ x2) (x2h : x2 ≤ 2147483647) : icI gG rm_P L ys 0 (d + 7) 207 [(2, ((0 : Nat) : Int)), (0, x1), (0, x2)] s0 (fun z s => tI s ∧ fr [(19, 1), (19, 2), (25, 1), (25, 2)] s0 s ∧ -1 ≤ z ∧ z ≤ 160) := by
  refine ic_startM (M := rm_p_X9_cellOf) om_X9_cellOf (Nat.le_of_ble_eq_true rfl) ?_
  refine ir_w [(0, (2, ((0 : Nat) : Int))), (1, (0, x1)), (2, (0, x2))] ⟨rfl, rfl, rfl, trivial⟩ ?_
  have hF0 := fr_refl [(19, 1), (19, 2), (25, 1), (25, 2)] s0
  have J15 : ∀ (s_15 : im_S) (hT_15 : tI s_15) (hF_15 : fr [(19, 1), (19, 2), (25, 1), (25, 2)] s0 s_15) (w15_0_3 : Int) (w15_0_3l : 0 ≤ w15_0_3) (w15_0_3h : w15_0_3 ≤ 1) (w15_0_3e : s_15.1 0 3 = w15_0_3), ir gG rm_P L ys (d + 6) rm_p_X9_cellOf (15, [], [], s_15) (fun r : im_Re => ∃ z, r.1 = some (0, z) ∧ (tI r.2 ∧ fr [(19, 1), (19, 2), (25, 1), (25, 2)] s0 r.2 ∧ -1 ≤ z ∧ z ≤ 160)) := by
    intro s_15 hT_15 hF_15 w15_0_3 w15_0_3l w15_0_3h w15_0_3e
    refine ir_k (pc' := 16) (v := (0, (-1))) rfl rfl rfl (fun _ => rfl) ?_
    exact ir_iret rfl rfl ⟨_, rfl, hT_15, hF_15, by omega, by omega⟩
  refine ir_l (pc' := 1) rfl rfl rfl rfl rfl rfl ?_
  refine ir_tgi (pc' := 4) rfl rfl rfl tf_0_3 tsk_0 hT0 (fun z1 z1e z1l z1h => ?_)
  refine ir_z_eq (pt := 15) (pc' := 7) rfl rfl rfl (fun c2 => ?_) (fun c2 => ?_)
  · refine ir_w [] trivial ?_
    exact J15 s0 hT0 hF0 (z1) (by omega) (by omega) z1e
  · refine ir_l (pc' := 8) rfl rfl rfl rfl rfl rfl ?_
    refine ir_l (pc' := 9) rfl rfl rfl rfl rfl rfl ?_
    refine ir_cSI (pc' := 12) rfl rfl rfl rfl rfl rfl (Nat.le_of_ble_eq_true rfl) (sf_isFraction9 L ys (d + 5) s0 hT0 (x1) (by omega) (by omega) (x2) (by omega) (by omega) ) (fun z3 s4 hr => ?_)
    obtain ⟨hT4, hG4, z3l, z3h, p4_0⟩ := hr
    have hF4 := fr_trans hF0 hG4 (by decide)
    have e5 : s4.1 0 3 = z1 := (hG4.1 _ _ tsk_0 3 (by decide)).trans z1e
    refine ir_z_ne (pt := 17) (pc' := 15) rfl rfl rfl (fun c6 => ?_) (fun c6 => ?_)
    · refine ir_l (pc' := 18) rfl rfl rfl rfl rfl rfl ?_
      refine ir_tgr (pc' := 21) rfl rfl rfl tf_0_4 tsk_0 hT4 (fun b7 b7e b7k => ?_)
      obtain rfl := tsg_1 b7k
      refine ir_l (pc' := 22) rfl rfl rfl rfl rfl rfl ?_
      refine ir_l (pc' := 23) rfl rfl rfl rfl rfl rfl ?_
      refine ir_cSI (pc' := 26) rfl rfl rfl rfl rfl rfl (Nat.le_of_ble_eq_true rfl) (sf_fdI L ys (d + 5) s4 (x1) (by omega) (by omega) (x2) (by omega) (by omega)) (fun z8 s9 hr => ?_)
      obtain ⟨rfl, z8p0, z8p1⟩ := hr
      refine ir_i2l (pc' := 27) rfl rfl (by omega) (by omega) ?_
      refine ir_l (pc' := 28) rfl rfl rfl rfl rfl rfl ?_
      refine ir_l (pc' := 29) rfl rfl rfl rfl rfl rfl ?_
      refine ir_cSI (pc' := 32) rfl rfl rfl rfl rfl rfl (Nat.le_of_ble_eq_true rfl) (sf_fmI L ys (d + 5) s4 (x1) (by omega) (by omega) (x2) (by omega) (by omega)) (fun z10 s11 hr => ?_)
      obtain ⟨rfl, z10p0, z10p1⟩ := hr
      refine ir_i2l (pc' := 33) rfl rfl (by omega) (by omega) ?_
      refine ir_l (pc' := 34) rfl rfl rfl rfl rfl rfl ?_
      refine ir_i2l (pc' := 35) rfl rfl (by omega) (by omega) ?_
      refine ir_cVI (pc' := 38) rfl rfl rfl rfl rfl (Nat.le_of_ble_eq_true rfl) oo_X4_locate (gG_at tsk_1) (sf_locate4 L ys d s4 hT4 (z8) (by omega) (by omega) (z10) (by omega) (by omega) (x2) (by omega) (by omega) ) (fun z12 s13 hr => ?_)
      obtain ⟨hT13, hG13, z12l, z12h⟩ := hr
      have hF13 := fr_trans hF4 hG13 (by decide)
      have e14 : s13.1 0 3 = z1 := (hG13.1 _ _ tsk_0 3 (by decide)).trans e5
      have e15 : s13.1 0 4 = ((1 : Nat) : Int) := (hG13.1 _ _ tsk_0 4 (by decide)).trans b7e
      exact ir_iret rfl rfl ⟨_, rfl, hT13, hF13, by omega, by omega⟩
    · refine ir_w [] trivial ?_
      exact J15 s4 hT4 hF4 (z1) (by omega) (by omega) e5
theorem sf_isRoot9 (L : Nat) (ys : Nat → Int32) (d : Nat) (s0 : im_S) (hT0 : tI s0) (x1 : Int) (x1l : -2147483648 ≤ x1) (x1h : x1 ≤ 2147483647) : icI gG rm_P L ys 0 (d + 1) 217 [(2, ((0 : Nat) : Int)), (0, x1)] s0 (fun z s => tI s ∧ fr [] s0 s ∧ 0 ≤ z ∧ z ≤ 1) := by
  refine ic_startM (M := rm_p_X9_isRoot) om_X9_isRoot (Nat.le_of_ble_eq_true rfl) ?_
  refine ir_w [(0, (2, ((0 : Nat) : Int))), (1, (0, x1))] ⟨rfl, rfl, trivial⟩ ?_
  have hF0 := fr_refl [] s0
  have J27 : ∀ (q27_s0 : Int) (q27_s0l : 0 ≤ q27_s0) (q27_s0h : q27_s0 ≤ 1) (s_27 : im_S) (hT_27 : tI s_27) (hF_27 : fr [] s0 s_27) (w27_0_3 : Int) (w27_0_3l : 0 ≤ w27_0_3) (w27_0_3h : w27_0_3 ≤ 1) (w27_0_3e : s_27.1 0 3 = w27_0_3), ir gG rm_P L ys d rm_p_X9_isRoot (27, [], [(0, q27_s0)], s_27) (fun r : im_Re => ∃ z, r.1 = some (0, z) ∧ (tI r.2 ∧ fr [] s0 r.2 ∧ 0 ≤ z ∧ z ≤ 1)) := by
    intro q27_s0 q27_s0l q27_s0h s_27 hT_27 hF_27 w27_0_3 w27_0_3l w27_0_3h w27_0_3e
    exact ir_zret rfl rfl (by omega) ⟨_, rfl, hT_27, hF_27, by omega, by omega⟩
  have J26 : ∀ (s_26 : im_S) (hT_26 : tI s_26) (hF_26 : fr [] s0 s_26) (w26_0_3 : Int) (w26_0_3l : 0 ≤ w26_0_3) (w26_0_3h : w26_0_3 ≤ 1) (w26_0_3e : s_26.1 0 3 = w26_0_3), ir gG rm_P L ys d rm_p_X9_isRoot (26, [], [], s_26) (fun r : im_Re => ∃ z, r.1 = some (0, z) ∧ (tI r.2 ∧ fr [] s0 r.2 ∧ 0 ≤ z ∧ z ≤ 1)) := by
    intro s_26 hT_26 hF_26 w26_0_3 w26_0_3l w26_0_3h w26_0_3e
    refine ir_k (pc' := 27) (v := (0, 0)) rfl rfl rfl (fun _ => rfl) ?_
    refine ir_w [] trivial ?_
    exact J27 (0) (by omega) (by omega) s_26 hT_26 hF_26 (w26_0_3) (by omega) (by omega) w26_0_3e
  refine ir_l (pc' := 1) rfl rfl rfl rfl rfl rfl ?_
  refine ir_tgi (pc' := 4) rfl rfl rfl tf_0_3 tsk_0 hT0 (fun z1 z1e z1l z1h => ?_)
  refine ir_z_eq (pt := 26) (pc' := 7) rfl rfl rfl (fun c2 => ?_) (fun c2 => ?_)
  · refine ir_w [] trivial ?_
    exact J26 s0 hT0 hF0 (z1) (by omega) (by omega) z1e
  · refine ir_l (pc' := 8) rfl rfl rfl rfl rfl rfl ?_
    refine ir_z_lt (pt := 26) (pc' := 11) rfl rfl rfl (fun c3 => ?_) (fun c3 => ?_)
    · refine ir_w [] trivial ?_
      exact J26 s0 hT0 hF0 (z1) (by omega) (by omega) z1e
    · refine ir_l (pc' := 12) rfl rfl rfl rfl rfl rfl ?_
      refine ir_l (pc' := 13) rfl rfl rfl rfl rfl rfl ?_
      refine ir_tgr (pc' := 16) rfl rfl rfl tf_0_4 tsk_0 hT0 (fun b4 b4e b4k => ?_)
      obtain rfl := tsg_1 b4k
      refine ir_tgi (pc' := 19) rfl rfl rfl tf_1_4 tsk_1 hT0 (fun z5 z5e z5l z5h => ?_)
      refine ir_c_ge (pt := 26) (pc' := 22) rfl rfl rfl (fun c6 => ?_) (fun c6 => ?_)
      · refine ir_w [] trivial ?_
        exact J26 s0 hT0 hF0 (z1) (by omega) (by omega) z1e
      · refine ir_k (pc' := 23) (v := (0, 1)) rfl rfl rfl (fun _ => rfl) ?_
        refine ir_goto (pc' := 27) rfl rfl ?_
        refine ir_w [] trivial ?_
        exact J27 (1) (by omega) (by omega) s0 hT0 hF0 (z1) (by omega) (by omega) z1e
theorem sf_common9 (L : Nat) (ys : Nat → Int32) (d : Nat) (s0 : im_S) (hT0 : tI s0) (x1 : Int) (x1l : -2147483648 ≤ x1) (x1h : x1 ≤ 2147483647) : icI gG rm_P L ys 0 (d + 3) 208 [(2, ((0 : Nat) : Int)), (0, x1)] s0 (fun z s => tI s ∧ fr [] s0 s ∧ -2147483648 ≤ z ∧ z ≤ 2147483647) := by
  refine ic_startM (M := rm_p_X9_common) om_X9_common (Nat.le_of_ble_eq_true rfl) ?_
  refine ir_w [(0, (2, ((0 : Nat) : Int))), (1, (0, x1))] ⟨rfl, rfl, trivial⟩ ?_
  have hF0 := fr_refl [] s0
  refine ir_l (pc' := 1) rfl rfl rfl rfl rfl rfl ?_
  refine ir_l (pc' := 2) rfl rfl rfl rfl rfl rfl ?_
  refine ir_cVI (pc' := 5) rfl rfl rfl rfl rfl (Nat.le_of_ble_eq_true rfl) oo_X9_isRoot (gG_at tsk_0) (sf_isRoot9 L ys (d + 1) s0 hT0 (x1) (by omega) (by omega) ) (fun z1 s2 hr => ?_)
  obtain ⟨hT2, hG2, z1l, z1h⟩ := hr
  have hF2 := fr_trans hF0 hG2 (by decide)
  refine ir_z_ne (pt := 10) (pc' := 8) rfl rfl rfl (fun c3 => ?_) (fun c3 => ?_)
  · refine ir_l (pc' := 11) rfl rfl rfl rfl rfl rfl ?_
    refine ir_tgr (pc' := 14) rfl rfl rfl tf_0_7 tsk_0 hT2 (fun b4 b4e b4k => ?_)
    obtain rfl := tsg_11 b4k
    refine ir_l (pc' := 15) rfl rfl rfl rfl rfl rfl ?_
    refine ir_tgr (pc' := 18) rfl rfl rfl tf_0_4 tsk_0 hT2 (fun b5 b5e b5k => ?_)
    obtain rfl := tsg_1 b5k
    refine ir_l (pc' := 19) rfl rfl rfl rfl rfl rfl ?_
    refine ir_cVR (pc' := 22) rfl rfl rfl rfl rfl (Nat.le_of_ble_eq_true rfl) oo_X4_rootAt (gG_at tsk_1) (sf_rootAt4 L ys d s2 hT2 (x1) (by omega) (by omega) ) (fun b6 s7 hr => ?_)
    obtain ⟨hT7, hG7, b6k⟩ := hr
    have hF7 := fr_trans hF2 hG7 (by decide)
    have e8 : s7.1 0 7 = ((84 : Nat) : Int) := (hG7.1 _ _ tsk_0 7 (by decide)).trans b4e
    have e9 : s7.1 0 4 = ((1 : Nat) : Int) := (hG7.1 _ _ tsk_0 4 (by decide)).trans b5e
    refine ir_tgi (pc' := 25) rfl rfl rfl tf_23_0 b6k hT7 (fun z10 z10e z10l z10h => ?_)
    refine ir_cVI (pc' := 28) rfl rfl rfl rfl rfl (Nat.le_of_ble_eq_true rfl) oo_X0_sharedDegree (gG_at tsk_11) (sf_sharedDegree0 L ys d s7 hT7 (z10) (by omega) (by omega) ) (fun z11 s12 hr => ?_)
    obtain ⟨hT12, hG12, z11l, z11h⟩ := hr
    have hF12 := fr_trans hF7 hG12 (by decide)
    have e13 : s12.1 0 7 = ((84 : Nat) : Int) := (hG12.1 _ _ tsk_0 7 (by decide)).trans e8
    have e14 : s12.1 0 4 = ((1 : Nat) : Int) := (hG12.1 _ _ tsk_0 4 (by decide)).trans e9
    have e15 : s12.1 b6 0 = z10 := (hG12.1 _ _ b6k 0 (by decide)).trans z10e
    exact ir_iret rfl rfl ⟨_, rfl, hT12, hF12, by omega, by omega⟩
  · refine ir_k (pc' := 9) (v := (0, (-1))) rfl rfl rfl (fun _ => rfl) ?_
    exact ir_iret rfl rfl ⟨_, rfl, hT2, hF2, by omega, by omega⟩
theorem sf_count9 (L : Nat) (ys : Nat → Int32) (d : Nat) (s0 : im_S) (hT0 : tI s0) (x1 : Int) (x1l : -2147483648 ≤ x1) (x1h : x1 ≤ 2147483647) : icI gG rm_P L ys 0 (d + 1) 209 [(2, ((0 : Nat) : Int)), (0, x1)] s0 (fun z s => tI s ∧ fr [] s0 s ∧ -2147483648 ≤ z ∧ z ≤ 2147483647) := by
  refine ic_startM (M := rm_p_X9_count) om_X9_count (Nat.le_of_ble_eq_true rfl) ?_
  refine ir_w [(0, (2, ((0 : Nat) : Int))), (1, (0, x1))] ⟨rfl, rfl, trivial⟩ ?_
  have hF0 := fr_refl [] s0
  have J80 : ∀ (q80_s0 : Int) (q80_s0l : -2147483648 ≤ q80_s0) (q80_s0h : q80_s0 ≤ 2147483647) (s_80 : im_S) (hT_80 : tI s_80) (hF_80 : fr [] s0 s_80) (w80_0_3 : Int) (w80_0_3l : 1 ≤ w80_0_3) (w80_0_3h : w80_0_3 ≤ 1) (w80_0_3e : s_80.1 0 3 = w80_0_3), ir gG rm_P L ys d rm_p_X9_count (80, [], [(0, q80_s0)], s_80) (fun r : im_Re => ∃ z, r.1 = some (0, z) ∧ (tI r.2 ∧ fr [] s0 r.2 ∧ -2147483648 ≤ z ∧ z ≤ 2147483647)) := by
    intro q80_s0 q80_s0l q80_s0h s_80 hT_80 hF_80 w80_0_3 w80_0_3l w80_0_3h w80_0_3e
    exact ir_iret rfl rfl ⟨_, rfl, hT_80, hF_80, by omega, by omega⟩
  refine ir_l (pc' := 1) rfl rfl rfl rfl rfl rfl ?_
  refine ir_z_ne (pt := 9) (pc' := 4) rfl rfl rfl (fun c1 => ?_) (fun c1 => ?_)
  · refine ir_l (pc' := 10) rfl rfl rfl rfl rfl rfl ?_
    refine ir_k (pc' := 11) (v := (0, 1)) rfl rfl rfl (fun _ => rfl) ?_
    refine ir_c_ne (pt := 19) (pc' := 14) rfl rfl rfl (fun c2 => ?_) (fun c2 => ?_)
    · refine ir_l (pc' := 20) rfl rfl rfl rfl rfl rfl ?_
      refine ir_k (pc' := 21) (v := (0, 2)) rfl rfl rfl (fun _ => rfl) ?_
      refine ir_c_ne (pt := 29) (pc' := 24) rfl rfl rfl (fun c3 => ?_) (fun c3 => ?_)
      · refine ir_l (pc' := 30) rfl rfl rfl rfl rfl rfl ?_
        refine ir_tgi (pc' := 33) rfl rfl rfl tf_0_3 tsk_0 hT0 (fun z4 z4e z4l z4h => ?_)
        refine ir_z_ne (pt := 38) (pc' := 36) rfl rfl rfl (fun c5 => ?_) (fun c5 => ?_)
        · refine ir_l (pc' := 39) rfl rfl rfl rfl rfl rfl ?_
          refine ir_k (pc' := 40) (v := (0, 3)) rfl rfl rfl (fun _ => rfl) ?_
          refine ir_c_ne (pt := 51) (pc' := 43) rfl rfl rfl (fun c6 => ?_) (fun c6 => ?_)
          · refine ir_l (pc' := 52) rfl rfl rfl rfl rfl rfl ?_
            refine ir_k (pc' := 53) (v := (0, 4)) rfl rfl rfl (fun _ => rfl) ?_
            refine ir_c_ne (pt := 64) (pc' := 56) rfl rfl rfl (fun c7 => ?_) (fun c7 => ?_)
            · refine ir_l (pc' := 65) rfl rfl rfl rfl rfl rfl ?_
              refine ir_k (pc' := 66) (v := (0, 5)) rfl rfl rfl (fun _ => rfl) ?_
              refine ir_c_ne (pt := 79) (pc' := 69) rfl rfl rfl (fun c8 => ?_) (fun c8 => ?_)
              · refine ir_k (pc' := 80) (v := (0, (-1))) rfl rfl rfl (fun _ => rfl) ?_
                refine ir_w [] trivial ?_
                exact J80 ((-1)) (by omega) (by omega) s0 hT0 hF0 (z4) (by omega) (by omega) z4e
              · refine ir_l (pc' := 70) rfl rfl rfl rfl rfl rfl ?_
                refine ir_tgr (pc' := 73) rfl rfl rfl tf_0_4 tsk_0 hT0 (fun b9 b9e b9k => ?_)
                obtain rfl := tsg_1 b9k
                refine ir_tgi (pc' := 76) rfl rfl rfl tf_1_7 tsk_1 hT0 (fun z10 z10e z10l z10h => ?_)
                refine ir_goto (pc' := 80) rfl rfl ?_
                refine ir_w [] trivial ?_
                exact J80 (z10) (by omega) (by omega) s0 hT0 hF0 (z4) (by omega) (by omega) z4e
            · refine ir_l (pc' := 57) rfl rfl rfl rfl rfl rfl ?_
              refine ir_tgr (pc' := 60) rfl rfl rfl tf_0_4 tsk_0 hT0 (fun b11 b11e b11k => ?_)
              obtain rfl := tsg_1 b11k
              refine ir_tgi (pc' := 63) rfl rfl rfl tf_1_4 tsk_1 hT0 (fun z12 z12e z12l z12h => ?_)
              exact ir_iret rfl rfl ⟨_, rfl, hT0, hF0, by omega, by omega⟩
          · refine ir_l (pc' := 44) rfl rfl rfl rfl rfl rfl ?_
            refine ir_tgr (pc' := 47) rfl rfl rfl tf_0_5 tsk_0 hT0 (fun b13 b13e b13k => ?_)
            obtain rfl := tsg_2 b13k
            refine ir_tgi (pc' := 50) rfl rfl rfl tf_2_11 tsk_2 hT0 (fun z14 z14e z14l z14h => ?_)
            exact ir_iret rfl rfl ⟨_, rfl, hT0, hF0, by omega, by omega⟩
        · refine ir_k (pc' := 37) (v := (0, (-1))) rfl rfl rfl (fun _ => rfl) ?_
          exact ir_iret rfl rfl ⟨_, rfl, hT0, hF0, by omega, by omega⟩
      · refine ir_l (pc' := 25) rfl rfl rfl rfl rfl rfl ?_
        refine ir_tgi (pc' := 28) rfl rfl rfl tf_0_0 tsk_0 hT0 (fun z15 z15e z15l z15h => ?_)
        exact ir_iret rfl rfl ⟨_, rfl, hT0, hF0, by omega, by omega⟩
    · refine ir_l (pc' := 15) rfl rfl rfl rfl rfl rfl ?_
      refine ir_tgi (pc' := 18) rfl rfl rfl tf_0_2 tsk_0 hT0 (fun z16 z16e z16l z16h => ?_)
      exact ir_iret rfl rfl ⟨_, rfl, hT0, hF0, by omega, by omega⟩
  · refine ir_l (pc' := 5) rfl rfl rfl rfl rfl rfl ?_
    refine ir_tgi (pc' := 8) rfl rfl rfl tf_0_1 tsk_0 hT0 (fun z17 z17e z17l z17h => ?_)
    exact ir_iret rfl rfl ⟨_, rfl, hT0, hF0, by omega, by omega⟩
theorem sf_exact9 (L : Nat) (ys : Nat → Int32) (d : Nat) (s0 : im_S) (hT0 : tI s0) (x1 : Int) (x1l : -2147483648 ≤ x1) (x1h : x1 ≤ 2147483647) (x2 : Int) (x2l : -2147483648 ≤ x2) (x2h : x2 ≤ 2147483647) : icI gG rm_P L ys 1 (d + 3) 210 [(2, ((0 : Nat) : Int)), (0, x1), (0, x2)] s0 (fun z s => tI s ∧ fr [] s0 s ∧ -9223372036854775808 ≤ z ∧ z ≤ 9223372036854775807) := by
  refine ic_startM (M := rm_p_X9_exact) om_X9_exact (Nat.le_of_ble_eq_true rfl) ?_
  refine ir_w [(0, (2, ((0 : Nat) : Int))), (1, (0, x1)), (2, (0, x2))] ⟨rfl, rfl, rfl, trivial⟩ ?_
  have hF0 := fr_refl [] s0
  have J56 : ∀ (q56_s0 : Int) (q56_s0l : -9223372036854775808 ≤ q56_s0) (q56_s0h : q56_s0 ≤ 9223372036854775807) (s_56 : im_S) (hT_56 : tI s_56) (hF_56 : fr [] s0 s_56) (w56_0_4e : s_56.1 0 4 = ((1 : Nat) : Int)), ir gG rm_P L ys (d + 2) rm_p_X9_exact (56, [], [(1, q56_s0)], s_56) (fun r : im_Re => ∃ z, r.1 = some (1, z) ∧ (tI r.2 ∧ fr [] s0 r.2 ∧ -9223372036854775808 ≤ z ∧ z ≤ 9223372036854775807)) := by
    intro q56_s0 q56_s0l q56_s0h s_56 hT_56 hF_56 w56_0_4e
    exact ir_lret rfl rfl ⟨_, rfl, hT_56, hF_56, by omega, by omega⟩
  have J17 : ∀ (s_17 : im_S) (hT_17 : tI s_17) (hF_17 : fr [] s0 s_17), ir gG rm_P L ys (d + 2) rm_p_X9_exact (17, [], [], s_17) (fun r : im_Re => ∃ z, r.1 = some (1, z) ∧ (tI r.2 ∧ fr [] s0 r.2 ∧ -9223372036854775808 ≤ z ∧ z ≤ 9223372036854775807)) := by
    intro s_17 hT_17 hF_17
    refine ir_k (pc' := 20) (v := (1, (-9000000000000000000))) rfl rfl rfl (fun _ => rfl) ?_
    exact ir_lret rfl rfl ⟨_, rfl, hT_17, hF_17, by omega, by omega⟩
  refine ir_l (pc' := 1) rfl rfl rfl rfl rfl rfl ?_
  refine ir_l (pc' := 2) rfl rfl rfl rfl rfl rfl ?_
  refine ir_cVI (pc' := 5) rfl rfl rfl rfl rfl (Nat.le_of_ble_eq_true rfl) oo_X9_isRoot (gG_at tsk_0) (sf_isRoot9 L ys (d + 1) s0 hT0 (x1) (by omega) (by omega) ) (fun z1 s2 hr => ?_)
  obtain ⟨hT2, hG2, z1l, z1h⟩ := hr
  have hF2 := fr_trans hF0 hG2 (by decide)
  refine ir_z_eq (pt := 17) (pc' := 8) rfl rfl rfl (fun c3 => ?_) (fun c3 => ?_)
  · refine ir_w [] trivial ?_
    exact J17 s2 hT2 hF2
  · refine ir_l (pc' := 9) rfl rfl rfl rfl rfl rfl ?_
    refine ir_z_lt (pt := 17) (pc' := 12) rfl rfl rfl (fun c4 => ?_) (fun c4 => ?_)
    · refine ir_w [] trivial ?_
      exact J17 s2 hT2 hF2
    · refine ir_l (pc' := 13) rfl rfl rfl rfl rfl rfl ?_
      refine ir_k (pc' := 14) (v := (0, 1)) rfl rfl rfl (fun _ => rfl) ?_
      refine ir_c_le (pt := 21) (pc' := 17) rfl rfl rfl (fun c5 => ?_) (fun c5 => ?_)
      · refine ir_l (pc' := 22) rfl rfl rfl rfl rfl rfl ?_
        refine ir_tgr (pc' := 25) rfl rfl rfl tf_0_4 tsk_0 hT2 (fun b6 b6e b6k => ?_)
        obtain rfl := tsg_1 b6k
        refine ir_l (pc' := 26) rfl rfl rfl rfl rfl rfl ?_
        refine ir_cVR (pc' := 29) rfl rfl rfl rfl rfl (Nat.le_of_ble_eq_true rfl) oo_X4_rootAt (gG_at tsk_1) (sf_rootAt4 L ys d s2 hT2 (x1) (by omega) (by omega) ) (fun b7 s8 hr => ?_)
        obtain ⟨hT8, hG8, b7k⟩ := hr
        have hF8 := fr_trans hF2 hG8 (by decide)
        have e9 : s8.1 0 4 = ((1 : Nat) : Int) := (hG8.1 _ _ tsk_0 4 (by decide)).trans b6e
        refine ir_s (pc' := 30) rfl rfl rfl rfl rfl rfl ?_
        refine ir_l (pc' := 31) rfl rfl rfl rfl rfl rfl ?_
        refine ir_tgi (pc' := 34) rfl rfl rfl tf_23_1 b7k hT8 (fun z10 z10e z10l z10h => ?_)
        refine ir_z_ne (pt := 41) (pc' := 37) rfl rfl rfl (fun c11 => ?_) (fun c11 => ?_)
        · refine ir_l (pc' := 42) rfl rfl rfl rfl rfl rfl ?_
          refine ir_z_ne (pt := 52) (pc' := 45) rfl rfl rfl (fun c12 => ?_) (fun c12 => ?_)
          · refine ir_l (pc' := 53) rfl rfl rfl rfl rfl rfl ?_
            refine ir_tgj (pc' := 56) rfl rfl rfl tf_23_3 b7k hT8 (fun z13 z13e z13l z13h => ?_)
            refine ir_w [] trivial ?_
            exact J56 (z13) (by omega) (by omega) s8 hT8 hF8 e9
          · refine ir_l (pc' := 46) rfl rfl rfl rfl rfl rfl ?_
            refine ir_tgj (pc' := 49) rfl rfl rfl tf_23_2 b7k hT8 (fun z14 z14e z14l z14h => ?_)
            refine ir_goto (pc' := 56) rfl rfl ?_
            refine ir_w [] trivial ?_
            exact J56 (z14) (by omega) (by omega) s8 hT8 hF8 e9
        · refine ir_k (pc' := 40) (v := (1, (-9000000000000000002))) rfl rfl rfl (fun _ => rfl) ?_
          exact ir_lret rfl rfl ⟨_, rfl, hT8, hF8, by omega, by omega⟩
      · refine ir_w [] trivial ?_
        exact J17 s2 hT2 hF2
theorem sf_isSign9 (L : Nat) (ys : Nat → Int32) (d : Nat) (s0 : im_S) (hT0 : tI s0) (x0 : Int) (x0l : -2147483648 ≤ x0) (x0h : x0 ≤ 2147483647) : icI gG rm_P L ys 0 (d + 1) 218 [(0, x0)] s0 (fun z s => tI s ∧ fr [] s0 s ∧ 0 ≤ z ∧ z ≤ 1 ∧ ((z = 1 ∧ 32 ≤ x0 ∧ x0 ≤ 126) ∨ (z = 0 ∧ (x0 < 32 ∨ 126 < x0)))) := by
  refine ic_startM (M := rm_p_X9_isSign) om_X9_isSign (Nat.le_of_ble_eq_true rfl) ?_
  refine ir_w [(0, (0, x0))] ⟨rfl, trivial⟩ ?_
  have hF0 := fr_refl [] s0
  have J17 : ∀ (q17_s0 : Int) (q17_s0l : 0 ≤ q17_s0) (q17_s0h : q17_s0 ≤ 1) (s_17 : im_S) (hT_17 : tI s_17) (hF_17 : fr [] s0 s_17) (i17_0 : ((q17_s0 = 1 ∧ 32 ≤ x0 ∧ x0 ≤ 126) ∨ (q17_s0 = 0 ∧ (x0 < 32 ∨ 126 < x0)))), ir gG rm_P L ys d rm_p_X9_isSign (17, [], [(0, q17_s0)], s_17) (fun r : im_Re => ∃ z, r.1 = some (0, z) ∧ (tI r.2 ∧ fr [] s0 r.2 ∧ 0 ≤ z ∧ z ≤ 1 ∧ ((z = 1 ∧ 32 ≤ x0 ∧ x0 ≤ 126) ∨ (z = 0 ∧ (x0 < 32 ∨ 126 < x0))))) := by
    intro q17_s0 q17_s0l q17_s0h s_17 hT_17 hF_17 i17_0
    exact ir_zret rfl rfl (by omega) ⟨_, rfl, hT_17, hF_17, by omega, by omega, (by first | omega | (dsimp only; omega))⟩
  have J16 : ∀ (s_16 : im_S) (hT_16 : tI s_16) (hF_16 : fr [] s0 s_16) (i16_0 : (x0 < 32 ∨ 126 < x0)), ir gG rm_P L ys d rm_p_X9_isSign (16, [], [], s_16) (fun r : im_Re => ∃ z, r.1 = some (0, z) ∧ (tI r.2 ∧ fr [] s0 r.2 ∧ 0 ≤ z ∧ z ≤ 1 ∧ ((z = 1 ∧ 32 ≤ x0 ∧ x0 ≤ 126) ∨ (z = 0 ∧ (x0 < 32 ∨ 126 < x0))))) := by
    intro s_16 hT_16 hF_16 i16_0
    refine ir_k (pc' := 17) (v := (0, 0)) rfl rfl rfl (fun _ => rfl) ?_
    refine ir_w [] trivial ?_
    exact J17 (0) (by omega) (by omega) s_16 hT_16 hF_16 (by omega)
  refine ir_l (pc' := 1) rfl rfl rfl rfl rfl rfl ?_
  refine ir_k (pc' := 3) (v := (0, 32)) rfl rfl rfl (fun _ => rfl) ?_
  refine ir_c_lt (pt := 16) (pc' := 6) rfl rfl rfl (fun c1 => ?_) (fun c1 => ?_)
  · refine ir_w [] trivial ?_
    exact J16 s0 hT0 hF0 (by omega)
  · refine ir_l (pc' := 7) rfl rfl rfl rfl rfl rfl ?_
    refine ir_k (pc' := 9) (v := (0, 126)) rfl rfl rfl (fun _ => rfl) ?_
    refine ir_c_gt (pt := 16) (pc' := 12) rfl rfl rfl (fun c2 => ?_) (fun c2 => ?_)
    · refine ir_w [] trivial ?_
      exact J16 s0 hT0 hF0 (by omega)
    · refine ir_k (pc' := 13) (v := (0, 1)) rfl rfl rfl (fun _ => rfl) ?_
      refine ir_goto (pc' := 17) rfl rfl ?_
      refine ir_w [] trivial ?_
      exact J17 (1) (by omega) (by omega) s0 hT0 hF0 (by omega)
theorem sf_four9 (L : Nat) (ys : Nat → Int32) (d : Nat) (s0 : im_S) (hT0 : tI s0) (x1 : Int) (x1l : -2147483648 ≤ x1) (x1h : x1 ≤ 2147483647) : icI gG rm_P L ys 0 (d + 2) 211 [(2, ((0 : Nat) : Int)), (0, x1)] s0 (fun z s => tI s ∧ fr [(0, 0)] s0 s ∧ -1 ≤ z ∧ z ≤ 400) := by
  refine ic_startM (M := rm_p_X9_four) om_X9_four (Nat.le_of_ble_eq_true rfl) ?_
  refine ir_w [(0, (2, ((0 : Nat) : Int))), (1, (0, x1))] ⟨rfl, rfl, trivial⟩ ?_
  have hF0 := fr_refl [(0, 0)] s0
  have J69 : ∀ n : Nat, ∀ (q69_l3 : Int) (q69_l3l : -30 ≤ q69_l3) (q69_l3h : q69_l3 ≤ 24) (s_69 : im_S) (hT_69 : tI s_69) (hF_69 : fr [(0, 0)] s0 s_69) (w69_0_0 : Int) (w69_0_0l : 0 ≤ w69_0_0) (w69_0_0h : w69_0_0 ≤ 400) (w69_0_0e : s_69.1 0 0 = w69_0_0), (q69_l3 - -30 + 1) ≤ (n : Int) → ir gG rm_P L ys (d + 1) rm_p_X9_four (69, [(0, (2, ((0 : Nat) : Int))), (1, (0, x1)), (3, (0, q69_l3))], [], s_69) (fun r : im_Re => ∃ z, r.1 = some (0, z) ∧ (tI r.2 ∧ fr [(0, 0)] s0 r.2 ∧ -1 ≤ z ∧ z ≤ 400)) := by
    intro n
    induction n with
    | zero => intro q69_l3 q69_l3l q69_l3h s_69 hT_69 hF_69 w69_0_0 w69_0_0l w69_0_0h w69_0_0e hr; exfalso; omega
    | succ n ih69 =>
      intro q69_l3 q69_l3l q69_l3h s_69 hT_69 hF_69 w69_0_0 w69_0_0l w69_0_0h w69_0_0e hr
      have J122 : ∀ (f122_3l : 0 ≤ q69_l3) (s_122 : im_S) (hT_122 : tI s_122) (hF_122 : fr [(0, 0)] s0 s_122) (w122_0_0 : Int) (w122_0_0l : 0 ≤ w122_0_0) (w122_0_0h : w122_0_0 ≤ 400) (w122_0_0e : s_122.1 0 0 = w122_0_0), ir gG rm_P L ys (d + 1) rm_p_X9_four (122, [(0, (2, ((0 : Nat) : Int))), (1, (0, x1)), (3, (0, q69_l3))], [], s_122) (fun r : im_Re => ∃ z, r.1 = some (0, z) ∧ (tI r.2 ∧ fr [(0, 0)] s0 r.2 ∧ -1 ≤ z ∧ z ≤ 400)) := by
        intro f122_3l s_122 hT_122 hF_122 w122_0_0 w122_0_0l w122_0_0h w122_0_0e
        refine ir_inc (pc' := 125) rfl rfl rfl rfl rfl (by omega) (by omega) ?_
        refine ir_goto (pc' := 69) rfl rfl ?_
        refine ir_w [(0, (2, ((0 : Nat) : Int))), (1, (0, x1)), (3, (0, (q69_l3 + (-8))))] ⟨rfl, rfl, rfl, trivial⟩ ?_
        exact ih69 ((q69_l3 + (-8))) (by omega) (by omega) s_122 hT_122 hF_122 (w122_0_0) (by omega) (by omega) w122_0_0e (by omega)
      refine ir_l (pc' := 70) rfl rfl rfl rfl rfl rfl ?_
      refine ir_z_lt (pt := 128) (pc' := 73) rfl rfl rfl (fun c1 => ?_) (fun c1 => ?_)
      · refine ir_l (pc' := 129) rfl rfl rfl rfl rfl rfl ?_
        refine ir_getI (pc' := 132) rfl rfl rfl (gG_at tsk_0) rfl (by decide) (by decide) w69_0_0e (by omega) (by omega) ?_
        exact ir_iret rfl rfl ⟨_, rfl, hT_69, hF_69, by omega, by omega⟩
      · refine ir_l (pc' := 74) rfl rfl rfl rfl rfl rfl ?_
        refine ir_l (pc' := 75) rfl rfl rfl rfl rfl rfl ?_
        refine ir_iiA (pc' := 76) rfl rfl rfl rfl (fun z2 z2l z2h => ?_)
        refine ir_k (pc' := 79) (v := (0, 255)) rfl rfl rfl (fun _ => rfl) ?_
        refine ir_andm (pc' := 80) rfl rfl (by decide) (by decide) (fun z3 z3l z3h => ?_)
        refine ir_s (pc' := 82) rfl rfl rfl rfl rfl rfl ?_
        refine ir_l (pc' := 84) rfl rfl rfl rfl rfl rfl ?_
        refine ir_z_eq (pt := 122) (pc' := 87) rfl rfl rfl (fun c4 => ?_) (fun c4 => ?_)
        · refine ir_w [(0, (2, ((0 : Nat) : Int))), (1, (0, x1)), (3, (0, q69_l3))] ⟨rfl, rfl, rfl, trivial⟩ ?_
          exact J122 (by omega) s_69 hT_69 hF_69 (w69_0_0) (by omega) (by omega) w69_0_0e
        · refine ir_l (pc' := 88) rfl rfl rfl rfl rfl rfl ?_
          refine ir_getI (pc' := 91) rfl rfl rfl (gG_at tsk_0) rfl (by decide) (by decide) w69_0_0e (by omega) (by omega) ?_
          refine ir_k (pc' := 94) (v := (0, 400)) rfl rfl rfl (fun _ => rfl) ?_
          refine ir_c_ge (pt := 122) (pc' := 97) rfl rfl rfl (fun c5 => ?_) (fun c5 => ?_)
          · refine ir_w [(0, (2, ((0 : Nat) : Int))), (1, (0, x1)), (3, (0, q69_l3))] ⟨rfl, rfl, rfl, trivial⟩ ?_
            exact J122 (by omega) s_69 hT_69 hF_69 (w69_0_0) (by omega) (by omega) w69_0_0e
          · refine ir_l (pc' := 98) rfl rfl rfl rfl rfl rfl ?_
            refine ir_tgr (pc' := 101) rfl rfl rfl tf_0_5 tsk_0 hT_69 (fun b6 b6e b6k => ?_)
            obtain rfl := tsg_2 b6k
            refine ir_tgr (pc' := 104) rfl rfl rfl tf_2_0 tsk_2 hT_69 (fun b7 b7e b7k => ?_)
            obtain rfl := tsg_3 b7k
            refine ir_l (pc' := 105) rfl rfl rfl rfl rfl rfl ?_
            refine ir_getI (pc' := 108) rfl rfl rfl (gG_at tsk_0) rfl (by decide) (by decide) w69_0_0e (by omega) (by omega) ?_
            refine ir_l (pc' := 110) rfl rfl rfl rfl rfl rfl ?_
            refine ir_i2cE (pc' := 111) rfl rfl (by omega) (by omega) ?_
            refine ir_tis (pc' := 112) rfl rfl rfl rfl te_3 tsk_3 hT_69 (by omega) (by omega) (im_fit_of (lo := 0) (hi := 65535) (by decide) (by omega) (by omega)) (by omega) (by omega) (fun s8 hT8 r8 o8 => ?_)
            have hF8 := fr_row hF_69 r8 o8
            have e9 : s8.1 0 0 = w69_0_0 := by rw [r8]; exact w69_0_0e
            have e10 : s8.1 0 5 = ((2 : Nat) : Int) := by rw [r8]; exact b6e
            have e11 : s8.1 2 0 = ((3 : Nat) : Int) := by rw [r8]; exact b7e
            refine ir_l (pc' := 113) rfl rfl rfl rfl rfl rfl ?_
            refine ir_x (pc' := 114) rfl rfl rfl (fun _ => rfl) ?_
            refine ir_getI (pc' := 117) rfl rfl rfl (gG_at tsk_0) rfl (by decide) (by decide) e9 (by omega) (by omega) ?_
            refine ir_k (pc' := 118) (v := (0, 1)) rfl rfl rfl (fun _ => rfl) ?_
            refine ir_add (pc' := 119) rfl rfl (by omega) (by omega) ?_
            refine ir_tpi (pc' := 122) rfl rfl rfl tf_0_0 rfl tsk_0 hT8 rfl (by omega) (by omega) (fun s12 hT12 e12 g12 r12 => ?_)
            have hF12 := fr_put (k := 0) hF8 (by decide) tsk_0 g12 r12
            have e13 : s12.1 0 5 = ((2 : Nat) : Int) := (g12 0 5 (fun z => absurd z.2 (by decide))).trans e10
            have e14 : s12.1 2 0 = ((3 : Nat) : Int) := (g12 2 0 (fun z => absurd z.1 (by decide))).trans e11
            refine ir_w [(0, (2, ((0 : Nat) : Int))), (1, (0, x1)), (3, (0, q69_l3))] ⟨rfl, rfl, rfl, trivial⟩ ?_
            exact J122 (by omega) s12 hT12 hF12 ((w69_0_0 + 1)) (by omega) (by omega) e12
  have J5 : ∀ n : Nat, ∀ (q5_l2 : Int) (q5_l2l : -2147483648 ≤ q5_l2) (q5_l2h : q5_l2 ≤ 2147483647) (q5_l3 : Int) (q5_l3l : -30 ≤ q5_l3) (q5_l3h : q5_l3 ≤ 24) (s_5 : im_S) (hT_5 : tI s_5) (hF_5 : fr [(0, 0)] s0 s_5), (q5_l3 - -30 + 1) ≤ (n : Int) → ir gG rm_P L ys (d + 1) rm_p_X9_four (5, [(0, (2, ((0 : Nat) : Int))), (1, (0, x1)), (2, (0, q5_l2)), (3, (0, q5_l3))], [], s_5) (fun r : im_Re => ∃ z, r.1 = some (0, z) ∧ (tI r.2 ∧ fr [(0, 0)] s0 r.2 ∧ -1 ≤ z ∧ z ≤ 400)) := by
    intro n
    induction n with
    | zero => intro q5_l2 q5_l2l q5_l2h q5_l3 q5_l3l q5_l3h s_5 hT_5 hF_5 hr; exfalso; omega
    | succ n ih5 =>
      intro q5_l2 q5_l2l q5_l2h q5_l3 q5_l3l q5_l3h s_5 hT_5 hF_5 hr
      have J44 : ∀ (q44_s0 : Int) (q44_s0l : -2147483648 ≤ q44_s0) (q44_s0h : q44_s0 ≤ 2147483647) (q44_s1 : Int) (q44_s1l : 0 ≤ q44_s1) (q44_s1h : q44_s1 ≤ 1) (f44_3l : 0 ≤ q5_l3) (s_44 : im_S) (hT_44 : tI s_44) (hF_44 : fr [(0, 0)] s0 s_44), ir gG rm_P L ys (d + 1) rm_p_X9_four (44, [(0, (2, ((0 : Nat) : Int))), (1, (0, x1)), (3, (0, q5_l3))], [(0, q44_s1), (0, q44_s0)], s_44) (fun r : im_Re => ∃ z, r.1 = some (0, z) ∧ (tI r.2 ∧ fr [(0, 0)] s0 r.2 ∧ -1 ≤ z ∧ z ≤ 400)) := by
        intro q44_s0 q44_s0l q44_s0h q44_s1 q44_s1l q44_s1h f44_3l s_44 hT_44 hF_44
        refine ir_iiA (pc' := 45) rfl rfl rfl rfl (fun z15 z15l z15h => ?_)
        refine ir_s (pc' := 46) rfl rfl rfl rfl rfl rfl ?_
        refine ir_inc (pc' := 49) rfl rfl rfl rfl rfl (by omega) (by omega) ?_
        refine ir_goto (pc' := 5) rfl rfl ?_
        refine ir_w [(0, (2, ((0 : Nat) : Int))), (1, (0, x1)), (2, (0, z15)), (3, (0, (q5_l3 + (-8))))] ⟨rfl, rfl, rfl, rfl, trivial⟩ ?_
        exact ih5 (z15) (by omega) (by omega) ((q5_l3 + (-8))) (by omega) (by omega) s_44 hT_44 hF_44 (by omega)
      have J33 : ∀ (q33_l4 : Int) (q33_l4l : 0 ≤ q33_l4) (q33_l4h : q33_l4 ≤ 255) (f33_3l : 0 ≤ q5_l3) (s_33 : im_S) (hT_33 : tI s_33) (hF_33 : fr [(0, 0)] s0 s_33), ir gG rm_P L ys (d + 1) rm_p_X9_four (33, [(0, (2, ((0 : Nat) : Int))), (1, (0, x1)), (2, (0, q5_l2)), (3, (0, q5_l3)), (4, (0, q33_l4))], [], s_33) (fun r : im_Re => ∃ z, r.1 = some (0, z) ∧ (tI r.2 ∧ fr [(0, 0)] s0 r.2 ∧ -1 ≤ z ∧ z ≤ 400)) := by
        intro q33_l4 q33_l4l q33_l4h f33_3l s_33 hT_33 hF_33
        refine ir_l (pc' := 34) rfl rfl rfl rfl rfl rfl ?_
        refine ir_l (pc' := 36) rfl rfl rfl rfl rfl rfl ?_
        refine ir_z_eq (pt := 43) (pc' := 39) rfl rfl rfl (fun c16 => ?_) (fun c16 => ?_)
        · refine ir_k (pc' := 44) (v := (0, 0)) rfl rfl rfl (fun _ => rfl) ?_
          refine ir_w [(0, (2, ((0 : Nat) : Int))), (1, (0, x1)), (3, (0, q5_l3))] ⟨rfl, rfl, rfl, trivial⟩ ?_
          exact J44 (q5_l2) (by omega) (by omega) (0) (by omega) (by omega) (by omega) s_33 hT_33 hF_33
        · refine ir_k (pc' := 40) (v := (0, 1)) rfl rfl rfl (fun _ => rfl) ?_
          refine ir_goto (pc' := 44) rfl rfl ?_
          refine ir_w [(0, (2, ((0 : Nat) : Int))), (1, (0, x1)), (3, (0, q5_l3))] ⟨rfl, rfl, rfl, trivial⟩ ?_
          exact J44 (q5_l2) (by omega) (by omega) (1) (by omega) (by omega) (by omega) s_33 hT_33 hF_33
      refine ir_l (pc' := 6) rfl rfl rfl rfl rfl rfl ?_
      refine ir_z_lt (pt := 52) (pc' := 9) rfl rfl rfl (fun c17 => ?_) (fun c17 => ?_)
      · refine ir_l (pc' := 53) rfl rfl rfl rfl rfl rfl ?_
        refine ir_tgi (pc' := 56) rfl rfl rfl tf_0_0 tsk_0 hT_5 (fun z18 z18e z18l z18h => ?_)
        refine ir_l (pc' := 57) rfl rfl rfl rfl rfl rfl ?_
        refine ir_iiA (pc' := 58) rfl rfl rfl rfl (fun z19 z19l z19h => ?_)
        refine ir_k (pc' := 61) (v := (0, 400)) rfl rfl rfl (fun _ => rfl) ?_
        refine ir_c_le (pt := 66) (pc' := 64) rfl rfl rfl (fun c20 => ?_) (fun c20 => ?_)
        · refine ir_k (pc' := 68) (v := (0, 24)) rfl rfl rfl (fun _ => rfl) ?_
          refine ir_s (pc' := 69) rfl rfl rfl rfl rfl rfl ?_
          refine ir_w [(0, (2, ((0 : Nat) : Int))), (1, (0, x1)), (3, (0, 24))] ⟨rfl, rfl, rfl, trivial⟩ ?_
          exact J69 _ (24) (by omega) (by omega) s_5 hT_5 hF_5 (z18) (by omega) (by omega) z18e (Int.self_le_toNat _)
        · refine ir_k (pc' := 65) (v := (0, (-1))) rfl rfl rfl (fun _ => rfl) ?_
          exact ir_iret rfl rfl ⟨_, rfl, hT_5, hF_5, by omega, by omega⟩
      · refine ir_l (pc' := 10) rfl rfl rfl rfl rfl rfl ?_
        refine ir_l (pc' := 11) rfl rfl rfl rfl rfl rfl ?_
        refine ir_iiA (pc' := 12) rfl rfl rfl rfl (fun z21 z21l z21h => ?_)
        refine ir_k (pc' := 15) (v := (0, 255)) rfl rfl rfl (fun _ => rfl) ?_
        refine ir_andm (pc' := 16) rfl rfl (by decide) (by decide) (fun z22 z22l z22h => ?_)
        refine ir_s (pc' := 18) rfl rfl rfl rfl rfl rfl ?_
        refine ir_l (pc' := 20) rfl rfl rfl rfl rfl rfl ?_
        refine ir_z_eq (pt := 33) (pc' := 23) rfl rfl rfl (fun c23 => ?_) (fun c23 => ?_)
        · refine ir_w [(0, (2, ((0 : Nat) : Int))), (1, (0, x1)), (2, (0, q5_l2)), (3, (0, q5_l3)), (4, (0, z22))] ⟨rfl, rfl, rfl, rfl, rfl, trivial⟩ ?_
          exact J33 (z22) (by omega) (by omega) (by omega) s_5 hT_5 hF_5
        · refine ir_l (pc' := 25) rfl rfl rfl rfl rfl rfl ?_
          refine ir_cSI (pc' := 28) rfl rfl rfl rfl rfl rfl (Nat.le_of_ble_eq_true rfl) (sf_isSign9 L ys d s_5 hT_5 (z22) (by omega) (by omega) ) (fun z24 s25 hr => ?_)
          obtain ⟨hT25, hG25, z24l, z24h, p25_0⟩ := hr
          have hF25 := fr_trans hF_5 hG25 (by decide)
          refine ir_z_ne (pt := 33) (pc' := 31) rfl rfl rfl (fun c26 => ?_) (fun c26 => ?_)
          · refine ir_w [(0, (2, ((0 : Nat) : Int))), (1, (0, x1)), (2, (0, q5_l2)), (3, (0, q5_l3)), (4, (0, z22))] ⟨rfl, rfl, rfl, rfl, rfl, trivial⟩ ?_
            exact J33 (z22) (by omega) (by omega) (by omega) s25 hT25 hF25
          · refine ir_k (pc' := 32) (v := (0, (-1))) rfl rfl rfl (fun _ => rfl) ?_
            exact ir_iret rfl rfl ⟨_, rfl, hT25, hF25, by omega, by omega⟩
  refine ir_k (pc' := 1) (v := (0, 0)) rfl rfl rfl (fun _ => rfl) ?_
  refine ir_s (pc' := 2) rfl rfl rfl rfl rfl rfl ?_
  refine ir_k (pc' := 4) (v := (0, 24)) rfl rfl rfl (fun _ => rfl) ?_
  refine ir_s (pc' := 5) rfl rfl rfl rfl rfl rfl ?_
  refine ir_w [(0, (2, ((0 : Nat) : Int))), (1, (0, x1)), (2, (0, 0)), (3, (0, 24))] ⟨rfl, rfl, rfl, rfl, trivial⟩ ?_
  exact J5 _ (0) (by omega) (by omega) (24) (by omega) (by omega) s0 hT0 hF0 (Int.self_le_toNat _)
theorem sf_isCell9 (L : Nat) (ys : Nat → Int32) (d : Nat) (s0 : im_S) (hT0 : tI s0) (x1 : Int) (x1l : -2147483648 ≤ x1) (x1h : x1 ≤ 2147483647) : icI gG rm_P L ys 0 (d + 1) 215 [(2, ((0 : Nat) : Int)), (0, x1)] s0 (fun z s => tI s ∧ fr [] s0 s ∧ 0 ≤ z ∧ z ≤ 1 ∧ (z = 0 ∨ (0 ≤ x1 ∧ x1 ≤ 160))) := by
  refine ic_startM (M := rm_p_X9_isCell) om_X9_isCell (Nat.le_of_ble_eq_true rfl) ?_
  refine ir_w [(0, (2, ((0 : Nat) : Int))), (1, (0, x1))] ⟨rfl, rfl, trivial⟩ ?_
  have hF0 := fr_refl [] s0
  have J29 : ∀ (q29_s0 : Int) (q29_s0l : 0 ≤ q29_s0) (q29_s0h : q29_s0 ≤ 1) (s_29 : im_S) (hT_29 : tI s_29) (hF_29 : fr [] s0 s_29) (w29_0_3 : Int) (w29_0_3l : 0 ≤ w29_0_3) (w29_0_3h : w29_0_3 ≤ 1) (w29_0_3e : s_29.1 0 3 = w29_0_3) (i29_0 : (q29_s0 = 0 ∨ (0 ≤ x1 ∧ x1 ≤ 160))), ir gG rm_P L ys d rm_p_X9_isCell (29, [], [(0, q29_s0)], s_29) (fun r : im_Re => ∃ z, r.1 = some (0, z) ∧ (tI r.2 ∧ fr [] s0 r.2 ∧ 0 ≤ z ∧ z ≤ 1 ∧ (z = 0 ∨ (0 ≤ x1 ∧ x1 ≤ 160)))) := by
    intro q29_s0 q29_s0l q29_s0h s_29 hT_29 hF_29 w29_0_3 w29_0_3l w29_0_3h w29_0_3e i29_0
    exact ir_zret rfl rfl (by omega) ⟨_, rfl, hT_29, hF_29, by omega, by omega, (by first | omega | (dsimp only; omega))⟩
  have J28 : ∀ (s_28 : im_S) (hT_28 : tI s_28) (hF_28 : fr [] s0 s_28) (w28_0_3 : Int) (w28_0_3l : 0 ≤ w28_0_3) (w28_0_3h : w28_0_3 ≤ 1) (w28_0_3e : s_28.1 0 3 = w28_0_3), ir gG rm_P L ys d rm_p_X9_isCell (28, [], [], s_28) (fun r : im_Re => ∃ z, r.1 = some (0, z) ∧ (tI r.2 ∧ fr [] s0 r.2 ∧ 0 ≤ z ∧ z ≤ 1 ∧ (z = 0 ∨ (0 ≤ x1 ∧ x1 ≤ 160)))) := by
    intro s_28 hT_28 hF_28 w28_0_3 w28_0_3l w28_0_3h w28_0_3e
    refine ir_k (pc' := 29) (v := (0, 0)) rfl rfl rfl (fun _ => rfl) ?_
    refine ir_w [] trivial ?_
    exact J29 (0) (by omega) (by omega) s_28 hT_28 hF_28 (w28_0_3) (by omega) (by omega) w28_0_3e (by omega)
  refine ir_l (pc' := 1) rfl rfl rfl rfl rfl rfl ?_
  refine ir_tgi (pc' := 4) rfl rfl rfl tf_0_3 tsk_0 hT0 (fun z1 z1e z1l z1h => ?_)
  refine ir_z_eq (pt := 28) (pc' := 7) rfl rfl rfl (fun c2 => ?_) (fun c2 => ?_)
  · refine ir_w [] trivial ?_
    exact J28 s0 hT0 hF0 (z1) (by omega) (by omega) z1e
  · refine ir_l (pc' := 8) rfl rfl rfl rfl rfl rfl ?_
    refine ir_z_lt (pt := 28) (pc' := 11) rfl rfl rfl (fun c3 => ?_) (fun c3 => ?_)
    · refine ir_w [] trivial ?_
      exact J28 s0 hT0 hF0 (z1) (by omega) (by omega) z1e
    · refine ir_l (pc' := 12) rfl rfl rfl rfl rfl rfl ?_
      refine ir_k (pc' := 13) (v := (0, 2)) rfl rfl rfl (fun _ => rfl) ?_
      refine ir_l (pc' := 14) rfl rfl rfl rfl rfl rfl ?_
      refine ir_tgr (pc' := 17) rfl rfl rfl tf_0_4 tsk_0 hT0 (fun b4 b4e b4k => ?_)
      obtain rfl := tsg_1 b4k
      refine ir_tgi (pc' := 20) rfl rfl rfl tf_1_4 tsk_1 hT0 (fun z5 z5e z5l z5h => ?_)
      refine ir_mul (pc' := 21) rfl rfl (by omega) (by omega) ?_
      refine ir_c_gt (pt := 28) (pc' := 24) rfl rfl rfl (fun c6 => ?_) (fun c6 => ?_)
      · refine ir_w [] trivial ?_
        exact J28 s0 hT0 hF0 (z1) (by omega) (by omega) z1e
      · refine ir_k (pc' := 25) (v := (0, 1)) rfl rfl rfl (fun _ => rfl) ?_
        refine ir_goto (pc' := 29) rfl rfl ?_
        refine ir_w [] trivial ?_
        exact J29 (1) (by omega) (by omega) s0 hT0 hF0 (z1) (by omega) (by omega) z1e (by omega)
theorem sf_holds9 (L : Nat) (ys : Nat → Int32) (d : Nat) (s0 : im_S) (hT0 : tI s0) (x1 : Int) (x1l : -2147483648 ≤ x1) (x1h : x1 ≤ 2147483647) : icI gG rm_P L ys 0 (d + 2) 212 [(2, ((0 : Nat) : Int)), (0, x1)] s0 (fun z s => tI s ∧ fr [] s0 s ∧ -1 ≤ z ∧ z ≤ 1) := by
  refine ic_startM (M := rm_p_X9_holds) om_X9_holds (Nat.le_of_ble_eq_true rfl) ?_
  refine ir_w [(0, (2, ((0 : Nat) : Int))), (1, (0, x1))] ⟨rfl, rfl, trivial⟩ ?_
  have hF0 := fr_refl [] s0
  have J27 : ∀ (q27_s0 : Int) (q27_s0l : 0 ≤ q27_s0) (q27_s0h : q27_s0 ≤ 1) (s_27 : im_S) (hT_27 : tI s_27) (hF_27 : fr [] s0 s_27) (w27_0_4e : s_27.1 0 4 = ((1 : Nat) : Int)) (w27_1_6e : s_27.1 1 6 = ((579 : Nat) : Int)), ir gG rm_P L ys (d + 1) rm_p_X9_holds (27, [], [(0, q27_s0)], s_27) (fun r : im_Re => ∃ z, r.1 = some (0, z) ∧ (tI r.2 ∧ fr [] s0 r.2 ∧ -1 ≤ z ∧ z ≤ 1)) := by
    intro q27_s0 q27_s0l q27_s0h s_27 hT_27 hF_27 w27_0_4e w27_1_6e
    exact ir_iret rfl rfl ⟨_, rfl, hT_27, hF_27, by omega, by omega⟩
  refine ir_l (pc' := 1) rfl rfl rfl rfl rfl rfl ?_
  refine ir_l (pc' := 2) rfl rfl rfl rfl rfl rfl ?_
  refine ir_cVI (pc' := 5) rfl rfl rfl rfl rfl (Nat.le_of_ble_eq_true rfl) oo_X9_isCell (gG_at tsk_0) (sf_isCell9 L ys d s0 hT0 (x1) (by omega) (by omega) ) (fun z1 s2 hr => ?_)
  obtain ⟨hT2, hG2, z1l, z1h, p2_0⟩ := hr
  have hF2 := fr_trans hF0 hG2 (by decide)
  refine ir_z_ne (pt := 10) (pc' := 8) rfl rfl rfl (fun c3 => ?_) (fun c3 => ?_)
  · refine ir_l (pc' := 11) rfl rfl rfl rfl rfl rfl ?_
    refine ir_tgr (pc' := 14) rfl rfl rfl tf_0_4 tsk_0 hT2 (fun b4 b4e b4k => ?_)
    obtain rfl := tsg_1 b4k
    refine ir_tgr (pc' := 17) rfl rfl rfl tf_1_6 tsk_1 hT2 (fun b5 b5e b5k => ?_)
    obtain rfl := tsg_29 b5k
    refine ir_l (pc' := 18) rfl rfl rfl rfl rfl rfl ?_
    refine ir_tba (pc' := 19) rfl rfl te_29 (by decide) (by decide) tsk_29 hT2 (by omega) (by omega) (fun z6 z6e z6l z6h => ?_)
    clear z6e
    refine ir_z_eq (pt := 26) (pc' := 22) rfl rfl rfl (fun c7 => ?_) (fun c7 => ?_)
    · refine ir_k (pc' := 27) (v := (0, 0)) rfl rfl rfl (fun _ => rfl) ?_
      refine ir_w [] trivial ?_
      exact J27 (0) (by omega) (by omega) s2 hT2 hF2 b4e b5e
    · refine ir_k (pc' := 23) (v := (0, 1)) rfl rfl rfl (fun _ => rfl) ?_
      refine ir_goto (pc' := 27) rfl rfl ?_
      refine ir_w [] trivial ?_
      exact J27 (1) (by omega) (by omega) s2 hT2 hF2 b4e b5e
  · refine ir_k (pc' := 9) (v := (0, (-1))) rfl rfl rfl (fun _ => rfl) ?_
    exact ir_iret rfl rfl ⟨_, rfl, hT2, hF2, by omega, by omega⟩
theorem sf_judge9 (L : Nat) (ys : Nat → Int32) (d : Nat) (s0 : im_S) (hT0 : tI s0) (x1 : Int) (x1l : -2147483648 ≤ x1) (x1h : x1 ≤ 2147483647) : icI gG rm_P L ys 0 (d + 1) 219 [(2, ((0 : Nat) : Int)), (0, x1)] s0 (fun z s => tI s ∧ fr [] s0 s ∧ -2147483648 ≤ z ∧ z ≤ 2147483647) := by
  refine ic_startM (M := rm_p_X9_judge) om_X9_judge (Nat.le_of_ble_eq_true rfl) ?_
  refine ir_w [(0, (2, ((0 : Nat) : Int))), (1, (0, x1))] ⟨rfl, rfl, trivial⟩ ?_
  have hF0 := fr_refl [] s0
  have J221 : ∀ (q221_s0 : Int) (q221_s0l : 0 ≤ q221_s0) (q221_s0h : q221_s0 ≤ 1) (s_221 : im_S) (hT_221 : tI s_221) (hF_221 : fr [] s0 s_221) (w221_0_3 : Int) (w221_0_3l : 1 ≤ w221_0_3) (w221_0_3h : w221_0_3 ≤ 1) (w221_0_3e : s_221.1 0 3 = w221_0_3) (w221_0_4e : s_221.1 0 4 = ((1 : Nat) : Int)) (w221_1_4 : Int) (w221_1_4l : 0 ≤ w221_1_4) (w221_1_4h : w221_1_4 ≤ 80) (w221_1_4e : s_221.1 1 4 = w221_1_4) (w221_1_9 : Int) (w221_1_9l : -2147483648 ≤ w221_1_9) (w221_1_9h : w221_1_9 ≤ 2147483647) (w221_1_9e : s_221.1 1 9 = w221_1_9), ir gG rm_P L ys d rm_p_X9_judge (221, [], [(0, q221_s0)], s_221) (fun r : im_Re => ∃ z, r.1 = some (0, z) ∧ (tI r.2 ∧ fr [] s0 r.2 ∧ -2147483648 ≤ z ∧ z ≤ 2147483647)) := by
    intro q221_s0 q221_s0l q221_s0h s_221 hT_221 hF_221 w221_0_3 w221_0_3l w221_0_3h w221_0_3e w221_0_4e w221_1_4 w221_1_4l w221_1_4h w221_1_4e w221_1_9 w221_1_9l w221_1_9h w221_1_9e
    exact ir_iret rfl rfl ⟨_, rfl, hT_221, hF_221, by omega, by omega⟩
  have J204 : ∀ (q204_s0 : Int) (q204_s0l : 0 ≤ q204_s0) (q204_s0h : q204_s0 ≤ 1) (s_204 : im_S) (hT_204 : tI s_204) (hF_204 : fr [] s0 s_204) (w204_0_3 : Int) (w204_0_3l : 1 ≤ w204_0_3) (w204_0_3h : w204_0_3 ≤ 1) (w204_0_3e : s_204.1 0 3 = w204_0_3) (w204_0_4e : s_204.1 0 4 = ((1 : Nat) : Int)) (w204_1_4 : Int) (w204_1_4l : 0 ≤ w204_1_4) (w204_1_4h : w204_1_4 ≤ 80) (w204_1_4e : s_204.1 1 4 = w204_1_4) (w204_1_8 : Int) (w204_1_8l : -2147483648 ≤ w204_1_8) (w204_1_8h : w204_1_8 ≤ 2147483647) (w204_1_8e : s_204.1 1 8 = w204_1_8), ir gG rm_P L ys d rm_p_X9_judge (204, [], [(0, q204_s0)], s_204) (fun r : im_Re => ∃ z, r.1 = some (0, z) ∧ (tI r.2 ∧ fr [] s0 r.2 ∧ -2147483648 ≤ z ∧ z ≤ 2147483647)) := by
    intro q204_s0 q204_s0l q204_s0h s_204 hT_204 hF_204 w204_0_3 w204_0_3l w204_0_3h w204_0_3e w204_0_4e w204_1_4 w204_1_4l w204_1_4h w204_1_4e w204_1_8 w204_1_8l w204_1_8h w204_1_8e
    exact ir_iret rfl rfl ⟨_, rfl, hT_204, hF_204, by omega, by omega⟩
  have J188 : ∀ (q188_s0 : Int) (q188_s0l : 0 ≤ q188_s0) (q188_s0h : q188_s0 ≤ 1) (s_188 : im_S) (hT_188 : tI s_188) (hF_188 : fr [] s0 s_188) (w188_0_3 : Int) (w188_0_3l : 1 ≤ w188_0_3) (w188_0_3h : w188_0_3 ≤ 1) (w188_0_3e : s_188.1 0 3 = w188_0_3) (w188_0_4e : s_188.1 0 4 = ((1 : Nat) : Int)) (w188_1_4 : Int) (w188_1_4l : 0 ≤ w188_1_4) (w188_1_4h : w188_1_4 ≤ 80) (w188_1_4e : s_188.1 1 4 = w188_1_4) (w188_1_9 : Int) (w188_1_9l : -2147483648 ≤ w188_1_9) (w188_1_9h : w188_1_9 ≤ 2147483647) (w188_1_9e : s_188.1 1 9 = w188_1_9), ir gG rm_P L ys d rm_p_X9_judge (188, [], [(0, q188_s0)], s_188) (fun r : im_Re => ∃ z, r.1 = some (0, z) ∧ (tI r.2 ∧ fr [] s0 r.2 ∧ -2147483648 ≤ z ∧ z ≤ 2147483647)) := by
    intro q188_s0 q188_s0l q188_s0h s_188 hT_188 hF_188 w188_0_3 w188_0_3l w188_0_3h w188_0_3e w188_0_4e w188_1_4 w188_1_4l w188_1_4h w188_1_4e w188_1_9 w188_1_9l w188_1_9h w188_1_9e
    exact ir_iret rfl rfl ⟨_, rfl, hT_188, hF_188, by omega, by omega⟩
  have J187 : ∀ (s_187 : im_S) (hT_187 : tI s_187) (hF_187 : fr [] s0 s_187) (w187_0_3 : Int) (w187_0_3l : 1 ≤ w187_0_3) (w187_0_3h : w187_0_3 ≤ 1) (w187_0_3e : s_187.1 0 3 = w187_0_3) (w187_0_4e : s_187.1 0 4 = ((1 : Nat) : Int)) (w187_1_4 : Int) (w187_1_4l : 0 ≤ w187_1_4) (w187_1_4h : w187_1_4 ≤ 80) (w187_1_4e : s_187.1 1 4 = w187_1_4) (w187_1_9 : Int) (w187_1_9l : -2147483648 ≤ w187_1_9) (w187_1_9h : w187_1_9 ≤ 2147483647) (w187_1_9e : s_187.1 1 9 = w187_1_9), ir gG rm_P L ys d rm_p_X9_judge (187, [], [], s_187) (fun r : im_Re => ∃ z, r.1 = some (0, z) ∧ (tI r.2 ∧ fr [] s0 r.2 ∧ -2147483648 ≤ z ∧ z ≤ 2147483647)) := by
    intro s_187 hT_187 hF_187 w187_0_3 w187_0_3l w187_0_3h w187_0_3e w187_0_4e w187_1_4 w187_1_4l w187_1_4h w187_1_4e w187_1_9 w187_1_9l w187_1_9h w187_1_9e
    refine ir_k (pc' := 188) (v := (0, 0)) rfl rfl rfl (fun _ => rfl) ?_
    refine ir_w [] trivial ?_
    exact J188 (0) (by omega) (by omega) s_187 hT_187 hF_187 (w187_0_3) (by omega) (by omega) w187_0_3e w187_0_4e (w187_1_4) (by omega) (by omega) w187_1_4e (w187_1_9) (by omega) (by omega) w187_1_9e
  have J159 : ∀ (q159_s0 : Int) (q159_s0l : 0 ≤ q159_s0) (q159_s0h : q159_s0 ≤ 1) (s_159 : im_S) (hT_159 : tI s_159) (hF_159 : fr [] s0 s_159) (w159_0_3 : Int) (w159_0_3l : 1 ≤ w159_0_3) (w159_0_3h : w159_0_3 ≤ 1) (w159_0_3e : s_159.1 0 3 = w159_0_3) (w159_0_4e : s_159.1 0 4 = ((1 : Nat) : Int)) (w159_1_4 : Int) (w159_1_4l : 0 ≤ w159_1_4) (w159_1_4h : w159_1_4 ≤ 80) (w159_1_4e : s_159.1 1 4 = w159_1_4) (w159_1_8 : Int) (w159_1_8l : -2147483648 ≤ w159_1_8) (w159_1_8h : w159_1_8 ≤ 2147483647) (w159_1_8e : s_159.1 1 8 = w159_1_8), ir gG rm_P L ys d rm_p_X9_judge (159, [], [(0, q159_s0)], s_159) (fun r : im_Re => ∃ z, r.1 = some (0, z) ∧ (tI r.2 ∧ fr [] s0 r.2 ∧ -2147483648 ≤ z ∧ z ≤ 2147483647)) := by
    intro q159_s0 q159_s0l q159_s0h s_159 hT_159 hF_159 w159_0_3 w159_0_3l w159_0_3h w159_0_3e w159_0_4e w159_1_4 w159_1_4l w159_1_4h w159_1_4e w159_1_8 w159_1_8l w159_1_8h w159_1_8e
    exact ir_iret rfl rfl ⟨_, rfl, hT_159, hF_159, by omega, by omega⟩
  have J158 : ∀ (s_158 : im_S) (hT_158 : tI s_158) (hF_158 : fr [] s0 s_158) (w158_0_3 : Int) (w158_0_3l : 1 ≤ w158_0_3) (w158_0_3h : w158_0_3 ≤ 1) (w158_0_3e : s_158.1 0 3 = w158_0_3) (w158_0_4e : s_158.1 0 4 = ((1 : Nat) : Int)) (w158_1_4 : Int) (w158_1_4l : 0 ≤ w158_1_4) (w158_1_4h : w158_1_4 ≤ 80) (w158_1_4e : s_158.1 1 4 = w158_1_4) (w158_1_8 : Int) (w158_1_8l : -2147483648 ≤ w158_1_8) (w158_1_8h : w158_1_8 ≤ 2147483647) (w158_1_8e : s_158.1 1 8 = w158_1_8), ir gG rm_P L ys d rm_p_X9_judge (158, [], [], s_158) (fun r : im_Re => ∃ z, r.1 = some (0, z) ∧ (tI r.2 ∧ fr [] s0 r.2 ∧ -2147483648 ≤ z ∧ z ≤ 2147483647)) := by
    intro s_158 hT_158 hF_158 w158_0_3 w158_0_3l w158_0_3h w158_0_3e w158_0_4e w158_1_4 w158_1_4l w158_1_4h w158_1_4e w158_1_8 w158_1_8l w158_1_8h w158_1_8e
    refine ir_k (pc' := 159) (v := (0, 0)) rfl rfl rfl (fun _ => rfl) ?_
    refine ir_w [] trivial ?_
    exact J159 (0) (by omega) (by omega) s_158 hT_158 hF_158 (w158_0_3) (by omega) (by omega) w158_0_3e w158_0_4e (w158_1_4) (by omega) (by omega) w158_1_4e (w158_1_8) (by omega) (by omega) w158_1_8e
  have J106 : ∀ (q106_s0 : Int) (q106_s0l : 0 ≤ q106_s0) (q106_s0h : q106_s0 ≤ 1) (s_106 : im_S) (hT_106 : tI s_106) (hF_106 : fr [] s0 s_106) (w106_0_3 : Int) (w106_0_3l : 1 ≤ w106_0_3) (w106_0_3h : w106_0_3 ≤ 1) (w106_0_3e : s_106.1 0 3 = w106_0_3) (w106_0_4e : s_106.1 0 4 = ((1 : Nat) : Int)) (w106_1_4 : Int) (w106_1_4l : 0 ≤ w106_1_4) (w106_1_4h : w106_1_4 ≤ 80) (w106_1_4e : s_106.1 1 4 = w106_1_4) (w106_1_7 : Int) (w106_1_7l : -2147483648 ≤ w106_1_7) (w106_1_7h : w106_1_7 ≤ 2147483647) (w106_1_7e : s_106.1 1 7 = w106_1_7), ir gG rm_P L ys d rm_p_X9_judge (106, [], [(0, q106_s0)], s_106) (fun r : im_Re => ∃ z, r.1 = some (0, z) ∧ (tI r.2 ∧ fr [] s0 r.2 ∧ -2147483648 ≤ z ∧ z ≤ 2147483647)) := by
    intro q106_s0 q106_s0l q106_s0h s_106 hT_106 hF_106 w106_0_3 w106_0_3l w106_0_3h w106_0_3e w106_0_4e w106_1_4 w106_1_4l w106_1_4h w106_1_4e w106_1_7 w106_1_7l w106_1_7h w106_1_7e
    exact ir_iret rfl rfl ⟨_, rfl, hT_106, hF_106, by omega, by omega⟩
  have J87 : ∀ (q87_s0 : Int) (q87_s0l : 0 ≤ q87_s0) (q87_s0h : q87_s0 ≤ 1) (s_87 : im_S) (hT_87 : tI s_87) (hF_87 : fr [] s0 s_87) (w87_0_3 : Int) (w87_0_3l : 1 ≤ w87_0_3) (w87_0_3h : w87_0_3 ≤ 1) (w87_0_3e : s_87.1 0 3 = w87_0_3) (w87_0_4e : s_87.1 0 4 = ((1 : Nat) : Int)) (w87_1_4 : Int) (w87_1_4l : 0 ≤ w87_1_4) (w87_1_4h : w87_1_4 ≤ 80) (w87_1_4e : s_87.1 1 4 = w87_1_4) (w87_1_7 : Int) (w87_1_7l : -2147483648 ≤ w87_1_7) (w87_1_7h : w87_1_7 ≤ 2147483647) (w87_1_7e : s_87.1 1 7 = w87_1_7), ir gG rm_P L ys d rm_p_X9_judge (87, [], [(0, q87_s0)], s_87) (fun r : im_Re => ∃ z, r.1 = some (0, z) ∧ (tI r.2 ∧ fr [] s0 r.2 ∧ -2147483648 ≤ z ∧ z ≤ 2147483647)) := by
    intro q87_s0 q87_s0l q87_s0h s_87 hT_87 hF_87 w87_0_3 w87_0_3l w87_0_3h w87_0_3e w87_0_4e w87_1_4 w87_1_4l w87_1_4h w87_1_4e w87_1_7 w87_1_7l w87_1_7h w87_1_7e
    exact ir_iret rfl rfl ⟨_, rfl, hT_87, hF_87, by omega, by omega⟩
  refine ir_l (pc' := 1) rfl rfl rfl rfl rfl rfl ?_
  refine ir_tgi (pc' := 4) rfl rfl rfl tf_0_3 tsk_0 hT0 (fun z1 z1e z1l z1h => ?_)
  refine ir_z_ne (pt := 9) (pc' := 7) rfl rfl rfl (fun c2 => ?_) (fun c2 => ?_)
  · refine ir_k (pc' := 10) (v := (0, 2)) rfl rfl rfl (fun _ => rfl) ?_
    refine ir_l (pc' := 11) rfl rfl rfl rfl rfl rfl ?_
    refine ir_tgr (pc' := 14) rfl rfl rfl tf_0_4 tsk_0 hT0 (fun b3 b3e b3k => ?_)
    obtain rfl := tsg_1 b3k
    refine ir_tgi (pc' := 17) rfl rfl rfl tf_1_4 tsk_1 hT0 (fun z4 z4e z4l z4h => ?_)
    refine ir_mul (pc' := 18) rfl rfl (by omega) (by omega) ?_
    refine ir_s (pc' := 19) rfl rfl rfl rfl rfl rfl ?_
    refine ir_l (pc' := 20) rfl rfl rfl rfl rfl rfl ?_
    rcases (by omega : (x1 < 0 ∨ 8 < x1) ∨ x1 = 0 ∨ x1 = 1 ∨ x1 = 2 ∨ x1 = 3 ∨ x1 = 4 ∨ x1 = 5 ∨ x1 = 6 ∨ x1 = 7 ∨ x1 = 8) with c5 | c5 | c5 | c5 | c5 | c5 | c5 | c5 | c5 | c5
    · refine ir_tabD (pc' := 222) rfl c5 rfl ?_
      refine ir_k (pc' := 223) (v := (0, (-1))) rfl rfl rfl (fun _ => rfl) ?_
      exact ir_iret rfl rfl ⟨_, rfl, hT0, hF0, by omega, by omega⟩
    · refine ir_tab (pc' := 72) 0 rfl (by omega) (by decide) rfl rfl ?_
      refine ir_l (pc' := 73) rfl rfl rfl rfl rfl rfl ?_
      refine ir_getR (pc' := 76) rfl rfl rfl (gG_at tsk_0) rfl b3e ?_
      refine ir_tgi (pc' := 79) rfl rfl rfl tf_1_7 tsk_1 hT0 (fun z6 z6e z6l z6h => ?_)
      refine ir_z_le (pt := 86) (pc' := 82) rfl rfl rfl (fun c7 => ?_) (fun c7 => ?_)
      · refine ir_k (pc' := 87) (v := (0, 0)) rfl rfl rfl (fun _ => rfl) ?_
        refine ir_w [] trivial ?_
        exact J87 (0) (by omega) (by omega) s0 hT0 hF0 (z1) (by omega) (by omega) z1e b3e (z4) (by omega) (by omega) z4e (z6) (by omega) (by omega) z6e
      · refine ir_k (pc' := 83) (v := (0, 1)) rfl rfl rfl (fun _ => rfl) ?_
        refine ir_goto (pc' := 87) rfl rfl ?_
        refine ir_w [] trivial ?_
        exact J87 (1) (by omega) (by omega) s0 hT0 hF0 (z1) (by omega) (by omega) z1e b3e (z4) (by omega) (by omega) z4e (z6) (by omega) (by omega) z6e
    · refine ir_tab (pc' := 88) 1 rfl (by omega) (by decide) rfl rfl ?_
      refine ir_l (pc' := 89) rfl rfl rfl rfl rfl rfl ?_
      refine ir_getR (pc' := 92) rfl rfl rfl (gG_at tsk_0) rfl b3e ?_
      refine ir_tgi (pc' := 95) rfl rfl rfl tf_1_7 tsk_1 hT0 (fun z8 z8e z8l z8h => ?_)
      refine ir_l (pc' := 96) rfl rfl rfl rfl rfl rfl ?_
      refine ir_k (pc' := 97) (v := (0, 1)) rfl rfl rfl (fun _ => rfl) ?_
      refine ir_add (pc' := 98) rfl rfl (by omega) (by omega) ?_
      refine ir_c_ne (pt := 105) (pc' := 101) rfl rfl rfl (fun c9 => ?_) (fun c9 => ?_)
      · refine ir_k (pc' := 106) (v := (0, 0)) rfl rfl rfl (fun _ => rfl) ?_
        refine ir_w [] trivial ?_
        exact J106 (0) (by omega) (by omega) s0 hT0 hF0 (z1) (by omega) (by omega) z1e b3e (z4) (by omega) (by omega) z4e (z8) (by omega) (by omega) z8e
      · refine ir_k (pc' := 102) (v := (0, 1)) rfl rfl rfl (fun _ => rfl) ?_
        refine ir_goto (pc' := 106) rfl rfl ?_
        refine ir_w [] trivial ?_
        exact J106 (1) (by omega) (by omega) s0 hT0 hF0 (z1) (by omega) (by omega) z1e b3e (z4) (by omega) (by omega) z4e (z8) (by omega) (by omega) z8e
    · refine ir_tab (pc' := 107) 2 rfl (by omega) (by decide) rfl rfl ?_
      refine ir_l (pc' := 108) rfl rfl rfl rfl rfl rfl ?_
      refine ir_getR (pc' := 111) rfl rfl rfl (gG_at tsk_0) rfl b3e ?_
      refine ir_tgi (pc' := 114) rfl rfl rfl tf_1_8 tsk_1 hT0 (fun z10 z10e z10l z10h => ?_)
      exact ir_iret rfl rfl ⟨_, rfl, hT0, hF0, by omega, by omega⟩
    · refine ir_tab (pc' := 115) 3 rfl (by omega) (by decide) rfl rfl ?_
      refine ir_l (pc' := 116) rfl rfl rfl rfl rfl rfl ?_
      refine ir_getR (pc' := 119) rfl rfl rfl (gG_at tsk_0) rfl b3e ?_
      refine ir_tgi (pc' := 122) rfl rfl rfl tf_1_9 tsk_1 hT0 (fun z11 z11e z11l z11h => ?_)
      exact ir_iret rfl rfl ⟨_, rfl, hT0, hF0, by omega, by omega⟩
    · refine ir_tab (pc' := 123) 4 rfl (by omega) (by decide) rfl rfl ?_
      refine ir_l (pc' := 124) rfl rfl rfl rfl rfl rfl ?_
      refine ir_getR (pc' := 127) rfl rfl rfl (gG_at tsk_0) rfl b3e ?_
      refine ir_tgi (pc' := 130) rfl rfl rfl tf_1_10 tsk_1 hT0 (fun z12 z12e z12l z12h => ?_)
      exact ir_iret rfl rfl ⟨_, rfl, hT0, hF0, by omega, by omega⟩
    · refine ir_tab (pc' := 131) 5 rfl (by omega) (by decide) rfl rfl ?_
      refine ir_l (pc' := 132) rfl rfl rfl rfl rfl rfl ?_
      refine ir_getR (pc' := 135) rfl rfl rfl (gG_at tsk_0) rfl b3e ?_
      refine ir_tgi (pc' := 138) rfl rfl rfl tf_1_8 tsk_1 hT0 (fun z13 z13e z13l z13h => ?_)
      refine ir_z_lt (pt := 158) (pc' := 141) rfl rfl rfl (fun c14 => ?_) (fun c14 => ?_)
      · refine ir_w [] trivial ?_
        exact J158 s0 hT0 hF0 (z1) (by omega) (by omega) z1e b3e (z4) (by omega) (by omega) z4e (z13) (by omega) (by omega) z13e
      · refine ir_l (pc' := 142) rfl rfl rfl rfl rfl rfl ?_
        refine ir_getR (pc' := 145) rfl rfl rfl (gG_at tsk_0) rfl b3e ?_
        refine ir_getI (pc' := 148) rfl rfl rfl (gG_at tsk_1) rfl (by decide) (by decide) z13e (by omega) (by omega) ?_
        refine ir_k (pc' := 149) (v := (0, 2)) rfl rfl rfl (fun _ => rfl) ?_
        refine ir_remN (pc' := 150) rfl rfl (by omega) (by omega) (by omega) (by omega) ?_
        refine ir_k (pc' := 151) (v := (0, 1)) rfl rfl rfl (fun _ => rfl) ?_
        refine ir_c_ne (pt := 158) (pc' := 154) rfl rfl rfl (fun c15 => ?_) (fun c15 => ?_)
        · refine ir_w [] trivial ?_
          exact J158 s0 hT0 hF0 (z1) (by omega) (by omega) z1e b3e (z4) (by omega) (by omega) z4e (z13) (by omega) (by omega) z13e
        · refine ir_k (pc' := 155) (v := (0, 1)) rfl rfl rfl (fun _ => rfl) ?_
          refine ir_goto (pc' := 159) rfl rfl ?_
          refine ir_w [] trivial ?_
          exact J159 (1) (by omega) (by omega) s0 hT0 hF0 (z1) (by omega) (by omega) z1e b3e (z4) (by omega) (by omega) z4e (z13) (by omega) (by omega) z13e
    · refine ir_tab (pc' := 160) 6 rfl (by omega) (by decide) rfl rfl ?_
      refine ir_l (pc' := 161) rfl rfl rfl rfl rfl rfl ?_
      refine ir_getR (pc' := 164) rfl rfl rfl (gG_at tsk_0) rfl b3e ?_
      refine ir_tgi (pc' := 167) rfl rfl rfl tf_1_9 tsk_1 hT0 (fun z16 z16e z16l z16h => ?_)
      refine ir_z_lt (pt := 187) (pc' := 170) rfl rfl rfl (fun c17 => ?_) (fun c17 => ?_)
      · refine ir_w [] trivial ?_
        exact J187 s0 hT0 hF0 (z1) (by omega) (by omega) z1e b3e (z4) (by omega) (by omega) z4e (z16) (by omega) (by omega) z16e
      · refine ir_l (pc' := 171) rfl rfl rfl rfl rfl rfl ?_
        refine ir_getR (pc' := 174) rfl rfl rfl (gG_at tsk_0) rfl b3e ?_
        refine ir_getI (pc' := 177) rfl rfl rfl (gG_at tsk_1) rfl (by decide) (by decide) z16e (by omega) (by omega) ?_
        refine ir_k (pc' := 178) (v := (0, 2)) rfl rfl rfl (fun _ => rfl) ?_
        refine ir_remN (pc' := 179) rfl rfl (by omega) (by omega) (by omega) (by omega) ?_
        refine ir_k (pc' := 180) (v := (0, 1)) rfl rfl rfl (fun _ => rfl) ?_
        refine ir_c_ne (pt := 187) (pc' := 183) rfl rfl rfl (fun c18 => ?_) (fun c18 => ?_)
        · refine ir_w [] trivial ?_
          exact J187 s0 hT0 hF0 (z1) (by omega) (by omega) z1e b3e (z4) (by omega) (by omega) z4e (z16) (by omega) (by omega) z16e
        · refine ir_k (pc' := 184) (v := (0, 1)) rfl rfl rfl (fun _ => rfl) ?_
          refine ir_goto (pc' := 188) rfl rfl ?_
          refine ir_w [] trivial ?_
          exact J188 (1) (by omega) (by omega) s0 hT0 hF0 (z1) (by omega) (by omega) z1e b3e (z4) (by omega) (by omega) z4e (z16) (by omega) (by omega) z16e
    · refine ir_tab (pc' := 189) 7 rfl (by omega) (by decide) rfl rfl ?_
      refine ir_l (pc' := 190) rfl rfl rfl rfl rfl rfl ?_
      refine ir_getR (pc' := 193) rfl rfl rfl (gG_at tsk_0) rfl b3e ?_
      refine ir_tgi (pc' := 196) rfl rfl rfl tf_1_8 tsk_1 hT0 (fun z19 z19e z19l z19h => ?_)
      refine ir_z_ne (pt := 203) (pc' := 199) rfl rfl rfl (fun c20 => ?_) (fun c20 => ?_)
      · refine ir_k (pc' := 204) (v := (0, 0)) rfl rfl rfl (fun _ => rfl) ?_
        refine ir_w [] trivial ?_
        exact J204 (0) (by omega) (by omega) s0 hT0 hF0 (z1) (by omega) (by omega) z1e b3e (z4) (by omega) (by omega) z4e (z19) (by omega) (by omega) z19e
      · refine ir_k (pc' := 200) (v := (0, 1)) rfl rfl rfl (fun _ => rfl) ?_
        refine ir_goto (pc' := 204) rfl rfl ?_
        refine ir_w [] trivial ?_
        exact J204 (1) (by omega) (by omega) s0 hT0 hF0 (z1) (by omega) (by omega) z1e b3e (z4) (by omega) (by omega) z4e (z19) (by omega) (by omega) z19e
    · refine ir_tab (pc' := 205) 8 rfl (by omega) (by decide) rfl rfl ?_
      refine ir_l (pc' := 206) rfl rfl rfl rfl rfl rfl ?_
      refine ir_getR (pc' := 209) rfl rfl rfl (gG_at tsk_0) rfl b3e ?_
      refine ir_tgi (pc' := 212) rfl rfl rfl tf_1_9 tsk_1 hT0 (fun z21 z21e z21l z21h => ?_)
      refine ir_l (pc' := 213) rfl rfl rfl rfl rfl rfl ?_
      refine ir_c_ne (pt := 220) (pc' := 216) rfl rfl rfl (fun c22 => ?_) (fun c22 => ?_)
      · refine ir_k (pc' := 221) (v := (0, 0)) rfl rfl rfl (fun _ => rfl) ?_
        refine ir_w [] trivial ?_
        exact J221 (0) (by omega) (by omega) s0 hT0 hF0 (z1) (by omega) (by omega) z1e b3e (z4) (by omega) (by omega) z4e (z21) (by omega) (by omega) z21e
      · refine ir_k (pc' := 217) (v := (0, 1)) rfl rfl rfl (fun _ => rfl) ?_
        refine ir_goto (pc' := 221) rfl rfl ?_
        refine ir_w [] trivial ?_
        exact J221 (1) (by omega) (by omega) s0 hT0 hF0 (z1) (by omega) (by omega) z1e b3e (z4) (by omega) (by omega) z4e (z21) (by omega) (by omega) z21e
  · refine ir_k (pc' := 8) (v := (0, (-1))) rfl rfl rfl (fun _ => rfl) ?_
    exact ir_iret rfl rfl ⟨_, rfl, hT0, hF0, by omega, by omega⟩
