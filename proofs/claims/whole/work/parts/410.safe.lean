/-! WALKS OF THE CLASS'S METHODS, by program -/
theorem sf_compareWith3 (L : Nat) (ys : Nat → Int32) (d : Nat) (s0 : im_S) (hT0 : tI s0) (a1 : Nat) (a1k : gK[a1]? = some 23) (x2 : Int) (x2l : -9223372036854775808 ≤ x2) (x2h : x2 ≤ 9223372036854775807) (x3 : Int) (x3l : -9223372036854775808 ≤ x3) (x3h : x3 ≤ 9223372036854775807) (x4 : Int) (x4l : -9223372036854775808 ≤ x4) (x4h : x4 ≤ 9223372036854775807) : icI gG rm_P L ys 0 (d + 5) 133 [(2, ((83 : Nat) : Int)), (2, (a1 : Int)), (1, x2), (1, x3), (1, x4)] s0 (fun z s => tI s ∧ fr [(19, 1), (19, 2), (25, 1), (25, 2)] s0 s ∧ -1 ≤ z ∧ z ≤ 1) := by
  refine ic_startM (M := rm_p_X3_compareWith) om_X3_compareWith (Nat.le_of_ble_eq_true rfl) ?_
  refine ir_w [(0, (2, ((83 : Nat) : Int))), (1, (2, ((a1 : Nat) : Int))), (2, (1, x2)), (4, (1, x3)), (6, (1, x4))] ⟨rfl, rfl, rfl, rfl, rfl, trivial⟩ ?_
  have hF0 := fr_refl [(19, 1), (19, 2), (25, 1), (25, 2)] s0
  have J142 : ∀ (q142_s0 : Int) (q142_s0l : -1 ≤ q142_s0) (q142_s0h : q142_s0 ≤ 1) (s_142 : im_S) (hT_142 : tI s_142) (hF_142 : fr [(19, 1), (19, 2), (25, 1), (25, 2)] s0 s_142) (w142_83_0e : s_142.1 83 0 = ((84 : Nat) : Int)) (w142_84_0e : s_142.1 84 0 = ((85 : Nat) : Int)) (w142_a1_0 : Int) (w142_a1_0l : 0 ≤ w142_a1_0) (w142_a1_0h : w142_a1_0 ≤ 79) (w142_a1_0e : s_142.1 a1 0 = w142_a1_0) (w142_a1_1 : Int) (w142_a1_1l : 0 ≤ w142_a1_1) (w142_a1_1h : w142_a1_1 ≤ 0) (w142_a1_1e : s_142.1 a1 1 = w142_a1_1) (w142_a1_4 : Int) (w142_a1_4l : -9223372036854775808 ≤ w142_a1_4) (w142_a1_4h : w142_a1_4 ≤ 9223372036854775807) (w142_a1_4e : s_142.1 a1 4 = w142_a1_4) (w142_a1_5 : Int) (w142_a1_5l : -9223372036854775808 ≤ w142_a1_5) (w142_a1_5h : w142_a1_5 ≤ 9223372036854775807) (w142_a1_5e : s_142.1 a1 5 = w142_a1_5) (w142_a1_9 : Int) (w142_a1_9l : -2147483648 ≤ w142_a1_9) (w142_a1_9h : w142_a1_9 ≤ 2147483647) (w142_a1_9e : s_142.1 a1 9 = w142_a1_9), ir gG rm_P L ys (d + 4) rm_p_X3_compareWith (142, [], [(0, q142_s0)], s_142) (fun r : im_Re => ∃ z, r.1 = some (0, z) ∧ (tI r.2 ∧ fr [(19, 1), (19, 2), (25, 1), (25, 2)] s0 r.2 ∧ -1 ≤ z ∧ z ≤ 1)) := by
    intro q142_s0 q142_s0l q142_s0h s_142 hT_142 hF_142 w142_83_0e w142_84_0e w142_a1_0 w142_a1_0l w142_a1_0h w142_a1_0e w142_a1_1 w142_a1_1l w142_a1_1h w142_a1_1e w142_a1_4 w142_a1_4l w142_a1_4h w142_a1_4e w142_a1_5 w142_a1_5l w142_a1_5h w142_a1_5e w142_a1_9 w142_a1_9l w142_a1_9h w142_a1_9e
    exact ir_iret rfl rfl ⟨_, rfl, hT_142, hF_142, by omega, by omega⟩
  refine ir_l (pc' := 1) rfl rfl rfl rfl rfl rfl ?_
  refine ir_tgj (pc' := 4) rfl rfl rfl tf_23_4 a1k hT0 (fun z1 z1e z1l z1h => ?_)
  refine ir_l (pc' := 5) rfl rfl rfl rfl rfl rfl ?_
  refine ir_lcmp (pc' := 6) rfl rfl (by omega) (by omega) (by omega) (by omega) (fun z2 z2c => ?_)
  refine ir_z_eq (pt := 18) (pc' := 9) rfl rfl rfl (fun c3 => ?_) (fun c3 => ?_)
  · refine ir_l (pc' := 19) rfl rfl rfl rfl rfl rfl ?_
    refine ir_tgi (pc' := 22) rfl rfl rfl tf_23_1 a1k hT0 (fun z4 z4e z4l z4h => ?_)
    refine ir_z_eq (pt := 43) (pc' := 25) rfl rfl rfl (fun c5 => ?_) (fun c5 => ?_)
    · refine ir_l (pc' := 45) rfl rfl rfl rfl rfl rfl ?_
      refine ir_k (pc' := 47) (v := (0, 32)) rfl rfl rfl (fun _ => rfl) ?_
      refine ir_jijA (pc' := 48) rfl rfl rfl rfl (fun z6 z6l z6h => ?_)
      refine ir_l (pc' := 49) rfl rfl rfl rfl rfl rfl ?_
      refine ir_tgj (pc' := 52) rfl rfl rfl tf_23_5 a1k hT0 (fun z7 z7e z7l z7h => ?_)
      refine ir_l (pc' := 54) rfl rfl rfl rfl rfl rfl ?_
      refine ir_jjA (pc' := 55) rfl rfl rfl rfl (fun z8 z8l z8h => ?_)
      refine ir_lcmp (pc' := 56) rfl rfl (by omega) (by omega) (by omega) (by omega) (fun z9 z9c => ?_)
      refine ir_z_gt (pt := 61) (pc' := 59) rfl rfl rfl (fun c10 => ?_) (fun c10 => ?_)
      · refine ir_l (pc' := 63) rfl rfl rfl rfl rfl rfl ?_
        refine ir_k (pc' := 65) (v := (0, 32)) rfl rfl rfl (fun _ => rfl) ?_
        refine ir_jijA (pc' := 66) rfl rfl rfl rfl (fun z11 z11l z11h => ?_)
        refine ir_l (pc' := 67) rfl rfl rfl rfl rfl rfl ?_
        refine ir_getJ (pc' := 70) rfl rfl rfl (gG_at a1k) rfl z7e (by omega) (by omega) ?_
        refine ir_k (pc' := 71) (v := (1, 1)) rfl rfl rfl (fun _ => rfl) ?_
        refine ir_jjA (pc' := 72) rfl rfl rfl rfl (fun z12 z12l z12h => ?_)
        refine ir_l (pc' := 74) rfl rfl rfl rfl rfl rfl ?_
        refine ir_jjA (pc' := 75) rfl rfl rfl rfl (fun z13 z13l z13h => ?_)
        refine ir_lcmp (pc' := 76) rfl rfl (by omega) (by omega) (by omega) (by omega) (fun z14 z14c => ?_)
        refine ir_z_lt (pt := 81) (pc' := 79) rfl rfl rfl (fun c15 => ?_) (fun c15 => ?_)
        · refine ir_l (pc' := 82) rfl rfl rfl rfl rfl rfl ?_
          refine ir_l (pc' := 84) rfl rfl rfl rfl rfl rfl ?_
          refine ir_jjA (pc' := 85) rfl rfl rfl rfl (fun z16 z16l z16h => ?_)
          refine ir_l (pc' := 87) rfl rfl rfl rfl rfl rfl ?_
          refine ir_jjA (pc' := 88) rfl rfl rfl rfl (fun z17 z17l z17h => ?_)
          refine ir_s2 (pc' := 90) rfl rfl rfl rfl rfl rfl ?_
          refine ir_l (pc' := 91) rfl rfl rfl rfl rfl rfl ?_
          refine ir_l (pc' := 92) rfl rfl rfl rfl rfl rfl ?_
          refine ir_l (pc' := 94) rfl rfl rfl rfl rfl rfl ?_
          refine ir_l (pc' := 96) rfl rfl rfl rfl rfl rfl ?_
          refine ir_cVI (pc' := 99) rfl rfl rfl rfl rfl (Nat.le_of_ble_eq_true rfl) oo_X3_sideOf (gG_at tsk_10) (sf_sideOf3 L ys d s0 hT0 a1 a1k (z17) (by omega) (by omega) (x4) (by omega) (by omega) ) (fun z18 s19 hr => ?_)
          obtain ⟨hT19, hG19, z18l, z18h⟩ := hr
          have hF19 := fr_trans hF0 hG19 (by decide)
          have e20 : s19.1 a1 4 = z1 := (hG19.1 _ _ a1k 4 (by decide)).trans z1e
          have e21 : s19.1 a1 1 = z4 := (hG19.1 _ _ a1k 1 (by decide)).trans z4e
          have e22 : s19.1 a1 5 = z7 := (hG19.1 _ _ a1k 5 (by decide)).trans z7e
          refine ir_s (pc' := 101) rfl rfl rfl rfl rfl rfl ?_
          refine ir_l (pc' := 103) rfl rfl rfl rfl rfl rfl ?_
          refine ir_z_eq (pt := 110) (pc' := 106) rfl rfl rfl (fun c23 => ?_) (fun c23 => ?_)
          · refine ir_l (pc' := 111) rfl rfl rfl rfl rfl rfl ?_
            refine ir_l (pc' := 112) rfl rfl rfl rfl rfl rfl ?_
            refine ir_tgr (pc' := 115) rfl rfl rfl tf_10_0 tsk_10 hT19 (fun b24 b24e b24k => ?_)
            obtain rfl := tsg_11 b24k
            refine ir_tgr (pc' := 118) rfl rfl rfl tf_11_0 tsk_11 hT19 (fun b25 b25e b25k => ?_)
            obtain rfl := tsg_12 b25k
            refine ir_l (pc' := 119) rfl rfl rfl rfl rfl rfl ?_
            refine ir_tgi (pc' := 122) rfl rfl rfl tf_23_0 a1k hT19 (fun z26 z26e z26l z26h => ?_)
            refine ir_taa (pc' := 123) (k2 := 4) rfl rfl te_12 (by decide) tsk_12 hT19 (by omega) (by omega) (fun b27 b27k => ?_)
            refine ir_l (pc' := 125) rfl rfl rfl rfl rfl rfl ?_
            refine ir_l (pc' := 127) rfl rfl rfl rfl rfl rfl ?_
            refine ir_cVI (pc' := 130) rfl rfl rfl rfl rfl (Nat.le_of_ble_eq_true rfl) oo_X3_signAtFraction (gG_at tsk_10) (sf_signAtFraction3 L ys d s19 hT19 b27 b27k (z17) (by omega) (by omega) (x4) (by omega) (by omega) ) (fun z28 s29 hr => ?_)
            obtain ⟨hT29, hG29, z28l, z28h⟩ := hr
            have hF29 := fr_trans hF19 hG29 (by decide)
            have e30 : s29.1 a1 4 = z1 := (hG29.1 _ _ a1k 4 (by decide)).trans e20
            have e31 : s29.1 a1 1 = z4 := (hG29.1 _ _ a1k 1 (by decide)).trans e21
            have e32 : s29.1 a1 5 = z7 := (hG29.1 _ _ a1k 5 (by decide)).trans e22
            have e33 : s29.1 83 0 = ((84 : Nat) : Int) := (hG29.1 _ _ tsk_10 0 (by decide)).trans b24e
            have e34 : s29.1 84 0 = ((85 : Nat) : Int) := (hG29.1 _ _ tsk_11 0 (by decide)).trans b25e
            have e35 : s29.1 a1 0 = z26 := (hG29.1 _ _ a1k 0 (by decide)).trans z26e
            refine ir_l (pc' := 131) rfl rfl rfl rfl rfl rfl ?_
            refine ir_tgi (pc' := 134) rfl rfl rfl tf_23_9 a1k hT29 (fun z36 z36e z36l z36h => ?_)
            refine ir_c_ne (pt := 141) (pc' := 137) rfl rfl rfl (fun c37 => ?_) (fun c37 => ?_)
            · refine ir_k (pc' := 142) (v := (0, (-1))) rfl rfl rfl (fun _ => rfl) ?_
              refine ir_w [] trivial ?_
              exact J142 ((-1)) (by omega) (by omega) s29 hT29 hF29 e33 e34 (z26) (by omega) (by omega) e35 (z4) (by omega) (by omega) e31 (z1) (by omega) (by omega) e30 (z7) (by omega) (by omega) e32 (z36) (by omega) (by omega) z36e
            · refine ir_k (pc' := 138) (v := (0, 1)) rfl rfl rfl (fun _ => rfl) ?_
              refine ir_goto (pc' := 142) rfl rfl ?_
              refine ir_w [] trivial ?_
              exact J142 (1) (by omega) (by omega) s29 hT29 hF29 e33 e34 (z26) (by omega) (by omega) e35 (z4) (by omega) (by omega) e31 (z1) (by omega) (by omega) e30 (z7) (by omega) (by omega) e32 (z36) (by omega) (by omega) z36e
          · refine ir_l (pc' := 108) rfl rfl rfl rfl rfl rfl ?_
            refine ir_ineg (pc' := 109) rfl rfl (by omega) (by omega) ?_
            exact ir_iret rfl rfl ⟨_, rfl, hT19, hF19, by omega, by omega⟩
        · refine ir_k (pc' := 80) (v := (0, (-1))) rfl rfl rfl (fun _ => rfl) ?_
          exact ir_iret rfl rfl ⟨_, rfl, hT0, hF0, by omega, by omega⟩
      · refine ir_k (pc' := 60) (v := (0, 1)) rfl rfl rfl (fun _ => rfl) ?_
        exact ir_iret rfl rfl ⟨_, rfl, hT0, hF0, by omega, by omega⟩
    · refine ir_l (pc' := 26) rfl rfl rfl rfl rfl rfl ?_
      refine ir_tgj (pc' := 29) rfl rfl rfl tf_23_5 a1k hT0 (fun z38 z38e z38l z38h => ?_)
      refine ir_l (pc' := 31) rfl rfl rfl rfl rfl rfl ?_
      refine ir_jjA (pc' := 32) rfl rfl rfl rfl (fun z39 z39l z39h => ?_)
      refine ir_l (pc' := 34) rfl rfl rfl rfl rfl rfl ?_
      refine ir_l (pc' := 35) rfl rfl rfl rfl rfl rfl ?_
      refine ir_tgj (pc' := 38) rfl rfl rfl tf_23_3 a1k hT0 (fun z40 z40e z40l z40h => ?_)
      refine ir_jjA (pc' := 39) rfl rfl rfl rfl (fun z41 z41l z41h => ?_)
      refine ir_cSI (pc' := 42) rfl rfl rfl rfl rfl rfl (Nat.le_of_ble_eq_true rfl) (sf_cmpJ L ys (d + 3) s0 (z39) (by omega) (by omega) (z41) (by omega) (by omega)) (fun z42 s43 hr => ?_)
      obtain ⟨rfl, z42p0, z42p1⟩ := hr
      exact ir_iret rfl rfl ⟨_, rfl, hT0, hF0, by omega, by omega⟩
  · refine ir_l (pc' := 10) rfl rfl rfl rfl rfl rfl ?_
    refine ir_getJ (pc' := 13) rfl rfl rfl (gG_at a1k) rfl z1e (by omega) (by omega) ?_
    refine ir_l (pc' := 14) rfl rfl rfl rfl rfl rfl ?_
    refine ir_cSI (pc' := 17) rfl rfl rfl rfl rfl rfl (Nat.le_of_ble_eq_true rfl) (sf_cmpJ L ys (d + 3) s0 (z1) (by omega) (by omega) (x2) (by omega) (by omega)) (fun z44 s45 hr => ?_)
    obtain ⟨rfl, z44p0, z44p1⟩ := hr
    exact ir_iret rfl rfl ⟨_, rfl, hT0, hF0, by omega, by omega⟩
theorem sf_compareQuickly3 (L : Nat) (ys : Nat → Int32) (d : Nat) (s0 : im_S) (hT0 : tI s0) (a1 : Nat) (a1k : gK[a1]? = some 23) (a2 : Nat) (a2k : gK[a2]? = some 23) : icI gG rm_P L ys 0 (d + 6) 132 [(2, ((83 : Nat) : Int)), (2, (a1 : Int)), (2, (a2 : Int))] s0 (fun z s => tI s ∧ fr [(19, 1), (19, 2), (25, 1), (25, 2)] s0 s ∧ -1 ≤ z ∧ z ≤ 1) := by
  refine ic_startM (M := rm_p_X3_compareQuickly) om_X3_compareQuickly (Nat.le_of_ble_eq_true rfl) ?_
  refine ir_w [(0, (2, ((83 : Nat) : Int))), (1, (2, ((a1 : Nat) : Int))), (2, (2, ((a2 : Nat) : Int)))] ⟨rfl, rfl, rfl, trivial⟩ ?_
  have hF0 := fr_refl [(19, 1), (19, 2), (25, 1), (25, 2)] s0
  have J88 : ∀ (q88_s0 : Int) (q88_s0l : -1 ≤ q88_s0) (q88_s0h : q88_s0 ≤ 1) (s_88 : im_S) (hT_88 : tI s_88) (hF_88 : fr [(19, 1), (19, 2), (25, 1), (25, 2)] s0 s_88) (w88_a1_1 : Int) (w88_a1_1l : 0 ≤ w88_a1_1) (w88_a1_1h : w88_a1_1 ≤ 0) (w88_a1_1e : s_88.1 a1 1 = w88_a1_1) (w88_a1_4 : Int) (w88_a1_4l : -9223372036854775808 ≤ w88_a1_4) (w88_a1_4h : w88_a1_4 ≤ 9223372036854775807) (w88_a1_4e : s_88.1 a1 4 = w88_a1_4) (w88_a2_1 : Int) (w88_a2_1l : 0 ≤ w88_a2_1) (w88_a2_1h : w88_a2_1 ≤ 0) (w88_a2_1e : s_88.1 a2 1 = w88_a2_1) (w88_a2_4 : Int) (w88_a2_4l : -9223372036854775808 ≤ w88_a2_4) (w88_a2_4h : w88_a2_4 ≤ 9223372036854775807) (w88_a2_4e : s_88.1 a2 4 = w88_a2_4), ir gG rm_P L ys (d + 5) rm_p_X3_compareQuickly (88, [], [(0, q88_s0)], s_88) (fun r : im_Re => ∃ z, r.1 = some (0, z) ∧ (tI r.2 ∧ fr [(19, 1), (19, 2), (25, 1), (25, 2)] s0 r.2 ∧ -1 ≤ z ∧ z ≤ 1)) := by
    intro q88_s0 q88_s0l q88_s0h s_88 hT_88 hF_88 w88_a1_1 w88_a1_1l w88_a1_1h w88_a1_1e w88_a1_4 w88_a1_4l w88_a1_4h w88_a1_4e w88_a2_1 w88_a2_1l w88_a2_1h w88_a2_1e w88_a2_4 w88_a2_4l w88_a2_4h w88_a2_4e
    exact ir_iret rfl rfl ⟨_, rfl, hT_88, hF_88, by omega, by omega⟩
  refine ir_l (pc' := 1) rfl rfl rfl rfl rfl rfl ?_
  refine ir_tgi (pc' := 4) rfl rfl rfl tf_23_1 a2k hT0 (fun z1 z1e z1l z1h => ?_)
  refine ir_z_eq (pt := 25) (pc' := 7) rfl rfl rfl (fun c2 => ?_) (fun c2 => ?_)
  · refine ir_l (pc' := 26) rfl rfl rfl rfl rfl rfl ?_
    refine ir_tgi (pc' := 29) rfl rfl rfl tf_23_1 a1k hT0 (fun z3 z3e z3l z3h => ?_)
    refine ir_z_eq (pt := 51) (pc' := 32) rfl rfl rfl (fun c4 => ?_) (fun c4 => ?_)
    · refine ir_l (pc' := 52) rfl rfl rfl rfl rfl rfl ?_
      refine ir_tgj (pc' := 55) rfl rfl rfl tf_23_4 a1k hT0 (fun z5 z5e z5l z5h => ?_)
      refine ir_l (pc' := 56) rfl rfl rfl rfl rfl rfl ?_
      refine ir_tgj (pc' := 59) rfl rfl rfl tf_23_4 a2k hT0 (fun z6 z6e z6l z6h => ?_)
      refine ir_lcmp (pc' := 60) rfl rfl (by omega) (by omega) (by omega) (by omega) (fun z7 z7c => ?_)
      refine ir_z_eq (pt := 77) (pc' := 63) rfl rfl rfl (fun c8 => ?_) (fun c8 => ?_)
      · refine ir_l (pc' := 78) rfl rfl rfl rfl rfl rfl ?_
        refine ir_tgj (pc' := 81) rfl rfl rfl tf_23_5 a1k hT0 (fun z9 z9e z9l z9h => ?_)
        refine ir_l (pc' := 82) rfl rfl rfl rfl rfl rfl ?_
        refine ir_tgj (pc' := 85) rfl rfl rfl tf_23_5 a2k hT0 (fun z10 z10e z10l z10h => ?_)
        refine ir_cSI (pc' := 88) rfl rfl rfl rfl rfl rfl (Nat.le_of_ble_eq_true rfl) (sf_cmpJ L ys (d + 4) s0 (z9) (by omega) (by omega) (z10) (by omega) (by omega)) (fun z11 s12 hr => ?_)
        obtain ⟨rfl, z11p0, z11p1⟩ := hr
        refine ir_w [] trivial ?_
        exact J88 (z11) (by omega) (by omega) s0 hT0 hF0 (z3) (by omega) (by omega) z3e (z5) (by omega) (by omega) z5e (z1) (by omega) (by omega) z1e (z6) (by omega) (by omega) z6e
      · refine ir_l (pc' := 64) rfl rfl rfl rfl rfl rfl ?_
        refine ir_getJ (pc' := 67) rfl rfl rfl (gG_at a1k) rfl z5e (by omega) (by omega) ?_
        refine ir_l (pc' := 68) rfl rfl rfl rfl rfl rfl ?_
        refine ir_getJ (pc' := 71) rfl rfl rfl (gG_at a2k) rfl z6e (by omega) (by omega) ?_
        refine ir_cSI (pc' := 74) rfl rfl rfl rfl rfl rfl (Nat.le_of_ble_eq_true rfl) (sf_cmpJ L ys (d + 4) s0 (z5) (by omega) (by omega) (z6) (by omega) (by omega)) (fun z13 s14 hr => ?_)
        obtain ⟨rfl, z13p0, z13p1⟩ := hr
        refine ir_goto (pc' := 88) rfl rfl ?_
        refine ir_w [] trivial ?_
        exact J88 (z13) (by omega) (by omega) s0 hT0 hF0 (z3) (by omega) (by omega) z3e (z5) (by omega) (by omega) z5e (z1) (by omega) (by omega) z1e (z6) (by omega) (by omega) z6e
    · refine ir_l (pc' := 33) rfl rfl rfl rfl rfl rfl ?_
      refine ir_l (pc' := 34) rfl rfl rfl rfl rfl rfl ?_
      refine ir_l (pc' := 35) rfl rfl rfl rfl rfl rfl ?_
      refine ir_tgj (pc' := 38) rfl rfl rfl tf_23_4 a1k hT0 (fun z15 z15e z15l z15h => ?_)
      refine ir_l (pc' := 39) rfl rfl rfl rfl rfl rfl ?_
      refine ir_tgj (pc' := 42) rfl rfl rfl tf_23_5 a1k hT0 (fun z16 z16e z16l z16h => ?_)
      refine ir_l (pc' := 43) rfl rfl rfl rfl rfl rfl ?_
      refine ir_tgj (pc' := 46) rfl rfl rfl tf_23_3 a1k hT0 (fun z17 z17e z17l z17h => ?_)
      refine ir_cVI (pc' := 49) rfl rfl rfl rfl rfl (Nat.le_of_ble_eq_true rfl) oo_X3_compareWith (gG_at tsk_10) (sf_compareWith3 L ys d s0 hT0 a2 a2k (z15) (by omega) (by omega) (z16) (by omega) (by omega) (z17) (by omega) (by omega) ) (fun z18 s19 hr => ?_)
      obtain ⟨hT19, hG19, z18l, z18h⟩ := hr
      have hF19 := fr_trans hF0 hG19 (by decide)
      have e20 : s19.1 a2 1 = z1 := (hG19.1 _ _ a2k 1 (by decide)).trans z1e
      have e21 : s19.1 a1 1 = z3 := (hG19.1 _ _ a1k 1 (by decide)).trans z3e
      have e22 : s19.1 a1 4 = z15 := (hG19.1 _ _ a1k 4 (by decide)).trans z15e
      have e23 : s19.1 a1 5 = z16 := (hG19.1 _ _ a1k 5 (by decide)).trans z16e
      have e24 : s19.1 a1 3 = z17 := (hG19.1 _ _ a1k 3 (by decide)).trans z17e
      refine ir_ineg (pc' := 50) rfl rfl (by omega) (by omega) ?_
      exact ir_iret rfl rfl ⟨_, rfl, hT19, hF19, by omega, by omega⟩
  · refine ir_l (pc' := 8) rfl rfl rfl rfl rfl rfl ?_
    refine ir_l (pc' := 9) rfl rfl rfl rfl rfl rfl ?_
    refine ir_l (pc' := 10) rfl rfl rfl rfl rfl rfl ?_
    refine ir_tgj (pc' := 13) rfl rfl rfl tf_23_4 a2k hT0 (fun z25 z25e z25l z25h => ?_)
    refine ir_l (pc' := 14) rfl rfl rfl rfl rfl rfl ?_
    refine ir_tgj (pc' := 17) rfl rfl rfl tf_23_5 a2k hT0 (fun z26 z26e z26l z26h => ?_)
    refine ir_l (pc' := 18) rfl rfl rfl rfl rfl rfl ?_
    refine ir_tgj (pc' := 21) rfl rfl rfl tf_23_3 a2k hT0 (fun z27 z27e z27l z27h => ?_)
    refine ir_cVI (pc' := 24) rfl rfl rfl rfl rfl (Nat.le_of_ble_eq_true rfl) oo_X3_compareWith (gG_at tsk_10) (sf_compareWith3 L ys d s0 hT0 a1 a1k (z25) (by omega) (by omega) (z26) (by omega) (by omega) (z27) (by omega) (by omega) ) (fun z28 s29 hr => ?_)
    obtain ⟨hT29, hG29, z28l, z28h⟩ := hr
    have hF29 := fr_trans hF0 hG29 (by decide)
    have e30 : s29.1 a2 1 = z1 := (hG29.1 _ _ a2k 1 (by decide)).trans z1e
    have e31 : s29.1 a2 4 = z25 := (hG29.1 _ _ a2k 4 (by decide)).trans z25e
    have e32 : s29.1 a2 5 = z26 := (hG29.1 _ _ a2k 5 (by decide)).trans z26e
    have e33 : s29.1 a2 3 = z27 := (hG29.1 _ _ a2k 3 (by decide)).trans z27e
    exact ir_iret rfl rfl ⟨_, rfl, hT29, hF29, by omega, by omega⟩
theorem sf_setLinear6 (L : Nat) (ys : Nat → Int32) (d : Nat) (s0 : im_S) (hT0 : tI s0) (a0 : Nat) (a0k : gK[a0]? = some 4) (x1 : Int) (x1l : -9223372036854775808 ≤ x1) (x1h : x1 ≤ 9223372036854775807) (x2 : Int) (x2l : -9223372036854775808 ≤ x2) (x2h : x2 ≤ 9223372036854775807) : icV gG rm_P L ys (d + 2) 177 [(2, (a0 : Int)), (1, x1), (1, x2)] s0 (fun s => tI s ∧ fr [(4, 0)] s0 s) := by
  refine ic_startM (M := rm_p_X6_setLinear) om_X6_setLinear (Nat.le_of_ble_eq_true rfl) ?_
  refine ir_w [(0, (2, ((a0 : Nat) : Int))), (1, (1, x1)), (3, (1, x2))] ⟨rfl, rfl, rfl, trivial⟩ ?_
  have hF0 := fr_refl [(4, 0)] s0
  have J27 : ∀ (q27_s0 : Nat) (q27_s0k : gK[q27_s0]? = some 4) (q27_s1 : Int) (q27_s1l : -1 ≤ q27_s1) (q27_s1h : q27_s1 ≤ 8) (s_27 : im_S) (hT_27 : tI s_27) (hF_27 : fr [(4, 0)] s0 s_27) (w27_a0_1 : Nat) (w27_a0_1k : gK[w27_a0_1]? = some 6) (w27_a0_1e : s_27.1 a0 1 = ((w27_a0_1 : Nat) : Int)), ir gG rm_P L ys (d + 1) rm_p_X6_setLinear (27, [], [(0, q27_s1), (2, ((q27_s0 : Nat) : Int))], s_27) (fun r : im_Re => r.1 = none ∧ (tI r.2 ∧ fr [(4, 0)] s0 r.2)) := by
    intro q27_s0 q27_s0k q27_s1 q27_s1l q27_s1h s_27 hT_27 hF_27 w27_a0_1 w27_a0_1k w27_a0_1e
    refine ir_tpi (pc' := 30) rfl rfl rfl tf_4_0 rfl q27_s0k hT_27 rfl (by omega) (by omega) (fun s1 hT1 e1 g1 r1 => ?_)
    have hF1 := fr_put (k := 4) hF_27 (by decide) q27_s0k g1 r1
    have e2 : s1.1 a0 1 = ((w27_a0_1 : Nat) : Int) := (g1 a0 1 (fun z => absurd z.2 (by decide))).trans w27_a0_1e
    exact ir_vret rfl rfl ⟨rfl, hT1, hF1⟩
  refine ir_l (pc' := 1) rfl rfl rfl rfl rfl rfl ?_
  refine ir_l (pc' := 2) rfl rfl rfl rfl rfl rfl ?_
  refine ir_cVV (pc' := 5) rfl rfl rfl rfl rfl (Nat.le_of_ble_eq_true rfl) oo_X6_setConstant (gG_at a0k) (sf_setConstant6 L ys d s0 hT0 a0 a0k (x2) (by omega) (by omega) ) (fun s4 hr => ?_)
  obtain ⟨hT4, hG4⟩ := hr
  have hF4 := fr_trans hF0 hG4 (by decide)
  refine ir_l (pc' := 6) rfl rfl rfl rfl rfl rfl ?_
  refine ir_tgr (pc' := 9) rfl rfl rfl tf_4_1 a0k hT4 (fun b5 b5e b5k => ?_)
  refine ir_k (pc' := 10) (v := (0, 1)) rfl rfl rfl (fun _ => rfl) ?_
  refine ir_l (pc' := 11) rfl rfl rfl rfl rfl rfl ?_
  refine ir_tls (pc' := 12) rfl rfl te_6 b5k hT4 (by omega) (by omega) (by omega) (by omega) (fun s6 hT6 r6 o6 => ?_)
  have hF6 := fr_row hF4 r6 o6
  have e7 : s6.1 a0 1 = ((b5 : Nat) : Int) := by rw [r6]; exact b5e
  refine ir_l (pc' := 13) rfl rfl rfl rfl rfl rfl ?_
  refine ir_l (pc' := 14) rfl rfl rfl rfl rfl rfl ?_
  refine ir_k (pc' := 15) (v := (1, 0)) rfl rfl rfl (fun _ => rfl) ?_
  refine ir_lcmp (pc' := 16) rfl rfl (by omega) (by omega) (by omega) (by omega) (fun z8 z8c => ?_)
  refine ir_z_eq (pt := 23) (pc' := 19) rfl rfl rfl (fun c9 => ?_) (fun c9 => ?_)
  · refine ir_l (pc' := 24) rfl rfl rfl rfl rfl rfl ?_
    refine ir_tgi (pc' := 27) rfl rfl rfl tf_4_0 a0k hT6 (fun z10 z10e z10l z10h => ?_)
    refine ir_w [] trivial ?_
    exact J27 a0 a0k (z10) (by omega) (by omega) s6 hT6 hF6 b5 b5k e7
  · refine ir_k (pc' := 20) (v := (0, 1)) rfl rfl rfl (fun _ => rfl) ?_
    refine ir_goto (pc' := 27) rfl rfl ?_
    refine ir_w [] trivial ?_
    exact J27 a0 a0k (1) (by omega) (by omega) s6 hT6 hF6 b5 b5k e7
theorem sf_giveOwnPiece3 (L : Nat) (ys : Nat → Int32) (d : Nat) (s0 : im_S) (hT0 : tI s0) (a1 : Nat) (a1k : gK[a1]? = some 23) (x2 : Int) (x2l : 0 ≤ x2) (x2h : x2 ≤ 79) : icV gG rm_P L ys (d + 4) 134 [(2, ((83 : Nat) : Int)), (2, (a1 : Int)), (0, x2)] s0 (fun s => tI s ∧ fr [(4, 0), (11, 2), (23, 0)] s0 s) := by
  refine ic_startM (M := rm_p_X3_giveOwnPiece) om_X3_giveOwnPiece (Nat.le_of_ble_eq_true rfl) ?_
  refine ir_w [(0, (2, ((83 : Nat) : Int))), (1, (2, ((a1 : Nat) : Int))), (2, (0, x2))] ⟨rfl, rfl, rfl, trivial⟩ ?_
  have hF0 := fr_refl [(4, 0), (11, 2), (23, 0)] s0
  have J53 : ∀ (s_53 : im_S) (hT_53 : tI s_53) (hF_53 : fr [(4, 0), (11, 2), (23, 0)] s0 s_53) (w53_a1_0 : Int) (w53_a1_0l : 0 ≤ w53_a1_0) (w53_a1_0h : w53_a1_0 ≤ 79) (w53_a1_0e : s_53.1 a1 0 = w53_a1_0), ir gG rm_P L ys (d + 3) rm_p_X3_giveOwnPiece (53, [], [], s_53) (fun r : im_Re => r.1 = none ∧ (tI r.2 ∧ fr [(4, 0), (11, 2), (23, 0)] s0 r.2)) := by
    intro s_53 hT_53 hF_53 w53_a1_0 w53_a1_0l w53_a1_0h w53_a1_0e
    exact ir_vret rfl rfl ⟨rfl, hT_53, hF_53⟩
  refine ir_l (pc' := 1) rfl rfl rfl rfl rfl rfl ?_
  refine ir_l (pc' := 2) rfl rfl rfl rfl rfl rfl ?_
  refine ir_tpi (pc' := 5) rfl rfl rfl tf_23_0 rfl a1k hT0 rfl (by omega) (by omega) (fun s1 hT1 e1 g1 r1 => ?_)
  have hF1 := fr_put (k := 23) hF0 (by decide) a1k g1 r1
  refine ir_l (pc' := 6) rfl rfl rfl rfl rfl rfl ?_
  refine ir_tgr (pc' := 9) rfl rfl rfl tf_10_0 tsk_10 hT1 (fun b2 b2e b2k => ?_)
  obtain rfl := tsg_11 b2k
  refine ir_tgr (pc' := 12) rfl rfl rfl tf_11_0 tsk_11 hT1 (fun b3 b3e b3k => ?_)
  obtain rfl := tsg_12 b3k
  refine ir_l (pc' := 13) rfl rfl rfl rfl rfl rfl ?_
  refine ir_taa (pc' := 14) (k2 := 4) rfl rfl te_12 (by decide) tsk_12 hT1 (by omega) (by omega) (fun b4 b4k => ?_)
  refine ir_tgi (pc' := 17) rfl rfl rfl tf_4_0 b4k hT1 (fun z5 z5e z5l z5h => ?_)
  refine ir_k (pc' := 18) (v := (0, 1)) rfl rfl rfl (fun _ => rfl) ?_
  refine ir_c_le (pt := 53) (pc' := 21) rfl rfl rfl (fun c6 => ?_) (fun c6 => ?_)
  · refine ir_w [] trivial ?_
    exact J53 s1 hT1 hF1 (x2) (by omega) (by omega) e1
  · refine ir_l (pc' := 22) rfl rfl rfl rfl rfl rfl ?_
    refine ir_tgr (pc' := 25) rfl rfl rfl tf_10_4 tsk_10 hT1 (fun b7 b7e b7k => ?_)
    refine ir_l (pc' := 26) rfl rfl rfl rfl rfl rfl ?_
    refine ir_tgj (pc' := 29) rfl rfl rfl tf_23_3 a1k hT1 (fun z8 z8e z8l z8h => ?_)
    refine ir_l (pc' := 30) rfl rfl rfl rfl rfl rfl ?_
    refine ir_tgj (pc' := 33) rfl rfl rfl tf_23_2 a1k hT1 (fun z9 z9e z9l z9h => ?_)
    refine ir_lnegA (pc' := 34) rfl rfl (fun z10 z10l z10h => ?_)
    refine ir_cVV (pc' := 37) rfl rfl rfl rfl rfl (Nat.le_of_ble_eq_true rfl) oo_X6_setLinear (gG_at b7k) (sf_setLinear6 L ys (d + 1) s1 hT1 b7 b7k (z8) (by omega) (by omega) (z10) (by omega) (by omega) ) (fun s12 hr => ?_)
    obtain ⟨hT12, hG12⟩ := hr
    have hF12 := fr_trans hF1 hG12 (by decide)
    have e13 : s12.1 a1 0 = x2 := (hG12.1 _ _ a1k 0 (by decide)).trans e1
    have e14 : s12.1 83 0 = ((84 : Nat) : Int) := (hG12.1 _ _ tsk_10 0 (by decide)).trans b2e
    have e15 : s12.1 84 0 = ((85 : Nat) : Int) := (hG12.1 _ _ tsk_11 0 (by decide)).trans b3e
    have e16 : s12.1 83 4 = ((b7 : Nat) : Int) := (hG12.1 _ _ tsk_10 4 (by decide)).trans b7e
    have e17 : s12.1 a1 3 = z8 := (hG12.1 _ _ a1k 3 (by decide)).trans z8e
    have e18 : s12.1 a1 2 = z9 := (hG12.1 _ _ a1k 2 (by decide)).trans z9e
    refine ir_l (pc' := 38) rfl rfl rfl rfl rfl rfl ?_
    refine ir_l (pc' := 39) rfl rfl rfl rfl rfl rfl ?_
    refine ir_getR (pc' := 42) rfl rfl rfl (gG_at tsk_10) rfl e14 ?_
    refine ir_l (pc' := 43) rfl rfl rfl rfl rfl rfl ?_
    refine ir_l (pc' := 44) rfl rfl rfl rfl rfl rfl ?_
    refine ir_getR (pc' := 47) rfl rfl rfl (gG_at tsk_10) rfl e16 ?_
    refine ir_cVI (pc' := 50) rfl rfl rfl rfl rfl (Nat.le_of_ble_eq_true rfl) oo_X0_splitOff (gG_at tsk_11) (sf_splitOff0 L ys d s12 hT12 (x2) (by omega) (by omega) b7 b7k ) (fun z19 s20 hr => ?_)
    obtain ⟨hT20, hG20, z19l, z19h⟩ := hr
    have hF20 := fr_trans hF12 hG20 (by decide)
    have e21 : s20.1 a1 0 = x2 := (hG20.1 _ _ a1k 0 (by decide)).trans e13
    have e22 : s20.1 83 0 = ((84 : Nat) : Int) := (hG20.1 _ _ tsk_10 0 (by decide)).trans e14
    have e23 : s20.1 84 0 = ((85 : Nat) : Int) := (hG20.1 _ _ tsk_11 0 (by decide)).trans e15
    have e24 : s20.1 83 4 = ((b7 : Nat) : Int) := (hG20.1 _ _ tsk_10 4 (by decide)).trans e16
    have e25 : s20.1 a1 3 = z8 := (hG20.1 _ _ a1k 3 (by decide)).trans e17
    have e26 : s20.1 a1 2 = z9 := (hG20.1 _ _ a1k 2 (by decide)).trans e18
    refine ir_tpi (pc' := 53) rfl rfl rfl tf_23_0 rfl a1k hT20 rfl (by omega) (by omega) (fun s27 hT27 e27 g27 r27 => ?_)
    have hF27 := fr_put (k := 23) hF20 (by decide) a1k g27 r27
    have e28 : s27.1 83 4 = ((b7 : Nat) : Int) := (g27 83 4 (fun z => absurd z.2 (by decide))).trans e24
    have e29 : s27.1 a1 3 = z8 := (g27 a1 3 (fun z => absurd z.2 (by decide))).trans e25
    have e30 : s27.1 a1 2 = z9 := (g27 a1 2 (fun z => absurd z.2 (by decide))).trans e26
    refine ir_w [] trivial ?_
    exact J53 s27 hT27 hF27 (z19) (by omega) (by omega) e27
theorem sf_isEven1_19 (L : Nat) (ys : Nat → Int32) (d : Nat) (s0 : im_S) (hT0 : tI s0) (a0 : Nat) (a0k : gK[a0]? = some 19) : icI gG rm_P L ys 0 (d + 1) 114 [(2, (a0 : Int))] s0 (fun z s => tI s ∧ fr [] s0 s ∧ 0 ≤ z ∧ z ≤ 1) := by
  refine ic_startM (M := rm_p_X1_isEven) om_X1_isEven (Nat.le_of_ble_eq_true rfl) ?_
  refine ir_w [(0, (2, ((a0 : Nat) : Int)))] ⟨rfl, trivial⟩ ?_
  have hF0 := fr_refl [] s0
  have J23 : ∀ (q23_s0 : Int) (q23_s0l : 0 ≤ q23_s0) (q23_s0h : q23_s0 ≤ 1) (s_23 : im_S) (hT_23 : tI s_23) (hF_23 : fr [] s0 s_23) (w23_a0_1 : Int) (w23_a0_1l : 0 ≤ w23_a0_1) (w23_a0_1h : w23_a0_1 ≤ 24) (w23_a0_1e : s_23.1 a0 1 = w23_a0_1), ir gG rm_P L ys d rm_p_X1_isEven (23, [], [(0, q23_s0)], s_23) (fun r : im_Re => ∃ z, r.1 = some (0, z) ∧ (tI r.2 ∧ fr [] s0 r.2 ∧ 0 ≤ z ∧ z ≤ 1)) := by
    intro q23_s0 q23_s0l q23_s0h s_23 hT_23 hF_23 w23_a0_1 w23_a0_1l w23_a0_1h w23_a0_1e
    exact ir_zret rfl rfl (by omega) ⟨_, rfl, hT_23, hF_23, by omega, by omega⟩
  have J18 : ∀ (s_18 : im_S) (hT_18 : tI s_18) (hF_18 : fr [] s0 s_18) (w18_a0_1 : Int) (w18_a0_1l : 0 ≤ w18_a0_1) (w18_a0_1h : w18_a0_1 ≤ 24) (w18_a0_1e : s_18.1 a0 1 = w18_a0_1), ir gG rm_P L ys d rm_p_X1_isEven (18, [], [], s_18) (fun r : im_Re => ∃ z, r.1 = some (0, z) ∧ (tI r.2 ∧ fr [] s0 r.2 ∧ 0 ≤ z ∧ z ≤ 1)) := by
    intro s_18 hT_18 hF_18 w18_a0_1 w18_a0_1l w18_a0_1h w18_a0_1e
    refine ir_k (pc' := 19) (v := (0, 1)) rfl rfl rfl (fun _ => rfl) ?_
    refine ir_goto (pc' := 23) rfl rfl ?_
    refine ir_w [] trivial ?_
    exact J23 (1) (by omega) (by omega) s_18 hT_18 hF_18 (w18_a0_1) (by omega) (by omega) w18_a0_1e
  refine ir_l (pc' := 1) rfl rfl rfl rfl rfl rfl ?_
  refine ir_tgi (pc' := 4) rfl rfl rfl tf_19_1 a0k hT0 (fun z1 z1e z1l z1h => ?_)
  refine ir_z_eq (pt := 18) (pc' := 7) rfl rfl rfl (fun c2 => ?_) (fun c2 => ?_)
  · refine ir_w [] trivial ?_
    exact J18 s0 hT0 hF0 (z1) (by omega) (by omega) z1e
  · refine ir_l (pc' := 8) rfl rfl rfl rfl rfl rfl ?_
    refine ir_tgr (pc' := 11) rfl rfl rfl tf_19_0 a0k hT0 (fun b3 b3e b3k => ?_)
    refine ir_k (pc' := 12) (v := (0, 0)) rfl rfl rfl (fun _ => rfl) ?_
    refine ir_tia (pc' := 13) rfl rfl te_20 (by decide) b3k hT0 (by omega) (by omega) (fun z4 z4e z4l z4h => ?_)
    clear z4e
    refine ir_k (pc' := 14) (v := (0, 1)) rfl rfl rfl (fun _ => rfl) ?_
    refine ir_andm (pc' := 15) rfl rfl (by decide) (by decide) (fun z5 z5l z5h => ?_)
    refine ir_z_ne (pt := 22) (pc' := 18) rfl rfl rfl (fun c6 => ?_) (fun c6 => ?_)
    · refine ir_k (pc' := 23) (v := (0, 0)) rfl rfl rfl (fun _ => rfl) ?_
      refine ir_w [] trivial ?_
      exact J23 (0) (by omega) (by omega) s0 hT0 hF0 (z1) (by omega) (by omega) z1e
    · refine ir_w [] trivial ?_
      exact J18 s0 hT0 hF0 (z1) (by omega) (by omega) z1e
theorem sf_toLong1_19 (L : Nat) (ys : Nat → Int32) (d : Nat) (s0 : im_S) (hT0 : tI s0) (a0 : Nat) (a0k : gK[a0]? = some 19) : icI gG rm_P L ys 1 (d + 2) 120 [(2, (a0 : Int))] s0 (fun z s => tI s ∧ fr [] s0 s ∧ -9223372036854775808 ≤ z ∧ z ≤ 9223372036854775807) := by
  refine ic_startM (M := rm_p_X1_toLong) om_X1_toLong (Nat.le_of_ble_eq_true rfl) ?_
  refine ir_w [(0, (2, ((a0 : Nat) : Int)))] ⟨rfl, trivial⟩ ?_
  have hF0 := fr_refl [] s0
  have J53 : ∀ (q53_s0 : Int) (q53_s0l : -9223372036854775808 ≤ q53_s0) (q53_s0h : q53_s0 ≤ 9223372036854775807) (s_53 : im_S) (hT_53 : tI s_53) (hF_53 : fr [] s0 s_53) (w53_a0_1 : Int) (w53_a0_1l : 0 ≤ w53_a0_1) (w53_a0_1h : w53_a0_1 ≤ 24) (w53_a0_1e : s_53.1 a0 1 = w53_a0_1) (w53_a0_2 : Int) (w53_a0_2l : -2147483648 ≤ w53_a0_2) (w53_a0_2h : w53_a0_2 ≤ 2147483647) (w53_a0_2e : s_53.1 a0 2 = w53_a0_2), ir gG rm_P L ys (d + 1) rm_p_X1_toLong (53, [], [(1, q53_s0)], s_53) (fun r : im_Re => ∃ z, r.1 = some (1, z) ∧ (tI r.2 ∧ fr [] s0 r.2 ∧ -9223372036854775808 ≤ z ∧ z ≤ 9223372036854775807)) := by
    intro q53_s0 q53_s0l q53_s0h s_53 hT_53 hF_53 w53_a0_1 w53_a0_1l w53_a0_1h w53_a0_1e w53_a0_2 w53_a0_2l w53_a0_2h w53_a0_2e
    exact ir_lret rfl rfl ⟨_, rfl, hT_53, hF_53, by omega, by omega⟩
  have J13 : ∀ n : Nat, ∀ (q13_l1 : Int) (q13_l1l : -9223372036854775808 ≤ q13_l1) (q13_l1h : q13_l1 ≤ 9223372036854775807) (q13_l3 : Int) (q13_l3l : -1 ≤ q13_l3) (q13_l3h : q13_l3 ≤ 1) (s_13 : im_S) (hT_13 : tI s_13) (hF_13 : fr [] s0 s_13) (w13_a0_1 : Int) (w13_a0_1l : 0 ≤ w13_a0_1) (w13_a0_1h : w13_a0_1 ≤ 24) (w13_a0_1e : s_13.1 a0 1 = w13_a0_1), (q13_l3 - -1 + 1) ≤ (n : Int) → ir gG rm_P L ys (d + 1) rm_p_X1_toLong (13, [(0, (2, ((a0 : Nat) : Int))), (1, (1, q13_l1)), (3, (0, q13_l3))], [], s_13) (fun r : im_Re => ∃ z, r.1 = some (1, z) ∧ (tI r.2 ∧ fr [] s0 r.2 ∧ -9223372036854775808 ≤ z ∧ z ≤ 9223372036854775807)) := by
    intro n
    induction n with
    | zero => intro q13_l1 q13_l1l q13_l1h q13_l3 q13_l3l q13_l3h s_13 hT_13 hF_13 w13_a0_1 w13_a0_1l w13_a0_1h w13_a0_1e hr; exfalso; omega
    | succ n ih13 =>
      intro q13_l1 q13_l1l q13_l1h q13_l3 q13_l3l q13_l3h s_13 hT_13 hF_13 w13_a0_1 w13_a0_1l w13_a0_1h w13_a0_1e hr
      refine ir_l (pc' := 14) rfl rfl rfl rfl rfl rfl ?_
      refine ir_z_lt (pt := 40) (pc' := 17) rfl rfl rfl (fun c1 => ?_) (fun c1 => ?_)
      · refine ir_l (pc' := 41) rfl rfl rfl rfl rfl rfl ?_
        refine ir_tgi (pc' := 44) rfl rfl rfl tf_19_2 a0k hT_13 (fun z2 z2e z2l z2h => ?_)
        refine ir_z_ge (pt := 52) (pc' := 47) rfl rfl rfl (fun c3 => ?_) (fun c3 => ?_)
        · refine ir_l (pc' := 53) rfl rfl rfl rfl rfl rfl ?_
          refine ir_w [] trivial ?_
          exact J53 (q13_l1) (by omega) (by omega) s_13 hT_13 hF_13 (w13_a0_1) (by omega) (by omega) w13_a0_1e (z2) (by omega) (by omega) z2e
        · refine ir_l (pc' := 48) rfl rfl rfl rfl rfl rfl ?_
          refine ir_lnegA (pc' := 49) rfl rfl (fun z4 z4l z4h => ?_)
          refine ir_goto (pc' := 53) rfl rfl ?_
          refine ir_w [] trivial ?_
          exact J53 (z4) (by omega) (by omega) s_13 hT_13 hF_13 (w13_a0_1) (by omega) (by omega) w13_a0_1e (z2) (by omega) (by omega) z2e
      · refine ir_l (pc' := 18) rfl rfl rfl rfl rfl rfl ?_
        refine ir_k (pc' := 20) (v := (0, 32)) rfl rfl rfl (fun _ => rfl) ?_
        refine ir_jijA (pc' := 21) rfl rfl rfl rfl (fun z5 z5l z5h => ?_)
        refine ir_l (pc' := 22) rfl rfl rfl rfl rfl rfl ?_
        refine ir_tgr (pc' := 25) rfl rfl rfl tf_19_0 a0k hT_13 (fun b6 b6e b6k => ?_)
        refine ir_l (pc' := 26) rfl rfl rfl rfl rfl rfl ?_
        refine ir_tia (pc' := 27) rfl rfl te_20 (by decide) b6k hT_13 (by omega) (by omega) (fun z7 z7e z7l z7h => ?_)
        clear z7e
        refine ir_i2l (pc' := 28) rfl rfl (by omega) (by omega) ?_
        refine ir_k (pc' := 31) (v := (1, 4294967295)) rfl rfl rfl (fun _ => rfl) ?_
        refine ir_landm (pc' := 32) rfl rfl (by decide) (by decide) (fun z8 z8l z8h => ?_)
        refine ir_jjA (pc' := 33) rfl rfl rfl rfl (fun z9 z9l z9h => ?_)
        refine ir_s2 (pc' := 34) rfl rfl rfl rfl rfl rfl ?_
        refine ir_inc (pc' := 37) rfl rfl rfl rfl rfl (by omega) (by omega) ?_
        refine ir_goto (pc' := 13) rfl rfl ?_
        refine ir_w [(0, (2, ((a0 : Nat) : Int))), (1, (1, z9)), (3, (0, (q13_l3 + (-1))))] ⟨rfl, rfl, rfl, trivial⟩ ?_
        exact ih13 (z9) (by omega) (by omega) ((q13_l3 + (-1))) (by omega) (by omega) s_13 hT_13 hF_13 (w13_a0_1) (by omega) (by omega) w13_a0_1e (by omega)
  refine ir_k (pc' := 1) (v := (1, 0)) rfl rfl rfl (fun _ => rfl) ?_
  refine ir_s2 (pc' := 2) rfl rfl rfl rfl rfl rfl ?_
  refine ir_l (pc' := 3) rfl rfl rfl rfl rfl rfl ?_
  refine ir_tgi (pc' := 6) rfl rfl rfl tf_19_1 a0k hT0 (fun z10 z10e z10l z10h => ?_)
  refine ir_k (pc' := 7) (v := (0, 2)) rfl rfl rfl (fun _ => rfl) ?_
  refine ir_cSI (pc' := 10) rfl rfl rfl rfl rfl rfl (Nat.le_of_ble_eq_true rfl) (sf_min L ys d s0 (z10) (by omega) (by omega) (2) (by omega) (by omega)) (fun z11 s12 hr => ?_)
  obtain ⟨rfl, z11p0, z11p1, z11p2⟩ := hr
  refine ir_k (pc' := 11) (v := (0, 1)) rfl rfl rfl (fun _ => rfl) ?_
  refine ir_sub (pc' := 12) rfl rfl (by omega) (by omega) ?_
  refine ir_s (pc' := 13) rfl rfl rfl rfl rfl rfl ?_
  refine ir_w [(0, (2, ((a0 : Nat) : Int))), (1, (1, 0)), (3, (0, (z11 - 1)))] ⟨rfl, rfl, rfl, trivial⟩ ?_
  exact J13 _ (0) (by omega) (by omega) ((z11 - 1)) (by omega) (by omega) s0 hT0 hF0 (z10) (by omega) (by omega) z10e (Int.self_le_toNat _)
theorem sf_setFraction8 (L : Nat) (ys : Nat → Int32) (d : Nat) (s0 : im_S) (hT0 : tI s0) (a0 : Nat) (a0k : gK[a0]? = some 23) (x1 : Int) (x1l : -9223372036854775808 ≤ x1) (x1h : x1 ≤ 9223372036854775807) (x2 : Int) (x2l : -9223372036854775808 ≤ x2) (x2h : x2 ≤ 9223372036854775807) : icV gG rm_P L ys (d + 2) 204 [(2, (a0 : Int)), (1, x1), (1, x2)] s0 (fun s => tI s ∧ fr [(23, 1), (23, 2), (23, 3), (23, 4), (23, 5)] s0 s) := by
  refine ic_startM (M := rm_p_X8_setFraction) om_X8_setFraction (Nat.le_of_ble_eq_true rfl) ?_
  refine ir_w [(0, (2, ((a0 : Nat) : Int))), (1, (1, x1)), (3, (1, x2))] ⟨rfl, rfl, rfl, trivial⟩ ?_
  have hF0 := fr_refl [(23, 1), (23, 2), (23, 3), (23, 4), (23, 5)] s0
  refine ir_l (pc' := 1) rfl rfl rfl rfl rfl rfl ?_
  refine ir_l (pc' := 2) rfl rfl rfl rfl rfl rfl ?_
  refine ir_tpj (pc' := 5) rfl rfl rfl tf_23_2 rfl a0k hT0 rfl (by omega) (by omega) (fun s1 hT1 e1 g1 r1 => ?_)
  have hF1 := fr_put (k := 23) hF0 (by decide) a0k g1 r1
  refine ir_l (pc' := 6) rfl rfl rfl rfl rfl rfl ?_
  refine ir_k (pc' := 7) (v := (1, 1)) rfl rfl rfl (fun _ => rfl) ?_
  refine ir_l (pc' := 8) rfl rfl rfl rfl rfl rfl ?_
  refine ir_cSI (pc' := 11) rfl rfl rfl rfl rfl rfl (Nat.le_of_ble_eq_true rfl) (sf_maxJ L ys d s1 (1) (by omega) (by omega) (x2) (by omega) (by omega)) (fun z2 s3 hr => ?_)
  obtain ⟨rfl, z2p0, z2p1, z2p2⟩ := hr
  refine ir_tpj (pc' := 14) rfl rfl rfl tf_23_3 rfl a0k hT1 rfl (by omega) (by omega) (fun s4 hT4 e4 g4 r4 => ?_)
  have hF4 := fr_put (k := 23) hF1 (by decide) a0k g4 r4
  have e5 : s4.1 a0 2 = x1 := (g4 a0 2 (fun z => absurd z.2 (by decide))).trans e1
  refine ir_l (pc' := 15) rfl rfl rfl rfl rfl rfl ?_
  refine ir_l (pc' := 16) rfl rfl rfl rfl rfl rfl ?_
  refine ir_l (pc' := 17) rfl rfl rfl rfl rfl rfl ?_
  refine ir_getJ (pc' := 20) rfl rfl rfl (gG_at a0k) rfl e4 (by omega) (by omega) ?_
  refine ir_cSI (pc' := 23) rfl rfl rfl rfl rfl rfl (Nat.le_of_ble_eq_true rfl) (sf_fdJ L ys d s4 (x1) (by omega) (by omega) (z2) (by omega) (by omega)) (fun z6 s7 hr => ?_)
  obtain ⟨rfl, z6p0, z6p1⟩ := hr
  refine ir_tpj (pc' := 26) rfl rfl rfl tf_23_4 rfl a0k hT4 rfl (by omega) (by omega) (fun s8 hT8 e8 g8 r8 => ?_)
  have hF8 := fr_put (k := 23) hF4 (by decide) a0k g8 r8
  have e9 : s8.1 a0 2 = x1 := (g8 a0 2 (fun z => absurd z.2 (by decide))).trans e5
  have e10 : s8.1 a0 3 = z2 := (g8 a0 3 (fun z => absurd z.2 (by decide))).trans e4
  refine ir_l (pc' := 27) rfl rfl rfl rfl rfl rfl ?_
  refine ir_l (pc' := 28) rfl rfl rfl rfl rfl rfl ?_
  refine ir_l (pc' := 29) rfl rfl rfl rfl rfl rfl ?_
  refine ir_getJ (pc' := 32) rfl rfl rfl (gG_at a0k) rfl e10 (by omega) (by omega) ?_
  refine ir_cSI (pc' := 35) rfl rfl rfl rfl rfl rfl (Nat.le_of_ble_eq_true rfl) (sf_fmJ L ys d s8 (x1) (by omega) (by omega) (z2) (by omega) (by omega)) (fun z11 s12 hr => ?_)
  obtain ⟨rfl, z11p0, z11p1⟩ := hr
  refine ir_tpj (pc' := 38) rfl rfl rfl tf_23_5 rfl a0k hT8 rfl (by omega) (by omega) (fun s13 hT13 e13 g13 r13 => ?_)
  have hF13 := fr_put (k := 23) hF8 (by decide) a0k g13 r13
  have e14 : s13.1 a0 2 = x1 := (g13 a0 2 (fun z => absurd z.2 (by decide))).trans e9
  have e15 : s13.1 a0 3 = z2 := (g13 a0 3 (fun z => absurd z.2 (by decide))).trans e10
  have e16 : s13.1 a0 4 = z6 := (g13 a0 4 (fun z => absurd z.2 (by decide))).trans e8
  refine ir_l (pc' := 39) rfl rfl rfl rfl rfl rfl ?_
  refine ir_k (pc' := 40) (v := (0, 1)) rfl rfl rfl (fun _ => rfl) ?_
  refine ir_tpi (pc' := 43) rfl rfl rfl tf_23_1 rfl a0k hT13 (by first | rfl | exact im_fitZ rfl (by omega)) (by omega) (by omega) (fun s17 hT17 e17 g17 r17 => ?_)
  have hF17 := fr_put (k := 23) hF13 (by decide) a0k g17 r17
  have e18 : s17.1 a0 2 = x1 := (g17 a0 2 (fun z => absurd z.2 (by decide))).trans e14
  have e19 : s17.1 a0 3 = z2 := (g17 a0 3 (fun z => absurd z.2 (by decide))).trans e15
  have e20 : s17.1 a0 4 = z6 := (g17 a0 4 (fun z => absurd z.2 (by decide))).trans e16
  have e21 : s17.1 a0 5 = z11 := (g17 a0 5 (fun z => absurd z.2 (by decide))).trans e13
  exact ir_vret rfl rfl ⟨rfl, hT17, hF17⟩
theorem sf_readBinary3 (L : Nat) (ys : Nat → Int32) (d : Nat) (s0 : im_S) (hT0 : tI s0) (a1 : Nat) (a1k : gK[a1]? = some 23) : icV gG rm_P L ys (d + 3) 137 [(2, ((83 : Nat) : Int)), (2, (a1 : Int))] s0 (fun s => tI s ∧ fr [(19, 1), (19, 2), (23, 1), (23, 2), (23, 3), (23, 4), (23, 5)] s0 s) := by
  refine ic_startM (M := rm_p_X3_readBinary) om_X3_readBinary (Nat.le_of_ble_eq_true rfl) ?_
  refine ir_w [(0, (2, ((83 : Nat) : Int))), (1, (2, ((a1 : Nat) : Int)))] ⟨rfl, rfl, trivial⟩ ?_
  have hF0 := fr_refl [(19, 1), (19, 2), (23, 1), (23, 2), (23, 3), (23, 4), (23, 5)] s0
  have J69 : ∀ (q69_l2 : Int) (q69_l2l : 0 ≤ q69_l2) (q69_l2h : q69_l2 ≤ 2147483647) (s_69 : im_S) (hT_69 : tI s_69) (hF_69 : fr [(19, 1), (19, 2), (23, 1), (23, 2), (23, 3), (23, 4), (23, 5)] s0 s_69) (w69_83_6 : Nat) (w69_83_6k : gK[w69_83_6]? = some 19) (w69_83_6e : s_69.1 83 6 = ((w69_83_6 : Nat) : Int)) (w69_a1_6 : Nat) (w69_a1_6k : gK[w69_a1_6]? = some 19) (w69_a1_6e : s_69.1 a1 6 = ((w69_a1_6 : Nat) : Int)) (w69_a1_7 : Int) (w69_a1_7l : -2147483648 ≤ w69_a1_7) (w69_a1_7h : w69_a1_7 ≤ 2147483647) (w69_a1_7e : s_69.1 a1 7 = w69_a1_7), ir gG rm_P L ys (d + 2) rm_p_X3_readBinary (69, [(0, (2, ((83 : Nat) : Int))), (1, (2, ((a1 : Nat) : Int))), (2, (0, q69_l2))], [], s_69) (fun r : im_Re => r.1 = none ∧ (tI r.2 ∧ fr [(19, 1), (19, 2), (23, 1), (23, 2), (23, 3), (23, 4), (23, 5)] s0 r.2)) := by
    intro q69_l2 q69_l2l q69_l2h s_69 hT_69 hF_69 w69_83_6 w69_83_6k w69_83_6e w69_a1_6 w69_a1_6k w69_a1_6e w69_a1_7 w69_a1_7l w69_a1_7h w69_a1_7e
    refine ir_l (pc' := 70) rfl rfl rfl rfl rfl rfl ?_
    refine ir_l (pc' := 71) rfl rfl rfl rfl rfl rfl ?_
    refine ir_getR (pc' := 74) rfl rfl rfl (gG_at tsk_10) rfl w69_83_6e ?_
    refine ir_cVI (pc' := 77) rfl rfl rfl rfl rfl (Nat.le_of_ble_eq_true rfl) oo_X1_toLong (gG_at w69_83_6k) (sf_toLong1_19 L ys d s_69 hT_69 w69_83_6 w69_83_6k ) (fun z1 s2 hr => ?_)
    obtain ⟨hT2, hG2, z1l, z1h⟩ := hr
    have hF2 := fr_trans hF_69 hG2 (by decide)
    have e3 : s2.1 83 6 = ((w69_83_6 : Nat) : Int) := (hG2.1 _ _ tsk_10 6 (by decide)).trans w69_83_6e
    have e4 : s2.1 a1 6 = ((w69_a1_6 : Nat) : Int) := (hG2.1 _ _ a1k 6 (by decide)).trans w69_a1_6e
    have e5 : s2.1 a1 7 = w69_a1_7 := (hG2.1 _ _ a1k 7 (by decide)).trans w69_a1_7e
    refine ir_k (pc' := 78) (v := (1, 1)) rfl rfl rfl (fun _ => rfl) ?_
    refine ir_l (pc' := 79) rfl rfl rfl rfl rfl rfl ?_
    refine ir_k (pc' := 81) (v := (0, 32)) rfl rfl rfl (fun _ => rfl) ?_
    refine ir_cSI (pc' := 84) rfl rfl rfl rfl rfl rfl (Nat.le_of_ble_eq_true rfl) (sf_min L ys (d + 1) s2 (q69_l2) (by omega) (by omega) (32) (by omega) (by omega)) (fun z6 s7 hr => ?_)
    obtain ⟨rfl, z6p0, z6p1, z6p2⟩ := hr
    refine ir_jijA (pc' := 85) rfl rfl rfl rfl (fun z8 z8l z8h => ?_)
    refine ir_cVV (pc' := 88) rfl rfl rfl rfl rfl (Nat.le_of_ble_eq_true rfl) oo_X8_setFraction (gG_at a1k) (sf_setFraction8 L ys d s2 hT2 a1 a1k (z1) (by omega) (by omega) (z8) (by omega) (by omega) ) (fun s10 hr => ?_)
    obtain ⟨hT10, hG10⟩ := hr
    have hF10 := fr_trans hF2 hG10 (by decide)
    have e11 : s10.1 83 6 = ((w69_83_6 : Nat) : Int) := (hG10.1 _ _ tsk_10 6 (by decide)).trans e3
    have e12 : s10.1 a1 6 = ((w69_a1_6 : Nat) : Int) := (hG10.1 _ _ a1k 6 (by decide)).trans e4
    have e13 : s10.1 a1 7 = w69_a1_7 := (hG10.1 _ _ a1k 7 (by decide)).trans e5
    exact ir_vret rfl rfl ⟨rfl, hT10, hF10⟩
  have J41 : ∀ n : Nat, ∀ (q41_l2 : Int) (q41_l2l : 0 ≤ q41_l2) (q41_l2h : q41_l2 ≤ 2147483647) (s_41 : im_S) (hT_41 : tI s_41) (hF_41 : fr [(19, 1), (19, 2), (23, 1), (23, 2), (23, 3), (23, 4), (23, 5)] s0 s_41) (w41_83_6 : Nat) (w41_83_6k : gK[w41_83_6]? = some 19) (w41_83_6e : s_41.1 83 6 = ((w41_83_6 : Nat) : Int)) (w41_a1_6 : Nat) (w41_a1_6k : gK[w41_a1_6]? = some 19) (w41_a1_6e : s_41.1 a1 6 = ((w41_a1_6 : Nat) : Int)) (w41_a1_7 : Int) (w41_a1_7l : -2147483648 ≤ w41_a1_7) (w41_a1_7h : w41_a1_7 ≤ 2147483647) (w41_a1_7e : s_41.1 a1 7 = w41_a1_7), (q41_l2 - 0 + 1) ≤ (n : Int) → ir gG rm_P L ys (d + 2) rm_p_X3_readBinary (41, [(0, (2, ((83 : Nat) : Int))), (1, (2, ((a1 : Nat) : Int))), (2, (0, q41_l2))], [], s_41) (fun r : im_Re => r.1 = none ∧ (tI r.2 ∧ fr [(19, 1), (19, 2), (23, 1), (23, 2), (23, 3), (23, 4), (23, 5)] s0 r.2)) := by
    intro n
    induction n with
    | zero => intro q41_l2 q41_l2l q41_l2h s_41 hT_41 hF_41 w41_83_6 w41_83_6k w41_83_6e w41_a1_6 w41_a1_6k w41_a1_6e w41_a1_7 w41_a1_7l w41_a1_7h w41_a1_7e hr; exfalso; omega
    | succ n ih41 =>
      intro q41_l2 q41_l2l q41_l2h s_41 hT_41 hF_41 w41_83_6 w41_83_6k w41_83_6e w41_a1_6 w41_a1_6k w41_a1_6e w41_a1_7 w41_a1_7l w41_a1_7h w41_a1_7e hr
      refine ir_l (pc' := 42) rfl rfl rfl rfl rfl rfl ?_
      refine ir_z_le (pt := 69) (pc' := 45) rfl rfl rfl (fun c14 => ?_) (fun c14 => ?_)
      · refine ir_w [(0, (2, ((83 : Nat) : Int))), (1, (2, ((a1 : Nat) : Int))), (2, (0, q41_l2))] ⟨rfl, rfl, rfl, trivial⟩ ?_
        exact J69 (q41_l2) (by omega) (by omega) s_41 hT_41 hF_41 w41_83_6 w41_83_6k w41_83_6e w41_a1_6 w41_a1_6k w41_a1_6e (w41_a1_7) (by omega) (by omega) w41_a1_7e
      · refine ir_l (pc' := 46) rfl rfl rfl rfl rfl rfl ?_
        refine ir_getR (pc' := 49) rfl rfl rfl (gG_at tsk_10) rfl w41_83_6e ?_
        refine ir_cVI (pc' := 52) rfl rfl rfl rfl rfl (Nat.le_of_ble_eq_true rfl) oo_X1_isEven (gG_at w41_83_6k) (sf_isEven1_19 L ys (d + 1) s_41 hT_41 w41_83_6 w41_83_6k ) (fun z15 s16 hr => ?_)
        obtain ⟨hT16, hG16, z15l, z15h⟩ := hr
        have hF16 := fr_trans hF_41 hG16 (by decide)
        have e17 : s16.1 83 6 = ((w41_83_6 : Nat) : Int) := (hG16.1 _ _ tsk_10 6 (by decide)).trans w41_83_6e
        have e18 : s16.1 a1 6 = ((w41_a1_6 : Nat) : Int) := (hG16.1 _ _ a1k 6 (by decide)).trans w41_a1_6e
        have e19 : s16.1 a1 7 = w41_a1_7 := (hG16.1 _ _ a1k 7 (by decide)).trans w41_a1_7e
        refine ir_z_eq (pt := 69) (pc' := 55) rfl rfl rfl (fun c20 => ?_) (fun c20 => ?_)
        · refine ir_w [(0, (2, ((83 : Nat) : Int))), (1, (2, ((a1 : Nat) : Int))), (2, (0, q41_l2))] ⟨rfl, rfl, rfl, trivial⟩ ?_
          exact J69 (q41_l2) (by omega) (by omega) s16 hT16 hF16 w41_83_6 w41_83_6k e17 w41_a1_6 w41_a1_6k e18 (w41_a1_7) (by omega) (by omega) e19
        · refine ir_l (pc' := 56) rfl rfl rfl rfl rfl rfl ?_
          refine ir_getR (pc' := 59) rfl rfl rfl (gG_at tsk_10) rfl e17 ?_
          refine ir_k (pc' := 60) (v := (0, 1)) rfl rfl rfl (fun _ => rfl) ?_
          refine ir_cVV (pc' := 63) rfl rfl rfl rfl rfl (Nat.le_of_ble_eq_true rfl) oo_X1_shiftDown (gG_at w41_83_6k) (sf_shiftDown1_19 L ys d s16 hT16 w41_83_6 w41_83_6k (1) (by omega) (by omega) ) (fun s22 hr => ?_)
          obtain ⟨hT22, hG22⟩ := hr
          have hF22 := fr_trans hF16 hG22 (by decide)
          have e23 : s22.1 83 6 = ((w41_83_6 : Nat) : Int) := (hG22.1 _ _ tsk_10 6 (by decide)).trans e17
          have e24 : s22.1 a1 6 = ((w41_a1_6 : Nat) : Int) := (hG22.1 _ _ a1k 6 (by decide)).trans e18
          have e25 : s22.1 a1 7 = w41_a1_7 := (hG22.1 _ _ a1k 7 (by decide)).trans e19
          refine ir_inc (pc' := 66) rfl rfl rfl rfl rfl (by omega) (by omega) ?_
          refine ir_goto (pc' := 41) rfl rfl ?_
          refine ir_w [(0, (2, ((83 : Nat) : Int))), (1, (2, ((a1 : Nat) : Int))), (2, (0, (q41_l2 + (-1))))] ⟨rfl, rfl, rfl, trivial⟩ ?_
          exact ih41 ((q41_l2 + (-1))) (by omega) (by omega) s22 hT22 hF22 w41_83_6 w41_83_6k e23 w41_a1_6 w41_a1_6k e24 (w41_a1_7) (by omega) (by omega) e25 (by omega)
  have J30 : ∀ (q30_l2 : Int) (q30_l2l : -2147483648 ≤ q30_l2) (q30_l2h : q30_l2 ≤ 2147483647) (s_30 : im_S) (hT_30 : tI s_30) (hF_30 : fr [(19, 1), (19, 2), (23, 1), (23, 2), (23, 3), (23, 4), (23, 5)] s0 s_30) (w30_83_6 : Nat) (w30_83_6k : gK[w30_83_6]? = some 19) (w30_83_6e : s_30.1 83 6 = ((w30_83_6 : Nat) : Int)) (w30_a1_6 : Nat) (w30_a1_6k : gK[w30_a1_6]? = some 19) (w30_a1_6e : s_30.1 a1 6 = ((w30_a1_6 : Nat) : Int)) (w30_a1_7 : Int) (w30_a1_7l : -2147483648 ≤ w30_a1_7) (w30_a1_7h : w30_a1_7 ≤ 2147483647) (w30_a1_7e : s_30.1 a1 7 = w30_a1_7), ir gG rm_P L ys (d + 2) rm_p_X3_readBinary (30, [(0, (2, ((83 : Nat) : Int))), (1, (2, ((a1 : Nat) : Int))), (2, (0, q30_l2))], [], s_30) (fun r : im_Re => r.1 = none ∧ (tI r.2 ∧ fr [(19, 1), (19, 2), (23, 1), (23, 2), (23, 3), (23, 4), (23, 5)] s0 r.2)) := by
    intro q30_l2 q30_l2l q30_l2h s_30 hT_30 hF_30 w30_83_6 w30_83_6k w30_83_6e w30_a1_6 w30_a1_6k w30_a1_6e w30_a1_7 w30_a1_7l w30_a1_7h w30_a1_7e
    refine ir_l (pc' := 31) rfl rfl rfl rfl rfl rfl ?_
    refine ir_getR (pc' := 34) rfl rfl rfl (gG_at tsk_10) rfl w30_83_6e ?_
    refine ir_l (pc' := 35) rfl rfl rfl rfl rfl rfl ?_
    refine ir_i1A (pc' := 36) rfl rfl rfl rfl (fun z26 z26e z26l z26h => ?_)
    clear z26e
    refine ir_cVV (pc' := 39) rfl rfl rfl rfl rfl (Nat.le_of_ble_eq_true rfl) oo_X1_shiftUp (gG_at w30_83_6k) (sf_shiftUp1_19 L ys d s_30 hT_30 w30_83_6 w30_83_6k (z26) (by omega) (by omega) ) (fun s28 hr => ?_)
    obtain ⟨hT28, hG28⟩ := hr
    have hF28 := fr_trans hF_30 hG28 (by decide)
    have e29 : s28.1 83 6 = ((w30_83_6 : Nat) : Int) := (hG28.1 _ _ tsk_10 6 (by decide)).trans w30_83_6e
    have e30 : s28.1 a1 6 = ((w30_a1_6 : Nat) : Int) := (hG28.1 _ _ a1k 6 (by decide)).trans w30_a1_6e
    have e31 : s28.1 a1 7 = w30_a1_7 := (hG28.1 _ _ a1k 7 (by decide)).trans w30_a1_7e
    refine ir_k (pc' := 40) (v := (0, 0)) rfl rfl rfl (fun _ => rfl) ?_
    refine ir_s (pc' := 41) rfl rfl rfl rfl rfl rfl ?_
    refine ir_w [(0, (2, ((83 : Nat) : Int))), (1, (2, ((a1 : Nat) : Int))), (2, (0, 0))] ⟨rfl, rfl, rfl, trivial⟩ ?_
    exact J41 _ (0) (by omega) (by omega) s28 hT28 hF28 w30_83_6 w30_83_6k e29 w30_a1_6 w30_a1_6k e30 (w30_a1_7) (by omega) (by omega) e31 (Int.self_le_toNat _)
  refine ir_l (pc' := 1) rfl rfl rfl rfl rfl rfl ?_
  refine ir_tgr (pc' := 4) rfl rfl rfl tf_10_6 tsk_10 hT0 (fun b32 b32e b32k => ?_)
  refine ir_l (pc' := 5) rfl rfl rfl rfl rfl rfl ?_
  refine ir_tgr (pc' := 8) rfl rfl rfl tf_23_6 a1k hT0 (fun b33 b33e b33k => ?_)
  refine ir_cVV (pc' := 11) rfl rfl rfl rfl rfl (Nat.le_of_ble_eq_true rfl) oo_X1_copy (gG_at b32k) (sf_copy1_19_19 L ys d s0 hT0 b32 b32k b33 b33k ) (fun s35 hr => ?_)
  obtain ⟨hT35, hG35⟩ := hr
  have hF35 := fr_trans hF0 hG35 (by decide)
  have e36 : s35.1 83 6 = ((b32 : Nat) : Int) := (hG35.1 _ _ tsk_10 6 (by decide)).trans b32e
  have e37 : s35.1 a1 6 = ((b33 : Nat) : Int) := (hG35.1 _ _ a1k 6 (by decide)).trans b33e
  refine ir_l (pc' := 12) rfl rfl rfl rfl rfl rfl ?_
  refine ir_tgi (pc' := 15) rfl rfl rfl tf_23_7 a1k hT35 (fun z38 z38e z38l z38h => ?_)
  refine ir_s (pc' := 16) rfl rfl rfl rfl rfl rfl ?_
  refine ir_l (pc' := 17) rfl rfl rfl rfl rfl rfl ?_
  refine ir_z_lt (pt := 30) (pc' := 20) rfl rfl rfl (fun c39 => ?_) (fun c39 => ?_)
  · refine ir_w [(0, (2, ((83 : Nat) : Int))), (1, (2, ((a1 : Nat) : Int))), (2, (0, z38))] ⟨rfl, rfl, rfl, trivial⟩ ?_
    exact J30 (z38) (by omega) (by omega) s35 hT35 hF35 b32 b32k e36 b33 b33k e37 (z38) (by omega) (by omega) z38e
  · refine ir_l (pc' := 21) rfl rfl rfl rfl rfl rfl ?_
    refine ir_getR (pc' := 24) rfl rfl rfl (gG_at tsk_10) rfl e36 ?_
    refine ir_tgi (pc' := 27) rfl rfl rfl tf_19_2 b32k hT35 (fun z40 z40e z40l z40h => ?_)
    refine ir_z_ne (pt := 41) (pc' := 30) rfl rfl rfl (fun c41 => ?_) (fun c41 => ?_)
    · refine ir_w [(0, (2, ((83 : Nat) : Int))), (1, (2, ((a1 : Nat) : Int))), (2, (0, z38))] ⟨rfl, rfl, rfl, trivial⟩ ?_
      exact J41 _ (z38) (by omega) (by omega) s35 hT35 hF35 b32 b32k e36 b33 b33k e37 (z38) (by omega) (by omega) z38e (Int.self_le_toNat _)
    · refine ir_w [(0, (2, ((83 : Nat) : Int))), (1, (2, ((a1 : Nat) : Int))), (2, (0, z38))] ⟨rfl, rfl, rfl, trivial⟩ ?_
      exact J30 (z38) (by omega) (by omega) s35 hT35 hF35 b32 b32k e36 b33 b33k e37 (z38) (by omega) (by omega) z38e
theorem sf_readParts3 (L : Nat) (ys : Nat → Int32) (d : Nat) (s0 : im_S) (hT0 : tI s0) (a1 : Nat) (a1k : gK[a1]? = some 23) : icV gG rm_P L ys (d + 4) 138 [(2, ((83 : Nat) : Int)), (2, (a1 : Int))] s0 (fun s => tI s ∧ fr [(19, 1), (19, 2), (23, 4), (23, 5)] s0 s) := by
  refine ic_startM (M := rm_p_X3_readParts) om_X3_readParts (Nat.le_of_ble_eq_true rfl) ?_
  refine ir_w [(0, (2, ((83 : Nat) : Int))), (1, (2, ((a1 : Nat) : Int)))] ⟨rfl, rfl, trivial⟩ ?_
  have hF0 := fr_refl [(19, 1), (19, 2), (23, 4), (23, 5)] s0
  have J80 : ∀ (q80_s0 : Int) (q80_s0l : -9223372036854775808 ≤ q80_s0) (q80_s0h : q80_s0 ≤ 9223372036854775807) (s_80 : im_S) (hT_80 : tI s_80) (hF_80 : fr [(19, 1), (19, 2), (23, 4), (23, 5)] s0 s_80) (w80_83_6 : Nat) (w80_83_6k : gK[w80_83_6]? = some 19) (w80_83_6e : s_80.1 83 6 = ((w80_83_6 : Nat) : Int)) (w80_a1_6 : Nat) (w80_a1_6k : gK[w80_a1_6]? = some 19) (w80_a1_6e : s_80.1 a1 6 = ((w80_a1_6 : Nat) : Int)) (w80_a1_7 : Int) (w80_a1_7l : -2147483648 ≤ w80_a1_7) (w80_a1_7h : w80_a1_7 ≤ 2147483647) (w80_a1_7e : s_80.1 a1 7 = w80_a1_7), ir gG rm_P L ys (d + 3) rm_p_X3_readParts (80, [(1, (2, ((a1 : Nat) : Int)))], [(1, q80_s0)], s_80) (fun r : im_Re => r.1 = none ∧ (tI r.2 ∧ fr [(19, 1), (19, 2), (23, 4), (23, 5)] s0 r.2)) := by
    intro q80_s0 q80_s0l q80_s0h s_80 hT_80 hF_80 w80_83_6 w80_83_6k w80_83_6e w80_a1_6 w80_a1_6k w80_a1_6e w80_a1_7 w80_a1_7l w80_a1_7h w80_a1_7e
    refine ir_s2 (pc' := 81) rfl rfl rfl rfl rfl rfl ?_
    refine ir_l (pc' := 82) rfl rfl rfl rfl rfl rfl ?_
    refine ir_l (pc' := 83) rfl rfl rfl rfl rfl rfl ?_
    refine ir_k (pc' := 85) (v := (0, 32)) rfl rfl rfl (fun _ => rfl) ?_
    refine ir_lshr (pc' := 86) (y := 32) (k := 32) (m := 4294967296) rfl rfl (by decide) rfl (by decide) (by omega) (by omega) ?_
    refine ir_tpj (pc' := 89) rfl rfl rfl tf_23_4 rfl a1k hT_80 rfl (by omega) (by omega) (fun s1 hT1 e1 g1 r1 => ?_)
    have hF1 := fr_put (k := 23) hF_80 (by decide) a1k g1 r1
    have e2 : s1.1 83 6 = ((w80_83_6 : Nat) : Int) := (g1 83 6 (fun z => absurd z.2 (by decide))).trans w80_83_6e
    have e3 : s1.1 a1 6 = ((w80_a1_6 : Nat) : Int) := (g1 a1 6 (fun z => absurd z.2 (by decide))).trans w80_a1_6e
    have e4 : s1.1 a1 7 = w80_a1_7 := (g1 a1 7 (fun z => absurd z.2 (by decide))).trans w80_a1_7e
    refine ir_l (pc' := 90) rfl rfl rfl rfl rfl rfl ?_
    refine ir_l (pc' := 91) rfl rfl rfl rfl rfl rfl ?_
    refine ir_k (pc' := 94) (v := (1, 4294967295)) rfl rfl rfl (fun _ => rfl) ?_
    refine ir_landm (pc' := 95) rfl rfl (by decide) (by decide) (fun z5 z5l z5h => ?_)
    refine ir_tpj (pc' := 98) rfl rfl rfl tf_23_5 rfl a1k hT1 rfl (by omega) (by omega) (fun s6 hT6 e6 g6 r6 => ?_)
    have hF6 := fr_put (k := 23) hF1 (by decide) a1k g6 r6
    have e7 : s6.1 83 6 = ((w80_83_6 : Nat) : Int) := (g6 83 6 (fun z => absurd z.2 (by decide))).trans e2
    have e8 : s6.1 a1 6 = ((w80_a1_6 : Nat) : Int) := (g6 a1 6 (fun z => absurd z.2 (by decide))).trans e3
    have e9 : s6.1 a1 7 = w80_a1_7 := (g6 a1 7 (fun z => absurd z.2 (by decide))).trans e4
    have e10 : s6.1 a1 4 = (q80_s0 / 4294967296) := (g6 a1 4 (fun z => absurd z.2 (by decide))).trans e1
    exact ir_vret rfl rfl ⟨rfl, hT6, hF6⟩
  have J43 : ∀ (q43_l2 : Int) (q43_l2l : 0 ≤ q43_l2) (q43_l2h : q43_l2 ≤ 1) (s_43 : im_S) (hT_43 : tI s_43) (hF_43 : fr [(19, 1), (19, 2), (23, 4), (23, 5)] s0 s_43) (w43_83_6 : Nat) (w43_83_6k : gK[w43_83_6]? = some 19) (w43_83_6e : s_43.1 83 6 = ((w43_83_6 : Nat) : Int)) (w43_a1_6 : Nat) (w43_a1_6k : gK[w43_a1_6]? = some 19) (w43_a1_6e : s_43.1 a1 6 = ((w43_a1_6 : Nat) : Int)), ir gG rm_P L ys (d + 3) rm_p_X3_readParts (43, [(0, (2, ((83 : Nat) : Int))), (1, (2, ((a1 : Nat) : Int))), (2, (0, q43_l2))], [], s_43) (fun r : im_Re => r.1 = none ∧ (tI r.2 ∧ fr [(19, 1), (19, 2), (23, 4), (23, 5)] s0 r.2)) := by
    intro q43_l2 q43_l2l q43_l2h s_43 hT_43 hF_43 w43_83_6 w43_83_6k w43_83_6e w43_a1_6 w43_a1_6k w43_a1_6e
    refine ir_l (pc' := 44) rfl rfl rfl rfl rfl rfl ?_
    refine ir_getR (pc' := 47) rfl rfl rfl (gG_at tsk_10) rfl w43_83_6e ?_
    refine ir_l (pc' := 48) rfl rfl rfl rfl rfl rfl ?_
    refine ir_tgi (pc' := 51) rfl rfl rfl tf_23_7 a1k hT_43 (fun z11 z11e z11l z11h => ?_)
    refine ir_k (pc' := 53) (v := (0, 32)) rfl rfl rfl (fun _ => rfl) ?_
    refine ir_iiA (pc' := 54) rfl rfl rfl rfl (fun z12 z12l z12h => ?_)
    refine ir_cVV (pc' := 57) rfl rfl rfl rfl rfl (Nat.le_of_ble_eq_true rfl) oo_X1_shiftDown (gG_at w43_83_6k) (sf_shiftDown1_19 L ys (d + 1) s_43 hT_43 w43_83_6 w43_83_6k (z12) (by omega) (by omega) ) (fun s14 hr => ?_)
    obtain ⟨hT14, hG14⟩ := hr
    have hF14 := fr_trans hF_43 hG14 (by decide)
    have e15 : s14.1 83 6 = ((w43_83_6 : Nat) : Int) := (hG14.1 _ _ tsk_10 6 (by decide)).trans w43_83_6e
    have e16 : s14.1 a1 6 = ((w43_a1_6 : Nat) : Int) := (hG14.1 _ _ a1k 6 (by decide)).trans w43_a1_6e
    have e17 : s14.1 a1 7 = z11 := (hG14.1 _ _ a1k 7 (by decide)).trans z11e
    refine ir_l (pc' := 58) rfl rfl rfl rfl rfl rfl ?_
    refine ir_z_eq (pt := 73) (pc' := 61) rfl rfl rfl (fun c18 => ?_) (fun c18 => ?_)
    · refine ir_l (pc' := 74) rfl rfl rfl rfl rfl rfl ?_
      refine ir_getR (pc' := 77) rfl rfl rfl (gG_at tsk_10) rfl e15 ?_
      refine ir_cVI (pc' := 80) rfl rfl rfl rfl rfl (Nat.le_of_ble_eq_true rfl) oo_X1_toLong (gG_at w43_83_6k) (sf_toLong1_19 L ys (d + 1) s14 hT14 w43_83_6 w43_83_6k ) (fun z19 s20 hr => ?_)
      obtain ⟨hT20, hG20, z19l, z19h⟩ := hr
      have hF20 := fr_trans hF14 hG20 (by decide)
      have e21 : s20.1 83 6 = ((w43_83_6 : Nat) : Int) := (hG20.1 _ _ tsk_10 6 (by decide)).trans e15
      have e22 : s20.1 a1 6 = ((w43_a1_6 : Nat) : Int) := (hG20.1 _ _ a1k 6 (by decide)).trans e16
      have e23 : s20.1 a1 7 = z11 := (hG20.1 _ _ a1k 7 (by decide)).trans e17
      refine ir_w [(1, (2, ((a1 : Nat) : Int)))] ⟨rfl, trivial⟩ ?_
      exact J80 (z19) (by omega) (by omega) s20 hT20 hF20 w43_83_6 w43_83_6k e21 w43_a1_6 w43_a1_6k e22 (z11) (by omega) (by omega) e23
    · refine ir_l (pc' := 62) rfl rfl rfl rfl rfl rfl ?_
      refine ir_getR (pc' := 65) rfl rfl rfl (gG_at tsk_10) rfl e15 ?_
      refine ir_cVI (pc' := 68) rfl rfl rfl rfl rfl (Nat.le_of_ble_eq_true rfl) oo_X1_toLong (gG_at w43_83_6k) (sf_toLong1_19 L ys (d + 1) s14 hT14 w43_83_6 w43_83_6k ) (fun z24 s25 hr => ?_)
      obtain ⟨hT25, hG25, z24l, z24h⟩ := hr
      have hF25 := fr_trans hF14 hG25 (by decide)
      have e26 : s25.1 83 6 = ((w43_83_6 : Nat) : Int) := (hG25.1 _ _ tsk_10 6 (by decide)).trans e15
      have e27 : s25.1 a1 6 = ((w43_a1_6 : Nat) : Int) := (hG25.1 _ _ a1k 6 (by decide)).trans e16
      have e28 : s25.1 a1 7 = z11 := (hG25.1 _ _ a1k 7 (by decide)).trans e17
      refine ir_k (pc' := 69) (v := (1, 1)) rfl rfl rfl (fun _ => rfl) ?_
      refine ir_jjA (pc' := 70) rfl rfl rfl rfl (fun z29 z29l z29h => ?_)
      refine ir_goto (pc' := 80) rfl rfl ?_
      refine ir_w [(1, (2, ((a1 : Nat) : Int)))] ⟨rfl, trivial⟩ ?_
      exact J80 (z29) (by omega) (by omega) s25 hT25 hF25 w43_83_6 w43_83_6k e26 w43_a1_6 w43_a1_6k e27 (z11) (by omega) (by omega) e28
  have J26 : ∀ (q26_s0 : Int) (q26_s0l : 0 ≤ q26_s0) (q26_s0h : q26_s0 ≤ 1) (s_26 : im_S) (hT_26 : tI s_26) (hF_26 : fr [(19, 1), (19, 2), (23, 4), (23, 5)] s0 s_26) (w26_83_6 : Nat) (w26_83_6k : gK[w26_83_6]? = some 19) (w26_83_6e : s_26.1 83 6 = ((w26_83_6 : Nat) : Int)) (w26_a1_6 : Nat) (w26_a1_6k : gK[w26_a1_6]? = some 19) (w26_a1_6e : s_26.1 a1 6 = ((w26_a1_6 : Nat) : Int)), ir gG rm_P L ys (d + 3) rm_p_X3_readParts (26, [(0, (2, ((83 : Nat) : Int))), (1, (2, ((a1 : Nat) : Int)))], [(0, q26_s0)], s_26) (fun r : im_Re => r.1 = none ∧ (tI r.2 ∧ fr [(19, 1), (19, 2), (23, 4), (23, 5)] s0 r.2)) := by
    intro q26_s0 q26_s0l q26_s0h s_26 hT_26 hF_26 w26_83_6 w26_83_6k w26_83_6e w26_a1_6 w26_a1_6k w26_a1_6e
    refine ir_s (pc' := 27) rfl rfl rfl rfl rfl rfl ?_
    refine ir_l (pc' := 28) rfl rfl rfl rfl rfl rfl ?_
    refine ir_z_eq (pt := 43) (pc' := 31) rfl rfl rfl (fun c30 => ?_) (fun c30 => ?_)
    · refine ir_w [(0, (2, ((83 : Nat) : Int))), (1, (2, ((a1 : Nat) : Int))), (2, (0, q26_s0))] ⟨rfl, rfl, rfl, trivial⟩ ?_
      exact J43 (q26_s0) (by omega) (by omega) s_26 hT_26 hF_26 w26_83_6 w26_83_6k w26_83_6e w26_a1_6 w26_a1_6k w26_a1_6e
    · refine ir_l (pc' := 32) rfl rfl rfl rfl rfl rfl ?_
      refine ir_getR (pc' := 35) rfl rfl rfl (gG_at tsk_10) rfl w26_83_6e ?_
      refine ir_l (pc' := 36) rfl rfl rfl rfl rfl rfl ?_
      refine ir_tgr (pc' := 39) rfl rfl rfl tf_10_5 tsk_10 hT_26 (fun b31 b31e b31k => ?_)
      refine ir_k (pc' := 40) (v := (0, 1)) rfl rfl rfl (fun _ => rfl) ?_
      refine ir_cVV (pc' := 43) rfl rfl rfl rfl rfl (Nat.le_of_ble_eq_true rfl) oo_X1_add (gG_at w26_83_6k) (sf_add1_19_21 L ys d s_26 hT_26 w26_83_6 w26_83_6k b31 b31k (1) (by omega) (by omega) ) (fun s33 hr => ?_)
      obtain ⟨hT33, hG33⟩ := hr
      have hF33 := fr_trans hF_26 hG33 (by decide)
      have e34 : s33.1 83 6 = ((w26_83_6 : Nat) : Int) := (hG33.1 _ _ tsk_10 6 (by decide)).trans w26_83_6e
      have e35 : s33.1 a1 6 = ((w26_a1_6 : Nat) : Int) := (hG33.1 _ _ a1k 6 (by decide)).trans w26_a1_6e
      have e36 : s33.1 83 5 = ((b31 : Nat) : Int) := (hG33.1 _ _ tsk_10 5 (by decide)).trans b31e
      refine ir_w [(0, (2, ((83 : Nat) : Int))), (1, (2, ((a1 : Nat) : Int))), (2, (0, q26_s0))] ⟨rfl, rfl, rfl, trivial⟩ ?_
      exact J43 (q26_s0) (by omega) (by omega) s33 hT33 hF33 w26_83_6 w26_83_6k e34 w26_a1_6 w26_a1_6k e35
  refine ir_l (pc' := 1) rfl rfl rfl rfl rfl rfl ?_
  refine ir_tgr (pc' := 4) rfl rfl rfl tf_10_6 tsk_10 hT0 (fun b37 b37e b37k => ?_)
  refine ir_l (pc' := 5) rfl rfl rfl rfl rfl rfl ?_
  refine ir_tgr (pc' := 8) rfl rfl rfl tf_23_6 a1k hT0 (fun b38 b38e b38k => ?_)
  refine ir_cVV (pc' := 11) rfl rfl rfl rfl rfl (Nat.le_of_ble_eq_true rfl) oo_X1_copy (gG_at b37k) (sf_copy1_19_19 L ys (d + 1) s0 hT0 b37 b37k b38 b38k ) (fun s40 hr => ?_)
  obtain ⟨hT40, hG40⟩ := hr
  have hF40 := fr_trans hF0 hG40 (by decide)
  have e41 : s40.1 83 6 = ((b37 : Nat) : Int) := (hG40.1 _ _ tsk_10 6 (by decide)).trans b37e
  have e42 : s40.1 a1 6 = ((b38 : Nat) : Int) := (hG40.1 _ _ a1k 6 (by decide)).trans b38e
  refine ir_l (pc' := 12) rfl rfl rfl rfl rfl rfl ?_
  refine ir_getR (pc' := 15) rfl rfl rfl (gG_at tsk_10) rfl e41 ?_
  refine ir_tgi (pc' := 18) rfl rfl rfl tf_19_2 b37k hT40 (fun z43 z43e z43l z43h => ?_)
  refine ir_z_ge (pt := 25) (pc' := 21) rfl rfl rfl (fun c44 => ?_) (fun c44 => ?_)
  · refine ir_k (pc' := 26) (v := (0, 0)) rfl rfl rfl (fun _ => rfl) ?_
    refine ir_w [(0, (2, ((83 : Nat) : Int))), (1, (2, ((a1 : Nat) : Int)))] ⟨rfl, rfl, trivial⟩ ?_
    exact J26 (0) (by omega) (by omega) s40 hT40 hF40 b37 b37k e41 b38 b38k e42
  · refine ir_k (pc' := 22) (v := (0, 1)) rfl rfl rfl (fun _ => rfl) ?_
    refine ir_goto (pc' := 26) rfl rfl ?_
    refine ir_w [(0, (2, ((83 : Nat) : Int))), (1, (2, ((a1 : Nat) : Int)))] ⟨rfl, rfl, trivial⟩ ?_
    exact J26 (1) (by omega) (by omega) s40 hT40 hF40 b37 b37k e41 b38 b38k e42
