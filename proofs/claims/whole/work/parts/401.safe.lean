/-! WALKS OF THE CLASS'S METHODS, by program -/
theorem sf_rebuild2 (L : Nat) (ys : Nat → Int32) (d : Nat) (s0 : im_S) (hT0 : tI s0) (x1 : Int) (x1l : -9223372036854775808 ≤ x1) (x1h : x1 ≤ 9223372036854775807) (x2 : Int) (x2l : -1 ≤ x2) (x2h : x2 ≤ 8) (x3 : Int) (x3l : 2147482693 ≤ x3) (x3h : x3 ≤ 2147483647) (x4 : Int) (x4l : 2147482693 ≤ x4) (x4h : x4 ≤ 2147483647) : icV gG rm_P L ys (d + 4) 130 [(2, ((247 : Nat) : Int)), (1, x1), (0, x2), (1, x3), (1, x4)] s0 (fun s => tI s ∧ fr [(4, 0)] s0 s) := by
  refine ic_startM (M := rm_p_X2_rebuild) om_X2_rebuild (Nat.le_of_ble_eq_true rfl) ?_
  refine ir_w [(0, (2, ((247 : Nat) : Int))), (1, (1, x1)), (3, (0, x2)), (4, (1, x3)), (6, (1, x4))] ⟨rfl, rfl, rfl, rfl, rfl, trivial⟩ ?_
  have hF0 := fr_refl [(4, 0)] s0
  have J27 : ∀ n : Nat, ∀ (q27_l8 : Int) (q27_l8l : -9223372036854775808 ≤ q27_l8) (q27_l8h : q27_l8 ≤ 9223372036854775807) (q27_l10 : Int) (q27_l10l : -9223372036854775808 ≤ q27_l10) (q27_l10h : q27_l10 ≤ 9223372036854775807) (q27_l12 : Int) (q27_l12l : 0 ≤ q27_l12) (q27_l12h : q27_l12 ≤ 9) (s_27 : im_S) (hT_27 : tI s_27) (hF_27 : fr [(4, 0)] s0 s_27) (w27_247_5 : Nat) (w27_247_5k : gK[w27_247_5]? = some 4) (w27_247_5e : s_27.1 247 5 = ((w27_247_5 : Nat) : Int)), (9 + 1 - q27_l12) ≤ (n : Int) → ir gG rm_P L ys (d + 3) rm_p_X2_rebuild (27, [(0, (2, ((247 : Nat) : Int))), (1, (1, x1)), (3, (0, x2)), (4, (1, x3)), (6, (1, x4)), (8, (1, q27_l8)), (10, (1, q27_l10)), (12, (0, q27_l12))], [], s_27) (fun r : im_Re => r.1 = none ∧ (tI r.2 ∧ fr [(4, 0)] s0 r.2)) := by
    intro n
    induction n with
    | zero => intro q27_l8 q27_l8l q27_l8h q27_l10 q27_l10l q27_l10h q27_l12 q27_l12l q27_l12h s_27 hT_27 hF_27 w27_247_5 w27_247_5k w27_247_5e hr; exfalso; omega
    | succ n ih27 =>
      intro q27_l8 q27_l8l q27_l8h q27_l10 q27_l10l q27_l10h q27_l12 q27_l12l q27_l12h s_27 hT_27 hF_27 w27_247_5 w27_247_5k w27_247_5e hr
      have J122 : ∀ (q122_s0 : Nat) (q122_s0k : gK[q122_s0]? = some 6) (q122_s1 : Int) (q122_s1l : 0 ≤ q122_s1) (q122_s1h : q122_s1 ≤ 8) (q122_s2 : Int) (q122_s2l : -9223372036854775808 ≤ q122_s2) (q122_s2h : q122_s2 ≤ 9223372036854775807) (f122_3l : 0 ≤ x2) (f122_12h : q27_l12 ≤ 8) (s_122 : im_S) (hT_122 : tI s_122) (hF_122 : fr [(4, 0)] s0 s_122) (w122_247_3 : Nat) (w122_247_3k : gK[w122_247_3]? = some 6) (w122_247_3e : s_122.1 247 3 = ((w122_247_3 : Nat) : Int)) (w122_247_4 : Nat) (w122_247_4k : gK[w122_247_4]? = some 6) (w122_247_4e : s_122.1 247 4 = ((w122_247_4 : Nat) : Int)) (w122_247_5 : Nat) (w122_247_5k : gK[w122_247_5]? = some 4) (w122_247_5e : s_122.1 247 5 = ((w122_247_5 : Nat) : Int)), ir gG rm_P L ys (d + 3) rm_p_X2_rebuild (122, [(0, (2, ((247 : Nat) : Int))), (1, (1, x1)), (3, (0, x2)), (4, (1, x3)), (6, (1, x4)), (8, (1, q27_l8)), (10, (1, q27_l10)), (12, (0, q27_l12))], [(1, q122_s2), (0, q122_s1), (2, ((q122_s0 : Nat) : Int))], s_122) (fun r : im_Re => r.1 = none ∧ (tI r.2 ∧ fr [(4, 0)] s0 r.2)) := by
        intro q122_s0 q122_s0k q122_s1 q122_s1l q122_s1h q122_s2 q122_s2l q122_s2h f122_3l f122_12h s_122 hT_122 hF_122 w122_247_3 w122_247_3k w122_247_3e w122_247_4 w122_247_4k w122_247_4e w122_247_5 w122_247_5k w122_247_5e
        refine ir_tls (pc' := 123) rfl rfl te_6 q122_s0k hT_122 (by omega) (by omega) (by omega) (by omega) (fun s1 hT1 r1 o1 => ?_)
        have hF1 := fr_row hF_122 r1 o1
        have e2 : s1.1 247 5 = ((w122_247_5 : Nat) : Int) := by rw [r1]; exact w122_247_5e
        have e3 : s1.1 247 4 = ((w122_247_4 : Nat) : Int) := by rw [r1]; exact w122_247_4e
        have e4 : s1.1 247 3 = ((w122_247_3 : Nat) : Int) := by rw [r1]; exact w122_247_3e
        refine ir_inc (pc' := 126) rfl rfl rfl rfl rfl (by omega) (by omega) ?_
        refine ir_goto (pc' := 27) rfl rfl ?_
        refine ir_w [(0, (2, ((247 : Nat) : Int))), (1, (1, x1)), (3, (0, x2)), (4, (1, x3)), (6, (1, x4)), (8, (1, q27_l8)), (10, (1, q27_l10)), (12, (0, (q27_l12 + 1)))] ⟨rfl, rfl, rfl, rfl, rfl, rfl, rfl, rfl, trivial⟩ ?_
        exact ih27 (q27_l8) (by omega) (by omega) (q27_l10) (by omega) (by omega) ((q27_l12 + 1)) (by omega) (by omega) s1 hT1 hF1 w122_247_5 w122_247_5k e2 (by omega)
      refine ir_l (pc' := 29) rfl rfl rfl rfl rfl rfl ?_
      refine ir_l (pc' := 30) rfl rfl rfl rfl rfl rfl ?_
      refine ir_c_gt (pt := 129) (pc' := 33) rfl rfl rfl (fun c5 => ?_) (fun c5 => ?_)
      · refine ir_l (pc' := 130) rfl rfl rfl rfl rfl rfl ?_
        refine ir_getR (pc' := 133) rfl rfl rfl (gG_at tsk_14) rfl w27_247_5e ?_
        refine ir_cVV (pc' := 136) rfl rfl rfl rfl rfl (Nat.le_of_ble_eq_true rfl) oo_X6_measure (gG_at w27_247_5k) (sf_measure6 L ys (d + 2) s_27 hT_27 w27_247_5 w27_247_5k ) (fun s7 hr => ?_)
        obtain ⟨hT7, hG7⟩ := hr
        have hF7 := fr_trans hF_27 hG7 (by decide)
        have e8 : s7.1 247 5 = ((w27_247_5 : Nat) : Int) := (hG7.1 _ _ tsk_14 5 (by decide)).trans w27_247_5e
        refine ir_l (pc' := 137) rfl rfl rfl rfl rfl rfl ?_
        refine ir_getR (pc' := 140) rfl rfl rfl (gG_at tsk_14) rfl e8 ?_
        refine ir_cVV (pc' := 143) rfl rfl rfl rfl rfl (Nat.le_of_ble_eq_true rfl) oo_X6_makePrimitive (gG_at w27_247_5k) (sf_makePrimitive6 L ys d s7 hT7 w27_247_5 w27_247_5k ) (fun s10 hr => ?_)
        obtain ⟨hT10, hG10⟩ := hr
        have hF10 := fr_trans hF7 hG10 (by decide)
        have e11 : s10.1 247 5 = ((w27_247_5 : Nat) : Int) := (hG10.1 _ _ tsk_14 5 (by decide)).trans e8
        exact ir_vret rfl rfl ⟨rfl, hT10, hF10⟩
      · refine ir_l (pc' := 34) rfl rfl rfl rfl rfl rfl ?_
        refine ir_l (pc' := 36) rfl rfl rfl rfl rfl rfl ?_
        refine ir_jzA (pc' := 37) rfl rfl rfl rfl (by omega) (fun z12 z12l z12h => ?_)
        refine ir_l (pc' := 38) rfl rfl rfl rfl rfl rfl ?_
        refine ir_tgr (pc' := 41) rfl rfl rfl tf_14_4 tsk_14 hT_27 (fun b13 b13e b13k => ?_)
        refine ir_l (pc' := 43) rfl rfl rfl rfl rfl rfl ?_
        refine ir_tla (pc' := 44) rfl rfl te_6 (by decide) b13k hT_27 (by omega) (by omega) (fun z14 z14e z14l z14h => ?_)
        clear z14e
        refine ir_jjA (pc' := 45) rfl rfl rfl rfl (fun z15 z15l z15h => ?_)
        refine ir_l (pc' := 47) rfl rfl rfl rfl rfl rfl ?_
        refine ir_jzA (pc' := 48) rfl rfl rfl rfl (by omega) (fun z16 z16l z16h => ?_)
        refine ir_s2 (pc' := 50) rfl rfl rfl rfl rfl rfl ?_
        refine ir_l (pc' := 51) rfl rfl rfl rfl rfl rfl ?_
        refine ir_l (pc' := 53) rfl rfl rfl rfl rfl rfl ?_
        refine ir_jzA (pc' := 54) rfl rfl rfl rfl (by omega) (fun z17 z17l z17h => ?_)
        refine ir_l (pc' := 55) rfl rfl rfl rfl rfl rfl ?_
        refine ir_tgr (pc' := 58) rfl rfl rfl tf_14_3 tsk_14 hT_27 (fun b18 b18e b18k => ?_)
        refine ir_l (pc' := 60) rfl rfl rfl rfl rfl rfl ?_
        refine ir_tla (pc' := 61) rfl rfl te_6 (by decide) b18k hT_27 (by omega) (by omega) (fun z19 z19e z19l z19h => ?_)
        clear z19e
        refine ir_jjA (pc' := 62) rfl rfl rfl rfl (fun z20 z20l z20h => ?_)
        refine ir_l (pc' := 64) rfl rfl rfl rfl rfl rfl ?_
        refine ir_jzA (pc' := 65) rfl rfl rfl rfl (by omega) (fun z21 z21l z21h => ?_)
        refine ir_s2 (pc' := 67) rfl rfl rfl rfl rfl rfl ?_
        refine ir_l (pc' := 69) rfl rfl rfl rfl rfl rfl ?_
        refine ir_l (pc' := 71) rfl rfl rfl rfl rfl rfl ?_
        refine ir_l (pc' := 73) rfl rfl rfl rfl rfl rfl ?_
        refine ir_l (pc' := 75) rfl rfl rfl rfl rfl rfl ?_
        refine ir_jjA (pc' := 76) rfl rfl rfl rfl (fun z22 z22l z22h => ?_)
        refine ir_l (pc' := 78) rfl rfl rfl rfl rfl rfl ?_
        refine ir_cSI (pc' := 81) rfl rfl rfl rfl rfl rfl (Nat.le_of_ble_eq_true rfl) (sf_fmJ L ys (d + 2) s_27 (z22) (by omega) (by omega) (x4) (by omega) (by omega)) (fun z23 s24 hr => ?_)
        obtain ⟨rfl, z23p0, z23p1⟩ := hr
        refine ir_l (pc' := 83) rfl rfl rfl rfl rfl rfl ?_
        refine ir_jjA (pc' := 84) rfl rfl rfl rfl (fun z25 z25l z25h => ?_)
        refine ir_l (pc' := 86) rfl rfl rfl rfl rfl rfl ?_
        refine ir_jzA (pc' := 87) rfl rfl rfl rfl (by omega) (fun z26 z26l z26h => ?_)
        refine ir_jjA (pc' := 88) rfl rfl rfl rfl (fun z27 z27l z27h => ?_)
        refine ir_jjA (pc' := 89) rfl rfl rfl rfl (fun z28 z28l z28h => ?_)
        refine ir_s2 (pc' := 91) rfl rfl rfl rfl rfl rfl ?_
        refine ir_l (pc' := 92) rfl rfl rfl rfl rfl rfl ?_
        refine ir_getR (pc' := 95) rfl rfl rfl (gG_at tsk_14) rfl w27_247_5e ?_
        refine ir_tgr (pc' := 98) rfl rfl rfl tf_4_1 w27_247_5k hT_27 (fun b29 b29e b29k => ?_)
        refine ir_l (pc' := 100) rfl rfl rfl rfl rfl rfl ?_
        refine ir_l (pc' := 102) rfl rfl rfl rfl rfl rfl ?_
        refine ir_l (pc' := 104) rfl rfl rfl rfl rfl rfl ?_
        refine ir_k (pc' := 107) (v := (1, 2)) rfl rfl rfl (fun _ => rfl) ?_
        refine ir_jzA (pc' := 108) rfl rfl rfl rfl (by omega) (fun z30 z30l z30h => ?_)
        refine ir_lcmp (pc' := 109) rfl rfl (by omega) (by omega) (by omega) (by omega) (fun z31 z31c => ?_)
        refine ir_z_le (pt := 120) (pc' := 112) rfl rfl rfl (fun c32 => ?_) (fun c32 => ?_)
        · refine ir_l (pc' := 122) rfl rfl rfl rfl rfl rfl ?_
          refine ir_w [(0, (2, ((247 : Nat) : Int))), (1, (1, x1)), (3, (0, x2)), (4, (1, x3)), (6, (1, x4)), (8, (1, q27_l8)), (10, (1, q27_l10)), (12, (0, q27_l12))] ⟨rfl, rfl, rfl, rfl, rfl, rfl, rfl, rfl, trivial⟩ ?_
          exact J122 b29 b29k (q27_l12) (by omega) (by omega) (z28) (by omega) (by omega) (by omega) (by omega) s_27 hT_27 hF_27 b18 b18k b18e b13 b13k b13e w27_247_5 w27_247_5k w27_247_5e
        · refine ir_l (pc' := 114) rfl rfl rfl rfl rfl rfl ?_
          refine ir_l (pc' := 116) rfl rfl rfl rfl rfl rfl ?_
          refine ir_jjA (pc' := 117) rfl rfl rfl rfl (fun z33 z33l z33h => ?_)
          refine ir_goto (pc' := 122) rfl rfl ?_
          refine ir_w [(0, (2, ((247 : Nat) : Int))), (1, (1, x1)), (3, (0, x2)), (4, (1, x3)), (6, (1, x4)), (8, (1, q27_l8)), (10, (1, q27_l10)), (12, (0, q27_l12))] ⟨rfl, rfl, rfl, rfl, rfl, rfl, rfl, rfl, trivial⟩ ?_
          exact J122 b29 b29k (q27_l12) (by omega) (by omega) (z33) (by omega) (by omega) (by omega) (by omega) s_27 hT_27 hF_27 b18 b18k b18e b13 b13k b13e w27_247_5 w27_247_5k w27_247_5e
  refine ir_l (pc' := 2) rfl rfl rfl rfl rfl rfl ?_
  refine ir_l (pc' := 4) rfl rfl rfl rfl rfl rfl ?_
  refine ir_cSI (pc' := 7) rfl rfl rfl rfl rfl rfl (Nat.le_of_ble_eq_true rfl) (sf_inverse2 L ys (d + 2) s0 hT0 (x3) (by omega) (by omega) (x4) (by omega) (by omega) ) (fun z34 s35 hr => ?_)
  obtain ⟨hT35, hG35, z34l, z34h⟩ := hr
  have hF35 := fr_trans hF0 hG35 (by decide)
  refine ir_s2 (pc' := 9) rfl rfl rfl rfl rfl rfl ?_
  refine ir_l (pc' := 11) rfl rfl rfl rfl rfl rfl ?_
  refine ir_l (pc' := 13) rfl rfl rfl rfl rfl rfl ?_
  refine ir_jjA (pc' := 14) rfl rfl rfl rfl (fun z36 z36l z36h => ?_)
  refine ir_s2 (pc' := 16) rfl rfl rfl rfl rfl rfl ?_
  refine ir_l (pc' := 17) rfl rfl rfl rfl rfl rfl ?_
  refine ir_tgr (pc' := 20) rfl rfl rfl tf_14_5 tsk_14 hT35 (fun b37 b37e b37k => ?_)
  refine ir_k (pc' := 21) (v := (1, 0)) rfl rfl rfl (fun _ => rfl) ?_
  refine ir_cVV (pc' := 24) rfl rfl rfl rfl rfl (Nat.le_of_ble_eq_true rfl) oo_X6_setConstant (gG_at b37k) (sf_setConstant6 L ys (d + 2) s35 hT35 b37 b37k (0) (by omega) (by omega) ) (fun s39 hr => ?_)
  obtain ⟨hT39, hG39⟩ := hr
  have hF39 := fr_trans hF35 hG39 (by decide)
  have e40 : s39.1 247 5 = ((b37 : Nat) : Int) := (hG39.1 _ _ tsk_14 5 (by decide)).trans b37e
  refine ir_k (pc' := 25) (v := (0, 0)) rfl rfl rfl (fun _ => rfl) ?_
  refine ir_s (pc' := 27) rfl rfl rfl rfl rfl rfl ?_
  refine ir_w [(0, (2, ((247 : Nat) : Int))), (1, (1, x1)), (3, (0, x2)), (4, (1, x3)), (6, (1, x4)), (8, (1, z34)), (10, (1, z36)), (12, (0, 0))] ⟨rfl, rfl, rfl, rfl, rfl, rfl, rfl, rfl, trivial⟩ ?_
  exact J27 _ (z34) (by omega) (by omega) (z36) (by omega) (by omega) (0) (by omega) (by omega) s39 hT39 hF39 b37 b37k e40 (Int.self_le_toNat _)
theorem sf_divide2 (L : Nat) (ys : Nat → Int32) (d : Nat) (s0 : im_S) (hT0 : tI s0) (a1 : Nat) (a1k : gK[a1]? = some 4) (a2 : Nat) (a2k : gK[a2]? = some 4) : icI gG rm_P L ys 0 (d + 2) 124 [(2, ((247 : Nat) : Int)), (2, (a1 : Int)), (2, (a2 : Int))] s0 (fun z s => tI s ∧ fr [(4, 0)] s0 s ∧ 0 ≤ z ∧ z ≤ 1) := by
  refine ic_startM (M := rm_p_X2_divide) om_X2_divide (Nat.le_of_ble_eq_true rfl) ?_
  refine ir_w [(0, (2, ((247 : Nat) : Int))), (1, (2, ((a1 : Nat) : Int))), (2, (2, ((a2 : Nat) : Int)))] ⟨rfl, rfl, rfl, trivial⟩ ?_
  have hF0 := fr_refl [(4, 0)] s0
  have J220 : ∀ (q220_s0 : Int) (q220_s0l : 0 ≤ q220_s0) (q220_s0h : q220_s0 ≤ 1) (s_220 : im_S) (hT_220 : tI s_220) (hF_220 : fr [(4, 0)] s0 s_220) (w220_247_2 : Nat) (w220_247_2k : gK[w220_247_2]? = some 6) (w220_247_2e : s_220.1 247 2 = ((w220_247_2 : Nat) : Int)) (w220_247_7 : Nat) (w220_247_7k : gK[w220_247_7]? = some 4) (w220_247_7e : s_220.1 247 7 = ((w220_247_7 : Nat) : Int)) (w220_a1_0 : Int) (w220_a1_0l : -1 ≤ w220_a1_0) (w220_a1_0h : w220_a1_0 ≤ 8) (w220_a1_0e : s_220.1 a1 0 = w220_a1_0) (w220_a2_0 : Int) (w220_a2_0l : -1 ≤ w220_a2_0) (w220_a2_0h : w220_a2_0 ≤ 8) (w220_a2_0e : s_220.1 a2 0 = w220_a2_0), ir gG rm_P L ys (d + 1) rm_p_X2_divide (220, [], [(0, q220_s0)], s_220) (fun r : im_Re => ∃ z, r.1 = some (0, z) ∧ (tI r.2 ∧ fr [(4, 0)] s0 r.2 ∧ 0 ≤ z ∧ z ≤ 1)) := by
    intro q220_s0 q220_s0l q220_s0h s_220 hT_220 hF_220 w220_247_2 w220_247_2k w220_247_2e w220_247_7 w220_247_7k w220_247_7e w220_a1_0 w220_a1_0l w220_a1_0h w220_a1_0e w220_a2_0 w220_a2_0l w220_a2_0h w220_a2_0e
    exact ir_zret rfl rfl (by omega) ⟨_, rfl, hT_220, hF_220, by omega, by omega⟩
  have J82 : ∀ n : Nat, ∀ (q82_l3 : Int) (q82_l3l : -9223372036854775808 ≤ q82_l3) (q82_l3h : q82_l3 ≤ 9223372036854775807) (q82_l3n : q82_l3 ≠ 0) (q82_l5 : Int) (q82_l5l : 1 ≤ q82_l5) (q82_l5h : q82_l5 ≤ 9223372036854775807) (q82_l7 : Int) (q82_l7l : -9 ≤ q82_l7) (q82_l7h : q82_l7 ≤ 8) (s_82 : im_S) (hT_82 : tI s_82) (hF_82 : fr [(4, 0)] s0 s_82) (w82_247_7 : Nat) (w82_247_7k : gK[w82_247_7]? = some 4) (w82_247_7e : s_82.1 247 7 = ((w82_247_7 : Nat) : Int)) (w82_a1_0 : Int) (w82_a1_0l : -1 ≤ w82_a1_0) (w82_a1_0h : w82_a1_0 ≤ 8) (w82_a1_0e : s_82.1 a1 0 = w82_a1_0) (w82_a2_0 : Int) (w82_a2_0l : 0 ≤ w82_a2_0) (w82_a2_0h : w82_a2_0 ≤ 8) (w82_a2_0e : s_82.1 a2 0 = w82_a2_0) (i82_0 : q82_l7 + w82_a2_0 ≤ 8), (q82_l7 - -9 + 1) ≤ (n : Int) → ir gG rm_P L ys (d + 1) rm_p_X2_divide (82, [(0, (2, ((247 : Nat) : Int))), (2, (2, ((a2 : Nat) : Int))), (3, (1, q82_l3)), (5, (1, q82_l5)), (7, (0, q82_l7))], [], s_82) (fun r : im_Re => ∃ z, r.1 = some (0, z) ∧ (tI r.2 ∧ fr [(4, 0)] s0 r.2 ∧ 0 ≤ z ∧ z ≤ 1)) := by
    intro n
    induction n with
    | zero => intro q82_l3 q82_l3l q82_l3h q82_l3n q82_l5 q82_l5l q82_l5h q82_l7 q82_l7l q82_l7h s_82 hT_82 hF_82 w82_247_7 w82_247_7k w82_247_7e w82_a1_0 w82_a1_0l w82_a1_0h w82_a1_0e w82_a2_0 w82_a2_0l w82_a2_0h w82_a2_0e i82_0 hr; exfalso; omega
    | succ n ih82 =>
      intro q82_l3 q82_l3l q82_l3h q82_l3n q82_l5 q82_l5l q82_l5h q82_l7 q82_l7l q82_l7h s_82 hT_82 hF_82 w82_247_7 w82_247_7k w82_247_7e w82_a1_0 w82_a1_0l w82_a1_0h w82_a1_0e w82_a2_0 w82_a2_0l w82_a2_0h w82_a2_0e i82_0 hr
      have J135 : ∀ n : Nat, ∀ (q135_l8 : Int) (q135_l8l : -9223372036854775808 ≤ q135_l8) (q135_l8h : q135_l8 ≤ 9223372036854775807) (q135_l10 : Int) (q135_l10l : 0 ≤ q135_l10) (q135_l10h : q135_l10 ≤ 9) (f135_7l : 0 ≤ q82_l7) (s_135 : im_S) (hT_135 : tI s_135) (hF_135 : fr [(4, 0)] s0 s_135) (w135_247_2 : Nat) (w135_247_2k : gK[w135_247_2]? = some 6) (w135_247_2e : s_135.1 247 2 = ((w135_247_2 : Nat) : Int)) (w135_247_7 : Nat) (w135_247_7k : gK[w135_247_7]? = some 4) (w135_247_7e : s_135.1 247 7 = ((w135_247_7 : Nat) : Int)) (w135_a1_0 : Int) (w135_a1_0l : -1 ≤ w135_a1_0) (w135_a1_0h : w135_a1_0 ≤ 8) (w135_a1_0e : s_135.1 a1 0 = w135_a1_0) (w135_a2_0 : Int) (w135_a2_0l : 0 ≤ w135_a2_0) (w135_a2_0h : w135_a2_0 ≤ 8) (w135_a2_0e : s_135.1 a2 0 = w135_a2_0) (i135_0 : q82_l7 + w135_a2_0 ≤ 8), (9 + 1 - q135_l10) ≤ (n : Int) → ir gG rm_P L ys (d + 1) rm_p_X2_divide (135, [(0, (2, ((247 : Nat) : Int))), (2, (2, ((a2 : Nat) : Int))), (3, (1, q82_l3)), (5, (1, q82_l5)), (7, (0, q82_l7)), (8, (1, q135_l8)), (10, (0, q135_l10))], [], s_135) (fun r : im_Re => ∃ z, r.1 = some (0, z) ∧ (tI r.2 ∧ fr [(4, 0)] s0 r.2 ∧ 0 ≤ z ∧ z ≤ 1)) := by
        intro n
        induction n with
        | zero => intro q135_l8 q135_l8l q135_l8h q135_l10 q135_l10l q135_l10h f135_7l s_135 hT_135 hF_135 w135_247_2 w135_247_2k w135_247_2e w135_247_7 w135_247_7k w135_247_7e w135_a1_0 w135_a1_0l w135_a1_0h w135_a1_0e w135_a2_0 w135_a2_0l w135_a2_0h w135_a2_0e i135_0 hr; exfalso; omega
        | succ n ih135 =>
          intro q135_l8 q135_l8l q135_l8h q135_l10 q135_l10l q135_l10h f135_7l s_135 hT_135 hF_135 w135_247_2 w135_247_2k w135_247_2e w135_247_7 w135_247_7k w135_247_7e w135_a1_0 w135_a1_0l w135_a1_0h w135_a1_0e w135_a2_0 w135_a2_0l w135_a2_0h w135_a2_0e i135_0 hr
          refine ir_l (pc' := 137) rfl rfl rfl rfl rfl rfl ?_
          refine ir_l (pc' := 138) rfl rfl rfl rfl rfl rfl ?_
          refine ir_getI (pc' := 141) rfl rfl rfl (gG_at a2k) rfl (by decide) (by decide) w135_a2_0e (by omega) (by omega) ?_
          refine ir_c_gt (pt := 173) (pc' := 144) rfl rfl rfl (fun c1 => ?_) (fun c1 => ?_)
          · refine ir_l (pc' := 174) rfl rfl rfl rfl rfl rfl ?_
            refine ir_getR (pc' := 177) rfl rfl rfl (gG_at tsk_14) rfl w135_247_2e ?_
            refine ir_l (pc' := 179) rfl rfl rfl rfl rfl rfl ?_
            refine ir_l (pc' := 180) rfl rfl rfl rfl rfl rfl ?_
            refine ir_getI (pc' := 183) rfl rfl rfl (gG_at a2k) rfl (by decide) (by decide) w135_a2_0e (by omega) (by omega) ?_
            refine ir_add (pc' := 184) rfl rfl (by omega) (by omega) ?_
            refine ir_tla (pc' := 185) rfl rfl te_6 (by decide) w135_247_2k hT_135 (by omega) (by omega) (fun z2 z2e z2l z2h => ?_)
            clear z2e
            refine ir_k (pc' := 186) (v := (1, 0)) rfl rfl rfl (fun _ => rfl) ?_
            refine ir_lcmp (pc' := 187) rfl rfl (by omega) (by omega) (by omega) (by omega) (fun z3 z3c => ?_)
            refine ir_z_eq (pt := 192) (pc' := 190) rfl rfl rfl (fun c4 => ?_) (fun c4 => ?_)
            · refine ir_inc (pc' := 195) rfl rfl rfl rfl rfl (by omega) (by omega) ?_
              refine ir_goto (pc' := 82) rfl rfl ?_
              refine ir_w [(0, (2, ((247 : Nat) : Int))), (2, (2, ((a2 : Nat) : Int))), (3, (1, q82_l3)), (5, (1, q82_l5)), (7, (0, (q82_l7 + (-1))))] ⟨rfl, rfl, rfl, rfl, rfl, trivial⟩ ?_
              exact ih82 (q82_l3) (by omega) (by omega) (by omega) (q82_l5) (by omega) (by omega) ((q82_l7 + (-1))) (by omega) (by omega) s_135 hT_135 hF_135 w135_247_7 w135_247_7k w135_247_7e (w135_a1_0) (by omega) (by omega) w135_a1_0e (w135_a2_0) (by omega) (by omega) w135_a2_0e (by omega) (by omega)
            · refine ir_k (pc' := 191) (v := (0, 0)) rfl rfl rfl (fun _ => rfl) ?_
              exact ir_zret rfl rfl (by omega) ⟨_, rfl, hT_135, hF_135, by omega, by omega⟩
          · refine ir_l (pc' := 145) rfl rfl rfl rfl rfl rfl ?_
            refine ir_getR (pc' := 148) rfl rfl rfl (gG_at tsk_14) rfl w135_247_2e ?_
            refine ir_l (pc' := 150) rfl rfl rfl rfl rfl rfl ?_
            refine ir_l (pc' := 152) rfl rfl rfl rfl rfl rfl ?_
            refine ir_add (pc' := 153) rfl rfl (by omega) (by omega) ?_
            refine ir_x (pc' := 154) rfl rfl rfl (fun _ => rfl) ?_
            refine ir_tla (pc' := 155) rfl rfl te_6 (by decide) w135_247_2k hT_135 (by omega) (by omega) (fun z5 z5e z5l z5h => ?_)
            clear z5e
            refine ir_l (pc' := 157) rfl rfl rfl rfl rfl rfl ?_
            refine ir_l (pc' := 158) rfl rfl rfl rfl rfl rfl ?_
            refine ir_tgr (pc' := 161) rfl rfl rfl tf_4_1 a2k hT_135 (fun b6 b6e b6k => ?_)
            refine ir_l (pc' := 163) rfl rfl rfl rfl rfl rfl ?_
            refine ir_tla (pc' := 164) rfl rfl te_6 (by decide) b6k hT_135 (by omega) (by omega) (fun z7 z7e z7l z7h => ?_)
            clear z7e
            refine ir_jjA (pc' := 165) rfl rfl rfl rfl (fun z8 z8l z8h => ?_)
            refine ir_jjA (pc' := 166) rfl rfl rfl rfl (fun z9 z9l z9h => ?_)
            refine ir_tls (pc' := 167) rfl rfl te_6 w135_247_2k hT_135 (by omega) (by omega) (by omega) (by omega) (fun s10 hT10 r10 o10 => ?_)
            have hF10 := fr_row hF_135 r10 o10
            have e11 : s10.1 247 7 = ((w135_247_7 : Nat) : Int) := by rw [r10]; exact w135_247_7e
            have e12 : s10.1 a1 0 = w135_a1_0 := by rw [r10]; exact w135_a1_0e
            have e13 : s10.1 a2 0 = w135_a2_0 := by rw [r10]; exact w135_a2_0e
            have e14 : s10.1 247 2 = ((w135_247_2 : Nat) : Int) := by rw [r10]; exact w135_247_2e
            have e15 : s10.1 a2 1 = ((b6 : Nat) : Int) := by rw [r10]; exact b6e
            refine ir_inc (pc' := 170) rfl rfl rfl rfl rfl (by omega) (by omega) ?_
            refine ir_goto (pc' := 135) rfl rfl ?_
            refine ir_w [(0, (2, ((247 : Nat) : Int))), (2, (2, ((a2 : Nat) : Int))), (3, (1, q82_l3)), (5, (1, q82_l5)), (7, (0, q82_l7)), (8, (1, q135_l8)), (10, (0, (q135_l10 + 1)))] ⟨rfl, rfl, rfl, rfl, rfl, rfl, rfl, trivial⟩ ?_
            exact ih135 (q135_l8) (by omega) (by omega) ((q135_l10 + 1)) (by omega) (by omega) (by omega) s10 hT10 hF10 w135_247_2 w135_247_2k e14 w135_247_7 w135_247_7k e11 (w135_a1_0) (by omega) (by omega) e12 (w135_a2_0) (by omega) (by omega) e13 (by omega) (by omega)
      refine ir_l (pc' := 84) rfl rfl rfl rfl rfl rfl ?_
      refine ir_z_lt (pt := 198) (pc' := 87) rfl rfl rfl (fun c16 => ?_) (fun c16 => ?_)
      · refine ir_l (pc' := 199) rfl rfl rfl rfl rfl rfl ?_
        refine ir_getR (pc' := 202) rfl rfl rfl (gG_at tsk_14) rfl w82_247_7e ?_
        refine ir_cVV (pc' := 205) rfl rfl rfl rfl rfl (Nat.le_of_ble_eq_true rfl) oo_X6_measure (gG_at w82_247_7k) (sf_measure6 L ys d s_82 hT_82 w82_247_7 w82_247_7k ) (fun s18 hr => ?_)
        obtain ⟨hT18, hG18⟩ := hr
        have hF18 := fr_trans hF_82 hG18 (by decide)
        have e19 : s18.1 247 7 = ((w82_247_7 : Nat) : Int) := (hG18.1 _ _ tsk_14 7 (by decide)).trans w82_247_7e
        obtain ⟨z20, z20e, z20l, z20h⟩ := tI_i tf_4_0 a1k hT18
        obtain ⟨z21, z21e, z21l, z21h⟩ := tI_i tf_4_0 a2k hT18
        refine ir_l (pc' := 206) rfl rfl rfl rfl rfl rfl ?_
        refine ir_tgr (pc' := 209) rfl rfl rfl tf_14_2 tsk_14 hT18 (fun b22 b22e b22k => ?_)
        refine ir_cSI (pc' := 212) rfl rfl rfl rfl rfl rfl (Nat.le_of_ble_eq_true rfl) (sf_degreeOf2 L ys d s18 hT18 b22 b22k ) (fun z23 s24 hr => ?_)
        obtain ⟨hT24, hG24, z23l, z23h⟩ := hr
        have hF24 := fr_trans hF18 hG24 (by decide)
        have e25 : s24.1 247 7 = ((w82_247_7 : Nat) : Int) := (hG24.1 _ _ tsk_14 7 (by decide)).trans e19
        have e26 : s24.1 a1 0 = z20 := (hG24.1 _ _ a1k 0 (by decide)).trans z20e
        have e27 : s24.1 a2 0 = z21 := (hG24.1 _ _ a2k 0 (by decide)).trans z21e
        have e28 : s24.1 247 2 = ((b22 : Nat) : Int) := (hG24.1 _ _ tsk_14 2 (by decide)).trans b22e
        refine ir_z_ge (pt := 219) (pc' := 215) rfl rfl rfl (fun c29 => ?_) (fun c29 => ?_)
        · refine ir_k (pc' := 220) (v := (0, 0)) rfl rfl rfl (fun _ => rfl) ?_
          refine ir_w [] trivial ?_
          exact J220 (0) (by omega) (by omega) s24 hT24 hF24 b22 b22k e28 w82_247_7 w82_247_7k e25 (z20) (by omega) (by omega) e26 (z21) (by omega) (by omega) e27
        · refine ir_k (pc' := 216) (v := (0, 1)) rfl rfl rfl (fun _ => rfl) ?_
          refine ir_goto (pc' := 220) rfl rfl ?_
          refine ir_w [] trivial ?_
          exact J220 (1) (by omega) (by omega) s24 hT24 hF24 b22 b22k e28 w82_247_7 w82_247_7k e25 (z20) (by omega) (by omega) e26 (z21) (by omega) (by omega) e27
      · refine ir_l (pc' := 88) rfl rfl rfl rfl rfl rfl ?_
        refine ir_tgr (pc' := 91) rfl rfl rfl tf_14_2 tsk_14 hT_82 (fun b30 b30e b30k => ?_)
        refine ir_l (pc' := 93) rfl rfl rfl rfl rfl rfl ?_
        refine ir_l (pc' := 94) rfl rfl rfl rfl rfl rfl ?_
        refine ir_getI (pc' := 97) rfl rfl rfl (gG_at a2k) rfl (by decide) (by decide) w82_a2_0e (by omega) (by omega) ?_
        refine ir_add (pc' := 98) rfl rfl (by omega) (by omega) ?_
        refine ir_tla (pc' := 99) rfl rfl te_6 (by decide) b30k hT_82 (by omega) (by omega) (fun z31 z31e z31l z31h => ?_)
        clear z31e
        refine ir_l (pc' := 100) rfl rfl rfl rfl rfl rfl ?_
        refine ir_jzA (pc' := 101) rfl rfl rfl rfl (by omega) (fun z32 z32l z32h => ?_)
        refine ir_s2 (pc' := 103) rfl rfl rfl rfl rfl rfl ?_
        refine ir_l (pc' := 105) rfl rfl rfl rfl rfl rfl ?_
        refine ir_cSI (pc' := 108) rfl rfl rfl rfl rfl rfl (Nat.le_of_ble_eq_true rfl) (sf_absJ L ys d s_82 (z32) (by omega) (by omega)) (fun z33 s34 hr => ?_)
        obtain ⟨rfl, z33p0, z33p1, z33p2⟩ := hr
        refine ir_k (pc' := 111) (v := (1, 288230376151711744)) rfl rfl rfl (fun _ => rfl) ?_
        refine ir_l (pc' := 113) rfl rfl rfl rfl rfl rfl ?_
        refine ir_jzA (pc' := 114) rfl rfl rfl rfl (by omega) (fun z35 z35l z35h => ?_)
        refine ir_lcmp (pc' := 115) rfl rfl (by omega) (by omega) (by omega) (by omega) (fun z36 z36c => ?_)
        refine ir_z_le (pt := 120) (pc' := 118) rfl rfl rfl (fun c37 => ?_) (fun c37 => ?_)
        · refine ir_l (pc' := 121) rfl rfl rfl rfl rfl rfl ?_
          refine ir_getR (pc' := 124) rfl rfl rfl (gG_at tsk_14) rfl w82_247_7e ?_
          refine ir_tgr (pc' := 127) rfl rfl rfl tf_4_1 w82_247_7k hT_82 (fun b38 b38e b38k => ?_)
          refine ir_l (pc' := 129) rfl rfl rfl rfl rfl rfl ?_
          refine ir_l (pc' := 131) rfl rfl rfl rfl rfl rfl ?_
          refine ir_tls (pc' := 132) rfl rfl te_6 b38k hT_82 (by omega) (by omega) (by omega) (by omega) (fun s39 hT39 r39 o39 => ?_)
          have hF39 := fr_row hF_82 r39 o39
          have e40 : s39.1 247 7 = ((w82_247_7 : Nat) : Int) := by rw [r39]; exact w82_247_7e
          have e41 : s39.1 a1 0 = w82_a1_0 := by rw [r39]; exact w82_a1_0e
          have e42 : s39.1 a2 0 = w82_a2_0 := by rw [r39]; exact w82_a2_0e
          have e43 : s39.1 247 2 = ((b30 : Nat) : Int) := by rw [r39]; exact b30e
          have e44 : s39.1 w82_247_7 1 = ((b38 : Nat) : Int) := by rw [r39]; exact b38e
          refine ir_k (pc' := 133) (v := (0, 0)) rfl rfl rfl (fun _ => rfl) ?_
          refine ir_s (pc' := 135) rfl rfl rfl rfl rfl rfl ?_
          refine ir_w [(0, (2, ((247 : Nat) : Int))), (2, (2, ((a2 : Nat) : Int))), (3, (1, q82_l3)), (5, (1, q82_l5)), (7, (0, q82_l7)), (8, (1, z32)), (10, (0, 0))] ⟨rfl, rfl, rfl, rfl, rfl, rfl, rfl, trivial⟩ ?_
          exact J135 _ (z32) (by omega) (by omega) (0) (by omega) (by omega) (by omega) s39 hT39 hF39 b30 b30k e43 w82_247_7 w82_247_7k e40 (w82_a1_0) (by omega) (by omega) e41 (w82_a2_0) (by omega) (by omega) e42 (by omega) (Int.self_le_toNat _)
        · refine ir_k (pc' := 119) (v := (0, 0)) rfl rfl rfl (fun _ => rfl) ?_
          exact ir_zret rfl rfl (by omega) ⟨_, rfl, hT_82, hF_82, by omega, by omega⟩
  have J27 : ∀ n : Nat, ∀ (q27_l3 : Int) (q27_l3l : -9223372036854775808 ≤ q27_l3) (q27_l3h : q27_l3 ≤ 9223372036854775807) (q27_l3n : q27_l3 ≠ 0) (q27_l5 : Int) (q27_l5l : 1 ≤ q27_l5) (q27_l5h : q27_l5 ≤ 9223372036854775807) (q27_l7 : Int) (q27_l7l : 0 ≤ q27_l7) (q27_l7h : q27_l7 ≤ 9) (s_27 : im_S) (hT_27 : tI s_27) (hF_27 : fr [(4, 0)] s0 s_27) (w27_247_7 : Nat) (w27_247_7k : gK[w27_247_7]? = some 4) (w27_247_7e : s_27.1 247 7 = ((w27_247_7 : Nat) : Int)) (w27_a1_0 : Int) (w27_a1_0l : -1 ≤ w27_a1_0) (w27_a1_0h : w27_a1_0 ≤ 8) (w27_a1_0e : s_27.1 a1 0 = w27_a1_0) (w27_a2_0 : Int) (w27_a2_0l : 0 ≤ w27_a2_0) (w27_a2_0h : w27_a2_0 ≤ 8) (w27_a2_0e : s_27.1 a2 0 = w27_a2_0), (9 + 1 - q27_l7) ≤ (n : Int) → ir gG rm_P L ys (d + 1) rm_p_X2_divide (27, [(0, (2, ((247 : Nat) : Int))), (1, (2, ((a1 : Nat) : Int))), (2, (2, ((a2 : Nat) : Int))), (3, (1, q27_l3)), (5, (1, q27_l5)), (7, (0, q27_l7))], [], s_27) (fun r : im_Re => ∃ z, r.1 = some (0, z) ∧ (tI r.2 ∧ fr [(4, 0)] s0 r.2 ∧ 0 ≤ z ∧ z ≤ 1)) := by
    intro n
    induction n with
    | zero => intro q27_l3 q27_l3l q27_l3h q27_l3n q27_l5 q27_l5l q27_l5h q27_l7 q27_l7l q27_l7h s_27 hT_27 hF_27 w27_247_7 w27_247_7k w27_247_7e w27_a1_0 w27_a1_0l w27_a1_0h w27_a1_0e w27_a2_0 w27_a2_0l w27_a2_0h w27_a2_0e hr; exfalso; omega
    | succ n ih27 =>
      intro q27_l3 q27_l3l q27_l3h q27_l3n q27_l5 q27_l5l q27_l5h q27_l7 q27_l7l q27_l7h s_27 hT_27 hF_27 w27_247_7 w27_247_7k w27_247_7e w27_a1_0 w27_a1_0l w27_a1_0h w27_a1_0e w27_a2_0 w27_a2_0l w27_a2_0h w27_a2_0e hr
      refine ir_l (pc' := 29) rfl rfl rfl rfl rfl rfl ?_
      refine ir_k (pc' := 31) (v := (0, 8)) rfl rfl rfl (fun _ => rfl) ?_
      refine ir_c_gt (pt := 71) (pc' := 34) rfl rfl rfl (fun c45 => ?_) (fun c45 => ?_)
      · refine ir_l (pc' := 72) rfl rfl rfl rfl rfl rfl ?_
        refine ir_getI (pc' := 75) rfl rfl rfl (gG_at a1k) rfl (by decide) (by decide) w27_a1_0e (by omega) (by omega) ?_
        refine ir_l (pc' := 76) rfl rfl rfl rfl rfl rfl ?_
        refine ir_getI (pc' := 79) rfl rfl rfl (gG_at a2k) rfl (by decide) (by decide) w27_a2_0e (by omega) (by omega) ?_
        refine ir_sub (pc' := 80) rfl rfl (by omega) (by omega) ?_
        refine ir_s (pc' := 82) rfl rfl rfl rfl rfl rfl ?_
        refine ir_w [(0, (2, ((247 : Nat) : Int))), (2, (2, ((a2 : Nat) : Int))), (3, (1, q27_l3)), (5, (1, q27_l5)), (7, (0, (w27_a1_0 - w27_a2_0)))] ⟨rfl, rfl, rfl, rfl, rfl, trivial⟩ ?_
        exact J82 _ (q27_l3) (by omega) (by omega) (by omega) (q27_l5) (by omega) (by omega) ((w27_a1_0 - w27_a2_0)) (by omega) (by omega) s_27 hT_27 hF_27 w27_247_7 w27_247_7k w27_247_7e (w27_a1_0) (by omega) (by omega) w27_a1_0e (w27_a2_0) (by omega) (by omega) w27_a2_0e (by omega) (Int.self_le_toNat _)
      · refine ir_l (pc' := 35) rfl rfl rfl rfl rfl rfl ?_
        refine ir_tgr (pc' := 38) rfl rfl rfl tf_14_2 tsk_14 hT_27 (fun b46 b46e b46k => ?_)
        refine ir_l (pc' := 40) rfl rfl rfl rfl rfl rfl ?_
        refine ir_l (pc' := 41) rfl rfl rfl rfl rfl rfl ?_
        refine ir_tgr (pc' := 44) rfl rfl rfl tf_4_1 a1k hT_27 (fun b47 b47e b47k => ?_)
        refine ir_l (pc' := 46) rfl rfl rfl rfl rfl rfl ?_
        refine ir_tla (pc' := 47) rfl rfl te_6 (by decide) b47k hT_27 (by omega) (by omega) (fun z48 z48e z48l z48h => ?_)
        clear z48e
        refine ir_tls (pc' := 48) rfl rfl te_6 b46k hT_27 (by omega) (by omega) (by omega) (by omega) (fun s49 hT49 r49 o49 => ?_)
        have hF49 := fr_row hF_27 r49 o49
        have e50 : s49.1 247 7 = ((w27_247_7 : Nat) : Int) := by rw [r49]; exact w27_247_7e
        have e51 : s49.1 a1 0 = w27_a1_0 := by rw [r49]; exact w27_a1_0e
        have e52 : s49.1 a2 0 = w27_a2_0 := by rw [r49]; exact w27_a2_0e
        have e53 : s49.1 247 2 = ((b46 : Nat) : Int) := by rw [r49]; exact b46e
        have e54 : s49.1 a1 1 = ((b47 : Nat) : Int) := by rw [r49]; exact b47e
        refine ir_l (pc' := 50) rfl rfl rfl rfl rfl rfl ?_
        refine ir_l (pc' := 51) rfl rfl rfl rfl rfl rfl ?_
        refine ir_tgr (pc' := 54) rfl rfl rfl tf_4_1 a2k hT49 (fun b55 b55e b55k => ?_)
        refine ir_l (pc' := 56) rfl rfl rfl rfl rfl rfl ?_
        refine ir_tla (pc' := 57) rfl rfl te_6 (by decide) b55k hT49 (by omega) (by omega) (fun z56 z56e z56l z56h => ?_)
        clear z56e
        refine ir_cSI (pc' := 60) rfl rfl rfl rfl rfl rfl (Nat.le_of_ble_eq_true rfl) (sf_absJ L ys d s49 (z56) (by omega) (by omega)) (fun z57 s58 hr => ?_)
        obtain ⟨rfl, z57p0, z57p1, z57p2⟩ := hr
        refine ir_cSI (pc' := 63) rfl rfl rfl rfl rfl rfl (Nat.le_of_ble_eq_true rfl) (sf_maxJ L ys d s49 (q27_l5) (by omega) (by omega) (z57) (by omega) (by omega)) (fun z59 s60 hr => ?_)
        obtain ⟨rfl, z59p0, z59p1, z59p2⟩ := hr
        refine ir_s2 (pc' := 65) rfl rfl rfl rfl rfl rfl ?_
        refine ir_inc (pc' := 68) rfl rfl rfl rfl rfl (by omega) (by omega) ?_
        refine ir_goto (pc' := 27) rfl rfl ?_
        refine ir_w [(0, (2, ((247 : Nat) : Int))), (1, (2, ((a1 : Nat) : Int))), (2, (2, ((a2 : Nat) : Int))), (3, (1, q27_l3)), (5, (1, z59)), (7, (0, (q27_l7 + 1)))] ⟨rfl, rfl, rfl, rfl, rfl, rfl, trivial⟩ ?_
        exact ih27 (q27_l3) (by omega) (by omega) (by omega) (z59) (by omega) (by omega) ((q27_l7 + 1)) (by omega) (by omega) s49 hT49 hF49 w27_247_7 w27_247_7k e50 (w27_a1_0) (by omega) (by omega) e51 (w27_a2_0) (by omega) (by omega) e52 (by omega)
  obtain ⟨z61, z61e, z61l, z61h⟩ := tI_i tf_4_0 a1k hT0
  obtain ⟨z62, z62e, z62l, z62h⟩ := tI_i tf_4_0 a2k hT0
  refine ir_l (pc' := 1) rfl rfl rfl rfl rfl rfl ?_
  refine ir_tgr (pc' := 4) rfl rfl rfl tf_14_7 tsk_14 hT0 (fun b63 b63e b63k => ?_)
  refine ir_k (pc' := 5) (v := (1, 0)) rfl rfl rfl (fun _ => rfl) ?_
  refine ir_cVV (pc' := 8) rfl rfl rfl rfl rfl (Nat.le_of_ble_eq_true rfl) oo_X6_setConstant (gG_at b63k) (sf_setConstant6 L ys d s0 hT0 b63 b63k (0) (by omega) (by omega) ) (fun s65 hr => ?_)
  obtain ⟨hT65, hG65⟩ := hr
  have hF65 := fr_trans hF0 hG65 (by decide)
  have e66 : s65.1 247 7 = ((b63 : Nat) : Int) := (hG65.1 _ _ tsk_14 7 (by decide)).trans b63e
  obtain ⟨z67, z67e, z67l, z67h⟩ := tI_i tf_4_0 a1k hT65
  obtain ⟨z68, z68e, z68l, z68h⟩ := tI_i tf_4_0 a2k hT65
  refine ir_l (pc' := 9) rfl rfl rfl rfl rfl rfl ?_
  refine ir_cVI (pc' := 12) rfl rfl rfl rfl rfl (Nat.le_of_ble_eq_true rfl) oo_X6_lead (gG_at a2k) (sf_lead6 L ys d s65 hT65 a2 a2k ) (fun z69 s70 hr => ?_)
  obtain ⟨hT70, hG70, z69l, z69h, p70_0⟩ := hr
  have hF70 := fr_trans hF65 hG70 (by decide)
  have e71 : s70.1 247 7 = ((b63 : Nat) : Int) := (hG70.1 _ _ tsk_14 7 (by decide)).trans e66
  have e72 : s70.1 a1 0 = z67 := (hG70.1 _ _ a1k 0 (by decide)).trans z67e
  have e73 : s70.1 a2 0 = z68 := (hG70.1 _ _ a2k 0 (by decide)).trans z68e
  refine ir_s2 (pc' := 13) rfl rfl rfl rfl rfl rfl ?_
  refine ir_l (pc' := 14) rfl rfl rfl rfl rfl rfl ?_
  refine ir_k (pc' := 15) (v := (1, 0)) rfl rfl rfl (fun _ => rfl) ?_
  refine ir_lcmp (pc' := 16) rfl rfl (by omega) (by omega) (by omega) (by omega) (fun z74 z74c => ?_)
  refine ir_z_ne (pt := 21) (pc' := 19) rfl rfl rfl (fun c75 => ?_) (fun c75 => ?_)
  · refine ir_k (pc' := 22) (v := (1, 1)) rfl rfl rfl (fun _ => rfl) ?_
    refine ir_s2 (pc' := 24) rfl rfl rfl rfl rfl rfl ?_
    refine ir_k (pc' := 25) (v := (0, 0)) rfl rfl rfl (fun _ => rfl) ?_
    refine ir_s (pc' := 27) rfl rfl rfl rfl rfl rfl ?_
    refine ir_w [(0, (2, ((247 : Nat) : Int))), (1, (2, ((a1 : Nat) : Int))), (2, (2, ((a2 : Nat) : Int))), (3, (1, z69)), (5, (1, 1)), (7, (0, 0))] ⟨rfl, rfl, rfl, rfl, rfl, rfl, trivial⟩ ?_
    exact J27 _ (z69) (by omega) (by omega) (by omega) (1) (by omega) (by omega) (0) (by omega) (by omega) s70 hT70 hF70 b63 b63k e71 (z67) (by omega) (by omega) e72 (z68) (by omega) (by omega) e73 (Int.self_le_toNat _)
  · refine ir_k (pc' := 20) (v := (0, 0)) rfl rfl rfl (fun _ => rfl) ?_
    exact ir_zret rfl rfl (by omega) ⟨_, rfl, hT70, hF70, by omega, by omega⟩
theorem sf_find2 (L : Nat) (ys : Nat → Int32) (d : Nat) (s0 : im_S) (hT0 : tI s0) (a1 : Nat) (a1k : gK[a1]? = some 4) (a2 : Nat) (a2k : gK[a2]? = some 4) : icV gG rm_P L ys (d + 5) 126 [(2, ((247 : Nat) : Int)), (2, (a1 : Int)), (2, (a2 : Int))] s0 (fun s => tI s ∧ fr [(4, 0), (14, 3), (14, 4)] s0 s) := by
  refine ic_startM (M := rm_p_X2_find) om_X2_find (Nat.le_of_ble_eq_true rfl) ?_
  refine ir_w [(0, (2, ((247 : Nat) : Int))), (1, (2, ((a1 : Nat) : Int))), (2, (2, ((a2 : Nat) : Int)))] ⟨rfl, rfl, rfl, trivial⟩ ?_
  have hF0 := fr_refl [(4, 0), (14, 3), (14, 4)] s0
  have J30 : ∀ n : Nat, ∀ (q30_l3 : Int) (q30_l3l : -1 ≤ q30_l3) (q30_l3h : q30_l3 ≤ 8) (q30_l4 : Int) (q30_l4l : 0 ≤ q30_l4) (q30_l4h : q30_l4 ≤ 44) (s_30 : im_S) (hT_30 : tI s_30) (hF_30 : fr [(4, 0), (14, 3), (14, 4)] s0 s_30) (w30_247_6 : Nat) (w30_247_6k : gK[w30_247_6]? = some 4) (w30_247_6e : s_30.1 247 6 = ((w30_247_6 : Nat) : Int)), (44 + 1 - q30_l4) ≤ (n : Int) → ir gG rm_P L ys (d + 4) rm_p_X2_find (30, [(0, (2, ((247 : Nat) : Int))), (1, (2, ((a1 : Nat) : Int))), (2, (2, ((a2 : Nat) : Int))), (3, (0, q30_l3)), (4, (0, q30_l4))], [], s_30) (fun r : im_Re => r.1 = none ∧ (tI r.2 ∧ fr [(4, 0), (14, 3), (14, 4)] s0 r.2)) := by
    intro n
    induction n with
    | zero => intro q30_l3 q30_l3l q30_l3h q30_l4 q30_l4l q30_l4h s_30 hT_30 hF_30 w30_247_6 w30_247_6k w30_247_6e hr; exfalso; omega
    | succ n ih30 =>
      intro q30_l3 q30_l3l q30_l3h q30_l4 q30_l4l q30_l4h s_30 hT_30 hF_30 w30_247_6 w30_247_6k w30_247_6e hr
      have J140 : ∀ (q140_l5 : Int) (q140_l5l : 1 ≤ q140_l5) (q140_l5h : q140_l5 ≤ 8) (f140_4h : q30_l4 ≤ 43) (s_140 : im_S) (hT_140 : tI s_140) (hF_140 : fr [(4, 0), (14, 3), (14, 4)] s0 s_140) (w140_247_6 : Nat) (w140_247_6k : gK[w140_247_6]? = some 4) (w140_247_6e : s_140.1 247 6 = ((w140_247_6 : Nat) : Int)), ir gG rm_P L ys (d + 4) rm_p_X2_find (140, [(0, (2, ((247 : Nat) : Int))), (1, (2, ((a1 : Nat) : Int))), (2, (2, ((a2 : Nat) : Int))), (4, (0, q30_l4)), (5, (0, q140_l5))], [], s_140) (fun r : im_Re => r.1 = none ∧ (tI r.2 ∧ fr [(4, 0), (14, 3), (14, 4)] s0 r.2)) := by
        intro q140_l5 q140_l5l q140_l5h f140_4h s_140 hT_140 hF_140 w140_247_6 w140_247_6k w140_247_6e
        refine ir_l (pc' := 142) rfl rfl rfl rfl rfl rfl ?_
        refine ir_s (pc' := 143) rfl rfl rfl rfl rfl rfl ?_
        refine ir_l (pc' := 144) rfl rfl rfl rfl rfl rfl ?_
        refine ir_tgr (pc' := 147) rfl rfl rfl tf_14_3 tsk_14 hT_140 (fun b1 b1e b1k => ?_)
        refine ir_s (pc' := 149) rfl rfl rfl rfl rfl rfl ?_
        refine ir_l (pc' := 150) rfl rfl rfl rfl rfl rfl ?_
        refine ir_l (pc' := 151) rfl rfl rfl rfl rfl rfl ?_
        refine ir_tgr (pc' := 154) rfl rfl rfl tf_14_4 tsk_14 hT_140 (fun b2 b2e b2k => ?_)
        refine ir_tpr (pc' := 157) rfl rfl rfl tf_14_3 rfl tsk_14 hT_140 rfl b2k (fun s3 hT3 e3 g3 r3 => ?_)
        have hF3 := fr_put (k := 14) hF_140 (by decide) tsk_14 g3 r3
        have e4 : s3.1 247 6 = ((w140_247_6 : Nat) : Int) := (g3 247 6 (fun z => absurd z.2 (by decide))).trans w140_247_6e
        have e5 : s3.1 247 4 = ((b2 : Nat) : Int) := (g3 247 4 (fun z => absurd z.2 (by decide))).trans b2e
        refine ir_l (pc' := 158) rfl rfl rfl rfl rfl rfl ?_
        refine ir_l (pc' := 160) rfl rfl rfl rfl rfl rfl ?_
        refine ir_tpr (pc' := 163) rfl rfl rfl tf_14_4 rfl tsk_14 hT3 rfl b1k (fun s6 hT6 e6 g6 r6 => ?_)
        have hF6 := fr_put (k := 14) hF3 (by decide) tsk_14 g6 r6
        have e7 : s6.1 247 6 = ((w140_247_6 : Nat) : Int) := (g6 247 6 (fun z => absurd z.2 (by decide))).trans e4
        have e8 : s6.1 247 3 = ((b2 : Nat) : Int) := (g6 247 3 (fun z => absurd z.2 (by decide))).trans e3
        refine ir_inc (pc' := 166) rfl rfl rfl rfl rfl (by omega) (by omega) ?_
        refine ir_goto (pc' := 30) rfl rfl ?_
        refine ir_w [(0, (2, ((247 : Nat) : Int))), (1, (2, ((a1 : Nat) : Int))), (2, (2, ((a2 : Nat) : Int))), (3, (0, q140_l5)), (4, (0, (q30_l4 + 1)))] ⟨rfl, rfl, rfl, rfl, rfl, trivial⟩ ?_
        exact ih30 (q140_l5) (by omega) (by omega) ((q30_l4 + 1)) (by omega) (by omega) s6 hT6 hF6 w140_247_6 w140_247_6k e7 (by omega)
      refine ir_l (pc' := 32) rfl rfl rfl rfl rfl rfl ?_
      refine ir_k (pc' := 35) (v := (4, 6)) rfl rfl rfl (fun _ => rfl) ?_
      refine ir_x (pc' := 36) (st' := (0, 44) :: _) rfl rfl rfl (fun _ => rfl) ?_
      refine ir_c_ge (pt := 169) (pc' := 39) rfl rfl rfl (fun c9 => ?_) (fun c9 => ?_)
      · exact ir_vret rfl rfl ⟨rfl, hT_30, hF_30⟩
      · refine ir_l (pc' := 40) rfl rfl rfl rfl rfl rfl ?_
        refine ir_l (pc' := 41) rfl rfl rfl rfl rfl rfl ?_
        refine ir_l (pc' := 42) rfl rfl rfl rfl rfl rfl ?_
        refine ir_k (pc' := 45) (v := (4, 6)) rfl rfl rfl (fun _ => rfl) ?_
        refine ir_l (pc' := 47) rfl rfl rfl rfl rfl rfl ?_
        refine ir_prime (pc' := 48) rfl rfl (by omega) (by omega) (fun z10 z10l z10h => ?_)
        refine ir_i2l (pc' := 49) rfl rfl (by omega) (by omega) ?_
        refine ir_cVI (pc' := 52) rfl rfl rfl rfl rfl (Nat.le_of_ble_eq_true rfl) oo_X2_imageModulo (gG_at tsk_14) (sf_imageModulo2 L ys (d + 1) s_30 hT_30 a1 a1k a2 a2k (z10) (by omega) (by omega) ) (fun z11 s12 hr => ?_)
        obtain ⟨hT12, hG12, z11l, z11h⟩ := hr
        have hF12 := fr_trans hF_30 hG12 (by decide)
        have e13 : s12.1 247 6 = ((w30_247_6 : Nat) : Int) := (hG12.1 _ _ tsk_14 6 (by decide)).trans w30_247_6e
        refine ir_s (pc' := 54) rfl rfl rfl rfl rfl rfl ?_
        refine ir_l (pc' := 56) rfl rfl rfl rfl rfl rfl ?_
        refine ir_z_ne (pt := 60) (pc' := 59) rfl rfl rfl (fun c14 => ?_) (fun c14 => ?_)
        · refine ir_l (pc' := 62) rfl rfl rfl rfl rfl rfl ?_
          refine ir_z_le (pt := 140) (pc' := 65) rfl rfl rfl (fun c15 => ?_) (fun c15 => ?_)
          · refine ir_w [(0, (2, ((247 : Nat) : Int))), (1, (2, ((a1 : Nat) : Int))), (2, (2, ((a2 : Nat) : Int))), (4, (0, q30_l4)), (5, (0, z11))] ⟨rfl, rfl, rfl, rfl, rfl, trivial⟩ ?_
            exact J140 (z11) (by omega) (by omega) (by omega) s12 hT12 hF12 w30_247_6 w30_247_6k e13
          · refine ir_l (pc' := 67) rfl rfl rfl rfl rfl rfl ?_
            refine ir_l (pc' := 68) rfl rfl rfl rfl rfl rfl ?_
            refine ir_c_ne (pt := 140) (pc' := 71) rfl rfl rfl (fun c16 => ?_) (fun c16 => ?_)
            · refine ir_w [(0, (2, ((247 : Nat) : Int))), (1, (2, ((a1 : Nat) : Int))), (2, (2, ((a2 : Nat) : Int))), (4, (0, q30_l4)), (5, (0, z11))] ⟨rfl, rfl, rfl, rfl, rfl, trivial⟩ ?_
              exact J140 (z11) (by omega) (by omega) (by omega) s12 hT12 hF12 w30_247_6 w30_247_6k e13
            · refine ir_l (pc' := 72) rfl rfl rfl rfl rfl rfl ?_
              refine ir_l (pc' := 73) rfl rfl rfl rfl rfl rfl ?_
              refine ir_cVI (pc' := 76) rfl rfl rfl rfl rfl (Nat.le_of_ble_eq_true rfl) oo_X6_lead (gG_at a1k) (sf_lead6 L ys (d + 3) s12 hT12 a1 a1k ) (fun z17 s18 hr => ?_)
              obtain ⟨hT18, hG18, z17l, z17h, p18_0⟩ := hr
              have hF18 := fr_trans hF12 hG18 (by decide)
              have e19 : s18.1 247 6 = ((w30_247_6 : Nat) : Int) := (hG18.1 _ _ tsk_14 6 (by decide)).trans e13
              refine ir_l (pc' := 77) rfl rfl rfl rfl rfl rfl ?_
              refine ir_cVI (pc' := 80) rfl rfl rfl rfl rfl (Nat.le_of_ble_eq_true rfl) oo_X6_lead (gG_at a2k) (sf_lead6 L ys (d + 3) s18 hT18 a2 a2k ) (fun z20 s21 hr => ?_)
              obtain ⟨hT21, hG21, z20l, z20h, p21_0⟩ := hr
              have hF21 := fr_trans hF18 hG21 (by decide)
              have e22 : s21.1 247 6 = ((w30_247_6 : Nat) : Int) := (hG21.1 _ _ tsk_14 6 (by decide)).trans e19
              refine ir_cSI (pc' := 83) rfl rfl rfl rfl rfl rfl (Nat.le_of_ble_eq_true rfl) (sf_gcd6 L ys (d + 2) s21 hT21 (z17) (by omega) (by omega) (z20) (by omega) (by omega) ) (fun z23 s24 hr => ?_)
              obtain ⟨hT24, hG24, z23l, z23h⟩ := hr
              have hF24 := fr_trans hF21 hG24 (by decide)
              have e25 : s24.1 247 6 = ((w30_247_6 : Nat) : Int) := (hG24.1 _ _ tsk_14 6 (by decide)).trans e22
              refine ir_l (pc' := 85) rfl rfl rfl rfl rfl rfl ?_
              refine ir_k (pc' := 88) (v := (4, 6)) rfl rfl rfl (fun _ => rfl) ?_
              refine ir_l (pc' := 90) rfl rfl rfl rfl rfl rfl ?_
              refine ir_k (pc' := 91) (v := (0, 1)) rfl rfl rfl (fun _ => rfl) ?_
              refine ir_sub (pc' := 92) rfl rfl (by omega) (by omega) ?_
              refine ir_prime (pc' := 93) rfl rfl (by omega) (by omega) (fun z26 z26l z26h => ?_)
              refine ir_i2l (pc' := 94) rfl rfl (by omega) (by omega) ?_
              refine ir_k (pc' := 97) (v := (4, 6)) rfl rfl rfl (fun _ => rfl) ?_
              refine ir_l (pc' := 99) rfl rfl rfl rfl rfl rfl ?_
              refine ir_prime (pc' := 100) rfl rfl (by omega) (by omega) (fun z27 z27l z27h => ?_)
              refine ir_i2l (pc' := 101) rfl rfl (by omega) (by omega) ?_
              refine ir_cVV (pc' := 104) rfl rfl rfl rfl rfl (Nat.le_of_ble_eq_true rfl) oo_X2_rebuild (gG_at tsk_14) (sf_rebuild2 L ys d s24 hT24 (z23) (by omega) (by omega) (z11) (by omega) (by omega) (z26) (by omega) (by omega) (z27) (by omega) (by omega) ) (fun s29 hr => ?_)
              obtain ⟨hT29, hG29⟩ := hr
              have hF29 := fr_trans hF24 hG29 (by decide)
              have e30 : s29.1 247 6 = ((w30_247_6 : Nat) : Int) := (hG29.1 _ _ tsk_14 6 (by decide)).trans e25
              refine ir_l (pc' := 105) rfl rfl rfl rfl rfl rfl ?_
              refine ir_l (pc' := 106) rfl rfl rfl rfl rfl rfl ?_
              refine ir_l (pc' := 107) rfl rfl rfl rfl rfl rfl ?_
              refine ir_tgr (pc' := 110) rfl rfl rfl tf_14_5 tsk_14 hT29 (fun b31 b31e b31k => ?_)
              refine ir_cVI (pc' := 113) rfl rfl rfl rfl rfl (Nat.le_of_ble_eq_true rfl) oo_X2_divide (gG_at tsk_14) (sf_divide2 L ys (d + 2) s29 hT29 a1 a1k b31 b31k ) (fun z32 s33 hr => ?_)
              obtain ⟨hT33, hG33, z32l, z32h⟩ := hr
              have hF33 := fr_trans hF29 hG33 (by decide)
              have e34 : s33.1 247 6 = ((w30_247_6 : Nat) : Int) := (hG33.1 _ _ tsk_14 6 (by decide)).trans e30
              have e35 : s33.1 247 5 = ((b31 : Nat) : Int) := (hG33.1 _ _ tsk_14 5 (by decide)).trans b31e
              refine ir_z_eq (pt := 140) (pc' := 116) rfl rfl rfl (fun c36 => ?_) (fun c36 => ?_)
              · refine ir_w [(0, (2, ((247 : Nat) : Int))), (1, (2, ((a1 : Nat) : Int))), (2, (2, ((a2 : Nat) : Int))), (4, (0, q30_l4)), (5, (0, z11))] ⟨rfl, rfl, rfl, rfl, rfl, trivial⟩ ?_
                exact J140 (z11) (by omega) (by omega) (by omega) s33 hT33 hF33 w30_247_6 w30_247_6k e34
              · refine ir_l (pc' := 117) rfl rfl rfl rfl rfl rfl ?_
                refine ir_l (pc' := 118) rfl rfl rfl rfl rfl rfl ?_
                refine ir_l (pc' := 119) rfl rfl rfl rfl rfl rfl ?_
                refine ir_getR (pc' := 122) rfl rfl rfl (gG_at tsk_14) rfl e35 ?_
                refine ir_cVI (pc' := 125) rfl rfl rfl rfl rfl (Nat.le_of_ble_eq_true rfl) oo_X2_divide (gG_at tsk_14) (sf_divide2 L ys (d + 2) s33 hT33 a2 a2k b31 b31k ) (fun z37 s38 hr => ?_)
                obtain ⟨hT38, hG38, z37l, z37h⟩ := hr
                have hF38 := fr_trans hF33 hG38 (by decide)
                have e39 : s38.1 247 6 = ((w30_247_6 : Nat) : Int) := (hG38.1 _ _ tsk_14 6 (by decide)).trans e34
                have e40 : s38.1 247 5 = ((b31 : Nat) : Int) := (hG38.1 _ _ tsk_14 5 (by decide)).trans e35
                refine ir_z_eq (pt := 140) (pc' := 128) rfl rfl rfl (fun c41 => ?_) (fun c41 => ?_)
                · refine ir_w [(0, (2, ((247 : Nat) : Int))), (1, (2, ((a1 : Nat) : Int))), (2, (2, ((a2 : Nat) : Int))), (4, (0, q30_l4)), (5, (0, z11))] ⟨rfl, rfl, rfl, rfl, rfl, trivial⟩ ?_
                  exact J140 (z11) (by omega) (by omega) (by omega) s38 hT38 hF38 w30_247_6 w30_247_6k e39
                · refine ir_l (pc' := 129) rfl rfl rfl rfl rfl rfl ?_
                  refine ir_getR (pc' := 132) rfl rfl rfl (gG_at tsk_14) rfl e39 ?_
                  refine ir_l (pc' := 133) rfl rfl rfl rfl rfl rfl ?_
                  refine ir_getR (pc' := 136) rfl rfl rfl (gG_at tsk_14) rfl e40 ?_
                  refine ir_cVV (pc' := 139) rfl rfl rfl rfl rfl (Nat.le_of_ble_eq_true rfl) oo_X6_copy (gG_at w30_247_6k) (sf_copy6 L ys (d + 3) s38 hT38 w30_247_6 w30_247_6k b31 b31k ) (fun s43 hr => ?_)
                  obtain ⟨hT43, hG43⟩ := hr
                  have hF43 := fr_trans hF38 hG43 (by decide)
                  have e44 : s43.1 247 6 = ((w30_247_6 : Nat) : Int) := (hG43.1 _ _ tsk_14 6 (by decide)).trans e39
                  have e45 : s43.1 247 5 = ((b31 : Nat) : Int) := (hG43.1 _ _ tsk_14 5 (by decide)).trans e40
                  exact ir_vret rfl rfl ⟨rfl, hT43, hF43⟩
        · exact ir_vret rfl rfl ⟨rfl, hT12, hF12⟩
  have J24 : ∀ (s_24 : im_S) (hT_24 : tI s_24) (hF_24 : fr [(4, 0), (14, 3), (14, 4)] s0 s_24) (w24_247_6 : Nat) (w24_247_6k : gK[w24_247_6]? = some 4) (w24_247_6e : s_24.1 247 6 = ((w24_247_6 : Nat) : Int)) (w24_a1_0 : Int) (w24_a1_0l : -1 ≤ w24_a1_0) (w24_a1_0h : w24_a1_0 ≤ 8) (w24_a1_0e : s_24.1 a1 0 = w24_a1_0), ir gG rm_P L ys (d + 4) rm_p_X2_find (24, [], [], s_24) (fun r : im_Re => r.1 = none ∧ (tI r.2 ∧ fr [(4, 0), (14, 3), (14, 4)] s0 r.2)) := by
    intro s_24 hT_24 hF_24 w24_247_6 w24_247_6k w24_247_6e w24_a1_0 w24_a1_0l w24_a1_0h w24_a1_0e
    exact ir_vret rfl rfl ⟨rfl, hT_24, hF_24⟩
  refine ir_l (pc' := 1) rfl rfl rfl rfl rfl rfl ?_
  refine ir_tgr (pc' := 4) rfl rfl rfl tf_14_6 tsk_14 hT0 (fun b46 b46e b46k => ?_)
  refine ir_k (pc' := 5) (v := (1, 1)) rfl rfl rfl (fun _ => rfl) ?_
  refine ir_cVV (pc' := 8) rfl rfl rfl rfl rfl (Nat.le_of_ble_eq_true rfl) oo_X6_setConstant (gG_at b46k) (sf_setConstant6 L ys (d + 3) s0 hT0 b46 b46k (1) (by omega) (by omega) ) (fun s48 hr => ?_)
  obtain ⟨hT48, hG48⟩ := hr
  have hF48 := fr_trans hF0 hG48 (by decide)
  have e49 : s48.1 247 6 = ((b46 : Nat) : Int) := (hG48.1 _ _ tsk_14 6 (by decide)).trans b46e
  refine ir_l (pc' := 9) rfl rfl rfl rfl rfl rfl ?_
  refine ir_tgi (pc' := 12) rfl rfl rfl tf_4_0 a1k hT48 (fun z50 z50e z50l z50h => ?_)
  refine ir_k (pc' := 13) (v := (0, 1)) rfl rfl rfl (fun _ => rfl) ?_
  refine ir_c_lt (pt := 24) (pc' := 16) rfl rfl rfl (fun c51 => ?_) (fun c51 => ?_)
  · refine ir_w [] trivial ?_
    exact J24 s48 hT48 hF48 b46 b46k e49 (z50) (by omega) (by omega) z50e
  · refine ir_l (pc' := 17) rfl rfl rfl rfl rfl rfl ?_
    refine ir_tgi (pc' := 20) rfl rfl rfl tf_4_0 a2k hT48 (fun z52 z52e z52l z52h => ?_)
    refine ir_k (pc' := 21) (v := (0, 1)) rfl rfl rfl (fun _ => rfl) ?_
    refine ir_c_ge (pt := 25) (pc' := 24) rfl rfl rfl (fun c53 => ?_) (fun c53 => ?_)
    · refine ir_k (pc' := 26) (v := (0, (-1))) rfl rfl rfl (fun _ => rfl) ?_
      refine ir_s (pc' := 27) rfl rfl rfl rfl rfl rfl ?_
      refine ir_k (pc' := 28) (v := (0, 0)) rfl rfl rfl (fun _ => rfl) ?_
      refine ir_s (pc' := 30) rfl rfl rfl rfl rfl rfl ?_
      refine ir_w [(0, (2, ((247 : Nat) : Int))), (1, (2, ((a1 : Nat) : Int))), (2, (2, ((a2 : Nat) : Int))), (3, (0, (-1))), (4, (0, 0))] ⟨rfl, rfl, rfl, rfl, rfl, trivial⟩ ?_
      exact J30 _ ((-1)) (by omega) (by omega) (0) (by omega) (by omega) s48 hT48 hF48 b46 b46k e49 (Int.self_le_toNat _)
    · refine ir_w [] trivial ?_
      exact J24 s48 hT48 hF48 b46 b46k e49 (z50) (by omega) (by omega) z50e
theorem sf_splitOff0 (L : Nat) (ys : Nat → Int32) (d : Nat) (s0 : im_S) (hT0 : tI s0) (x1 : Int) (x1l : 0 ≤ x1) (x1h : x1 ≤ 79) (a2 : Nat) (a2k : gK[a2]? = some 4) : icI gG rm_P L ys 0 (d + 3) 6 [(2, ((84 : Nat) : Int)), (0, x1), (2, (a2 : Int))] s0 (fun z s => tI s ∧ fr [(4, 0), (11, 2)] s0 s ∧ 0 ≤ z ∧ z ≤ 79) := by
  refine ic_startM (M := rm_p_X0_splitOff) om_X0_splitOff (Nat.le_of_ble_eq_true rfl) ?_
  refine ir_w [(0, (2, ((84 : Nat) : Int))), (1, (0, x1)), (2, (2, ((a2 : Nat) : Int)))] ⟨rfl, rfl, rfl, trivial⟩ ?_
  have hF0 := fr_refl [(4, 0), (11, 2)] s0
  have J71 : ∀ n : Nat, ∀ (q71_l3 : Int) (q71_l3l : 0 ≤ q71_l3) (q71_l3h : q71_l3 ≤ 10) (s_71 : im_S) (hT_71 : tI s_71) (hF_71 : fr [(4, 0), (11, 2)] s0 s_71) (w71_247_7 : Nat) (w71_247_7k : gK[w71_247_7]? = some 4) (w71_247_7e : s_71.1 247 7 = ((w71_247_7 : Nat) : Int)) (w71_84_0e : s_71.1 84 0 = ((85 : Nat) : Int)) (w71_84_2 : Int) (w71_84_2l : 1 ≤ w71_84_2) (w71_84_2h : w71_84_2 ≤ 79) (w71_84_2e : s_71.1 84 2 = w71_84_2) (w71_84_3e : s_71.1 84 3 = ((247 : Nat) : Int)), (10 + 1 - q71_l3) ≤ (n : Int) → ir gG rm_P L ys (d + 2) rm_p_X0_splitOff (71, [(0, (2, ((84 : Nat) : Int))), (1, (0, x1)), (3, (0, q71_l3))], [], s_71) (fun r : im_Re => ∃ z, r.1 = some (0, z) ∧ (tI r.2 ∧ fr [(4, 0), (11, 2)] s0 r.2 ∧ 0 ≤ z ∧ z ≤ 79)) := by
    intro n
    induction n with
    | zero => intro q71_l3 q71_l3l q71_l3h s_71 hT_71 hF_71 w71_247_7 w71_247_7k w71_247_7e w71_84_0e w71_84_2 w71_84_2l w71_84_2h w71_84_2e w71_84_3e hr; exfalso; omega
    | succ n ih71 =>
      intro q71_l3 q71_l3l q71_l3h s_71 hT_71 hF_71 w71_247_7 w71_247_7k w71_247_7e w71_84_0e w71_84_2 w71_84_2l w71_84_2h w71_84_2e w71_84_3e hr
      refine ir_l (pc' := 72) rfl rfl rfl rfl rfl rfl ?_
      refine ir_k (pc' := 74) (v := (0, 10)) rfl rfl rfl (fun _ => rfl) ?_
      refine ir_c_ge (pt := 108) (pc' := 77) rfl rfl rfl (fun c1 => ?_) (fun c1 => ?_)
      · refine ir_l (pc' := 109) rfl rfl rfl rfl rfl rfl ?_
        refine ir_x (pc' := 110) rfl rfl rfl (fun _ => rfl) ?_
        refine ir_getI (pc' := 113) rfl rfl rfl (gG_at tsk_11) rfl (by decide) (by decide) w71_84_2e (by omega) (by omega) ?_
        refine ir_k (pc' := 114) (v := (0, 1)) rfl rfl rfl (fun _ => rfl) ?_
        refine ir_add (pc' := 115) rfl rfl (by omega) (by omega) ?_
        refine ir_tpi (pc' := 118) rfl rfl rfl tf_11_2 rfl tsk_11 hT_71 rfl (by omega) (by omega) (fun s2 hT2 e2 g2 r2 => ?_)
        have hF2 := fr_put (k := 11) hF_71 (by decide) tsk_11 g2 r2
        have e3 : s2.1 84 3 = ((247 : Nat) : Int) := (g2 84 3 (fun z => absurd z.2 (by decide))).trans w71_84_3e
        have e4 : s2.1 84 0 = ((85 : Nat) : Int) := (g2 84 0 (fun z => absurd z.2 (by decide))).trans w71_84_0e
        have e5 : s2.1 247 7 = ((w71_247_7 : Nat) : Int) := (g2 247 7 (fun z => absurd z.2 (by decide))).trans w71_247_7e
        refine ir_l (pc' := 119) rfl rfl rfl rfl rfl rfl ?_
        refine ir_getI (pc' := 122) rfl rfl rfl (gG_at tsk_11) rfl (by decide) (by decide) e2 (by omega) (by omega) ?_
        refine ir_k (pc' := 123) (v := (0, 1)) rfl rfl rfl (fun _ => rfl) ?_
        refine ir_sub (pc' := 124) rfl rfl (by omega) (by omega) ?_
        exact ir_iret rfl rfl ⟨_, rfl, hT2, hF2, by omega, by omega⟩
      · refine ir_l (pc' := 78) rfl rfl rfl rfl rfl rfl ?_
        refine ir_tgr (pc' := 81) rfl rfl rfl tf_11_1 tsk_11 hT_71 (fun b6 b6e b6k => ?_)
        obtain rfl := tsg_13 b6k
        refine ir_l (pc' := 82) rfl rfl rfl rfl rfl rfl ?_
        refine ir_getI (pc' := 85) rfl rfl rfl (gG_at tsk_11) rfl (by decide) (by decide) w71_84_2e (by omega) (by omega) ?_
        refine ir_k (pc' := 87) (v := (0, 10)) rfl rfl rfl (fun _ => rfl) ?_
        refine ir_mul (pc' := 88) rfl rfl (by omega) (by omega) ?_
        refine ir_l (pc' := 89) rfl rfl rfl rfl rfl rfl ?_
        refine ir_add (pc' := 90) rfl rfl (by omega) (by omega) ?_
        refine ir_l (pc' := 91) rfl rfl rfl rfl rfl rfl ?_
        refine ir_getR (pc' := 94) rfl rfl rfl (gG_at tsk_11) rfl b6e ?_
        refine ir_l (pc' := 95) rfl rfl rfl rfl rfl rfl ?_
        refine ir_k (pc' := 97) (v := (0, 10)) rfl rfl rfl (fun _ => rfl) ?_
        refine ir_mul (pc' := 98) rfl rfl (by omega) (by omega) ?_
        refine ir_l (pc' := 99) rfl rfl rfl rfl rfl rfl ?_
        refine ir_add (pc' := 100) rfl rfl (by omega) (by omega) ?_
        refine ir_tia (pc' := 101) rfl rfl te_13 (by decide) tsk_13 hT_71 (by omega) (by omega) (fun z7 z7e z7l z7h => ?_)
        clear z7e
        refine ir_tis (pc' := 102) rfl rfl rfl rfl te_13 tsk_13 hT_71 (by omega) (by omega) (rfl) (by omega) (by omega) (fun s8 hT8 r8 o8 => ?_)
        have hF8 := fr_row hF_71 r8 o8
        have e9 : s8.1 84 2 = w71_84_2 := by rw [r8]; exact w71_84_2e
        have e10 : s8.1 84 3 = ((247 : Nat) : Int) := by rw [r8]; exact w71_84_3e
        have e11 : s8.1 84 0 = ((85 : Nat) : Int) := by rw [r8]; exact w71_84_0e
        have e12 : s8.1 247 7 = ((w71_247_7 : Nat) : Int) := by rw [r8]; exact w71_247_7e
        have e13 : s8.1 84 1 = ((246 : Nat) : Int) := by rw [r8]; exact b6e
        refine ir_inc (pc' := 105) rfl rfl rfl rfl rfl (by omega) (by omega) ?_
        refine ir_goto (pc' := 71) rfl rfl ?_
        refine ir_w [(0, (2, ((84 : Nat) : Int))), (1, (0, x1)), (3, (0, (q71_l3 + 1)))] ⟨rfl, rfl, rfl, trivial⟩ ?_
        exact ih71 ((q71_l3 + 1)) (by omega) (by omega) s8 hT8 hF8 w71_247_7 w71_247_7k e12 e11 (w71_84_2) (by omega) (by omega) e9 e10 (by omega)
  have J38 : ∀ (s_38 : im_S) (hT_38 : tI s_38) (hF_38 : fr [(4, 0), (11, 2)] s0 s_38) (w38_84_2 : Int) (w38_84_2l : 0 ≤ w38_84_2) (w38_84_2h : w38_84_2 ≤ 80) (w38_84_2e : s_38.1 84 2 = w38_84_2), ir gG rm_P L ys (d + 2) rm_p_X0_splitOff (38, [(1, (0, x1))], [], s_38) (fun r : im_Re => ∃ z, r.1 = some (0, z) ∧ (tI r.2 ∧ fr [(4, 0), (11, 2)] s0 r.2 ∧ 0 ≤ z ∧ z ≤ 79)) := by
    intro s_38 hT_38 hF_38 w38_84_2 w38_84_2l w38_84_2h w38_84_2e
    refine ir_l (pc' := 39) rfl rfl rfl rfl rfl rfl ?_
    exact ir_iret rfl rfl ⟨_, rfl, hT_38, hF_38, by omega, by omega⟩
  refine ir_l (pc' := 1) rfl rfl rfl rfl rfl rfl ?_
  refine ir_z_lt (pt := 38) (pc' := 4) rfl rfl rfl (fun c14 => ?_) (fun c14 => ?_)
  · exfalso; omega
  · refine ir_l (pc' := 5) rfl rfl rfl rfl rfl rfl ?_
    refine ir_l (pc' := 6) rfl rfl rfl rfl rfl rfl ?_
    refine ir_tgi (pc' := 9) rfl rfl rfl tf_11_2 tsk_11 hT0 (fun z15 z15e z15l z15h => ?_)
    refine ir_c_ge (pt := 38) (pc' := 12) rfl rfl rfl (fun c16 => ?_) (fun c16 => ?_)
    · refine ir_w [(1, (0, x1))] ⟨rfl, trivial⟩ ?_
      exact J38 s0 hT0 hF0 (z15) (by omega) (by omega) z15e
    · refine ir_l (pc' := 13) rfl rfl rfl rfl rfl rfl ?_
      refine ir_getI (pc' := 16) rfl rfl rfl (gG_at tsk_11) rfl (by decide) (by decide) z15e (by omega) (by omega) ?_
      refine ir_k (pc' := 18) (v := (0, 80)) rfl rfl rfl (fun _ => rfl) ?_
      refine ir_c_ge (pt := 38) (pc' := 21) rfl rfl rfl (fun c17 => ?_) (fun c17 => ?_)
      · refine ir_w [(1, (0, x1))] ⟨rfl, trivial⟩ ?_
        exact J38 s0 hT0 hF0 (z15) (by omega) (by omega) z15e
      · refine ir_l (pc' := 22) rfl rfl rfl rfl rfl rfl ?_
        refine ir_tgr (pc' := 25) rfl rfl rfl tf_11_3 tsk_11 hT0 (fun b18 b18e b18k => ?_)
        obtain rfl := tsg_14 b18k
        refine ir_l (pc' := 26) rfl rfl rfl rfl rfl rfl ?_
        refine ir_tgr (pc' := 29) rfl rfl rfl tf_11_0 tsk_11 hT0 (fun b19 b19e b19k => ?_)
        obtain rfl := tsg_12 b19k
        refine ir_l (pc' := 30) rfl rfl rfl rfl rfl rfl ?_
        refine ir_taa (pc' := 31) (k2 := 4) rfl rfl te_12 (by decide) tsk_12 hT0 (by omega) (by omega) (fun b20 b20k => ?_)
        refine ir_l (pc' := 32) rfl rfl rfl rfl rfl rfl ?_
        refine ir_cVI (pc' := 35) rfl rfl rfl rfl rfl (Nat.le_of_ble_eq_true rfl) oo_X2_divide (gG_at tsk_14) (sf_divide2 L ys d s0 hT0 b20 b20k a2 a2k ) (fun z21 s22 hr => ?_)
        obtain ⟨hT22, hG22, z21l, z21h⟩ := hr
        have hF22 := fr_trans hF0 hG22 (by decide)
        have e23 : s22.1 84 2 = z15 := (hG22.1 _ _ tsk_11 2 (by decide)).trans z15e
        have e24 : s22.1 84 3 = ((247 : Nat) : Int) := (hG22.1 _ _ tsk_11 3 (by decide)).trans b18e
        have e25 : s22.1 84 0 = ((85 : Nat) : Int) := (hG22.1 _ _ tsk_11 0 (by decide)).trans b19e
        refine ir_z_ne (pt := 40) (pc' := 38) rfl rfl rfl (fun c26 => ?_) (fun c26 => ?_)
        · refine ir_l (pc' := 41) rfl rfl rfl rfl rfl rfl ?_
          refine ir_getR (pc' := 44) rfl rfl rfl (gG_at tsk_11) rfl e25 ?_
          refine ir_l (pc' := 45) rfl rfl rfl rfl rfl rfl ?_
          refine ir_taa (pc' := 46) (k2 := 4) rfl rfl te_12 (by decide) tsk_12 hT22 (by omega) (by omega) (fun b27 b27k => ?_)
          refine ir_l (pc' := 47) rfl rfl rfl rfl rfl rfl ?_
          refine ir_getR (pc' := 50) rfl rfl rfl (gG_at tsk_11) rfl e24 ?_
          refine ir_tgr (pc' := 53) rfl rfl rfl tf_14_7 tsk_14 hT22 (fun b28 b28e b28k => ?_)
          refine ir_cVV (pc' := 56) rfl rfl rfl rfl rfl (Nat.le_of_ble_eq_true rfl) oo_X6_copy (gG_at b27k) (sf_copy6 L ys (d + 1) s22 hT22 b27 b27k b28 b28k ) (fun s30 hr => ?_)
          obtain ⟨hT30, hG30⟩ := hr
          have hF30 := fr_trans hF22 hG30 (by decide)
          have e31 : s30.1 84 2 = z15 := (hG30.1 _ _ tsk_11 2 (by decide)).trans e23
          have e32 : s30.1 84 3 = ((247 : Nat) : Int) := (hG30.1 _ _ tsk_11 3 (by decide)).trans e24
          have e33 : s30.1 84 0 = ((85 : Nat) : Int) := (hG30.1 _ _ tsk_11 0 (by decide)).trans e25
          have e34 : s30.1 247 7 = ((b28 : Nat) : Int) := (hG30.1 _ _ tsk_14 7 (by decide)).trans b28e
          refine ir_l (pc' := 57) rfl rfl rfl rfl rfl rfl ?_
          refine ir_getR (pc' := 60) rfl rfl rfl (gG_at tsk_11) rfl e33 ?_
          refine ir_l (pc' := 61) rfl rfl rfl rfl rfl rfl ?_
          refine ir_getI (pc' := 64) rfl rfl rfl (gG_at tsk_11) rfl (by decide) (by decide) e31 (by omega) (by omega) ?_
          refine ir_taa (pc' := 65) (k2 := 4) rfl rfl te_12 (by decide) tsk_12 hT30 (by omega) (by omega) (fun b35 b35k => ?_)
          refine ir_l (pc' := 66) rfl rfl rfl rfl rfl rfl ?_
          refine ir_cVV (pc' := 69) rfl rfl rfl rfl rfl (Nat.le_of_ble_eq_true rfl) oo_X6_copy (gG_at b35k) (sf_copy6 L ys (d + 1) s30 hT30 b35 b35k a2 a2k ) (fun s37 hr => ?_)
          obtain ⟨hT37, hG37⟩ := hr
          have hF37 := fr_trans hF30 hG37 (by decide)
          have e38 : s37.1 84 2 = z15 := (hG37.1 _ _ tsk_11 2 (by decide)).trans e31
          have e39 : s37.1 84 3 = ((247 : Nat) : Int) := (hG37.1 _ _ tsk_11 3 (by decide)).trans e32
          have e40 : s37.1 84 0 = ((85 : Nat) : Int) := (hG37.1 _ _ tsk_11 0 (by decide)).trans e33
          have e41 : s37.1 247 7 = ((b28 : Nat) : Int) := (hG37.1 _ _ tsk_14 7 (by decide)).trans e34
          refine ir_k (pc' := 70) (v := (0, 0)) rfl rfl rfl (fun _ => rfl) ?_
          refine ir_s (pc' := 71) rfl rfl rfl rfl rfl rfl ?_
          refine ir_w [(0, (2, ((84 : Nat) : Int))), (1, (0, x1)), (3, (0, 0))] ⟨rfl, rfl, rfl, trivial⟩ ?_
          exact J71 _ (0) (by omega) (by omega) s37 hT37 hF37 b28 b28k e41 e40 (z15) (by omega) (by omega) e38 e39 (Int.self_le_toNat _)
        · refine ir_w [(1, (0, x1))] ⟨rfl, trivial⟩ ?_
          exact J38 s22 hT22 hF22 (z15) (by omega) (by omega) e23
