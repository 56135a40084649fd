/-! WALKS OF THE CLASS'S METHODS, by program -/
theorem sf_copy6 (L : Nat) (ys : Nat → Int32) (d : Nat) (s0 : im_S) (hT0 : tI s0) (a0 : Nat) (a0k : gK[a0]? = some 4) (a1 : Nat) (a1k : gK[a1]? = some 4) : icV gG rm_P L ys (d + 1) 170 [(2, (a0 : Int)), (2, (a1 : Int))] s0 (fun s => tI s ∧ fr [(4, 0)] s0 s) := by
  refine ic_startM (M := rm_p_X6_copy) om_X6_copy (Nat.le_of_ble_eq_true rfl) ?_
  refine ir_w [(0, (2, ((a0 : Nat) : Int))), (1, (2, ((a1 : Nat) : Int)))] ⟨rfl, rfl, trivial⟩ ?_
  have hF0 := fr_refl [(4, 0)] s0
  have J2 : ∀ n : Nat, ∀ (q2_l2 : Int) (q2_l2l : 0 ≤ q2_l2) (q2_l2h : q2_l2 ≤ 9) (s_2 : im_S) (hT_2 : tI s_2) (hF_2 : fr [(4, 0)] s0 s_2), (9 + 1 - q2_l2) ≤ (n : Int) → ir gG rm_P L ys d rm_p_X6_copy (2, [(0, (2, ((a0 : Nat) : Int))), (1, (2, ((a1 : Nat) : Int))), (2, (0, q2_l2))], [], s_2) (fun r : im_Re => r.1 = none ∧ (tI r.2 ∧ fr [(4, 0)] s0 r.2)) := by
    intro n
    induction n with
    | zero => intro q2_l2 q2_l2l q2_l2h s_2 hT_2 hF_2 hr; exfalso; omega
    | succ n ih2 =>
      intro q2_l2 q2_l2l q2_l2h s_2 hT_2 hF_2 hr
      refine ir_l (pc' := 3) rfl rfl rfl rfl rfl rfl ?_
      refine ir_k (pc' := 5) (v := (0, 8)) rfl rfl rfl (fun _ => rfl) ?_
      refine ir_c_gt (pt := 26) (pc' := 8) rfl rfl rfl (fun c1 => ?_) (fun c1 => ?_)
      · refine ir_l (pc' := 27) rfl rfl rfl rfl rfl rfl ?_
        refine ir_l (pc' := 28) rfl rfl rfl rfl rfl rfl ?_
        refine ir_tgi (pc' := 31) rfl rfl rfl tf_4_0 a1k hT_2 (fun z2 z2e z2l z2h => ?_)
        refine ir_tpi (pc' := 34) rfl rfl rfl tf_4_0 rfl a0k hT_2 rfl (by omega) (by omega) (fun s3 hT3 e3 g3 r3 => ?_)
        have hF3 := fr_put (k := 4) hF_2 (by decide) a0k g3 r3
        exact ir_vret rfl rfl ⟨rfl, hT3, hF3⟩
      · refine ir_l (pc' := 9) rfl rfl rfl rfl rfl rfl ?_
        refine ir_tgr (pc' := 12) rfl rfl rfl tf_4_1 a0k hT_2 (fun b4 b4e b4k => ?_)
        refine ir_l (pc' := 13) rfl rfl rfl rfl rfl rfl ?_
        refine ir_l (pc' := 14) rfl rfl rfl rfl rfl rfl ?_
        refine ir_tgr (pc' := 17) rfl rfl rfl tf_4_1 a1k hT_2 (fun b5 b5e b5k => ?_)
        refine ir_l (pc' := 18) rfl rfl rfl rfl rfl rfl ?_
        refine ir_tla (pc' := 19) rfl rfl te_6 (by decide) b5k hT_2 (by omega) (by omega) (fun z6 z6e z6l z6h => ?_)
        clear z6e
        refine ir_tls (pc' := 20) rfl rfl te_6 b4k hT_2 (by omega) (by omega) (by omega) (by omega) (fun s7 hT7 r7 o7 => ?_)
        have hF7 := fr_row hF_2 r7 o7
        have e8 : s7.1 a0 1 = ((b4 : Nat) : Int) := by rw [r7]; exact b4e
        have e9 : s7.1 a1 1 = ((b5 : Nat) : Int) := by rw [r7]; exact b5e
        refine ir_inc (pc' := 23) rfl rfl rfl rfl rfl (by omega) (by omega) ?_
        refine ir_goto (pc' := 2) rfl rfl ?_
        refine ir_w [(0, (2, ((a0 : Nat) : Int))), (1, (2, ((a1 : Nat) : Int))), (2, (0, (q2_l2 + 1)))] ⟨rfl, rfl, rfl, trivial⟩ ?_
        exact ih2 ((q2_l2 + 1)) (by omega) (by omega) s7 hT7 hF7 (by omega)
  refine ir_k (pc' := 1) (v := (0, 0)) rfl rfl rfl (fun _ => rfl) ?_
  refine ir_s (pc' := 2) rfl rfl rfl rfl rfl rfl ?_
  refine ir_w [(0, (2, ((a0 : Nat) : Int))), (1, (2, ((a1 : Nat) : Int))), (2, (0, 0))] ⟨rfl, rfl, rfl, trivial⟩ ?_
  exact J2 _ (0) (by omega) (by omega) s0 hT0 hF0 (Int.self_le_toNat _)
theorem sf_gcd6 (L : Nat) (ys : Nat → Int32) (d : Nat) (s0 : im_S) (hT0 : tI s0) (x0 : Int) (x0l : -9223372036854775808 ≤ x0) (x0h : x0 ≤ 9223372036854775807) (x1 : Int) (x1l : -9223372036854775808 ≤ x1) (x1h : x1 ≤ 9223372036854775807) : icI gG rm_P L ys 1 (d + 2) 171 [(1, x0), (1, x1)] s0 (fun z s => tI s ∧ fr [] s0 s ∧ -9223372036854775808 ≤ z ∧ z ≤ 9223372036854775807) := by
  refine ic_startM (M := rm_p_X6_gcd) om_X6_gcd (Nat.le_of_ble_eq_true rfl) ?_
  refine ir_w [(0, (1, x0)), (2, (1, x1))] ⟨rfl, rfl, trivial⟩ ?_
  have hF0 := fr_refl [] s0
  have J51 : ∀ (q51_l4 : Int) (q51_l4l : -9223372036854775808 ≤ q51_l4) (q51_l4h : q51_l4 ≤ 9223372036854775807) (s_51 : im_S) (hT_51 : tI s_51) (hF_51 : fr [] s0 s_51), ir gG rm_P L ys (d + 1) rm_p_X6_gcd (51, [(4, (1, q51_l4))], [], s_51) (fun r : im_Re => ∃ z, r.1 = some (1, z) ∧ (tI r.2 ∧ fr [] s0 r.2 ∧ -9223372036854775808 ≤ z ∧ z ≤ 9223372036854775807)) := by
    intro q51_l4 q51_l4l q51_l4h s_51 hT_51 hF_51
    refine ir_l (pc' := 53) rfl rfl rfl rfl rfl rfl ?_
    exact ir_lret rfl rfl ⟨_, rfl, hT_51, hF_51, by omega, by omega⟩
  have J15 : ∀ n : Nat, ∀ (q15_l4 : Int) (q15_l4l : -9223372036854775808 ≤ q15_l4) (q15_l4h : q15_l4 ≤ 9223372036854775807) (q15_l6 : Int) (q15_l6l : -9223372036854775808 ≤ q15_l6) (q15_l6h : q15_l6 ≤ 9223372036854775807) (q15_l8 : Int) (q15_l8l : 0 ≤ q15_l8) (q15_l8h : q15_l8 ≤ 200) (s_15 : im_S) (hT_15 : tI s_15) (hF_15 : fr [] s0 s_15), (200 + 1 - q15_l8) ≤ (n : Int) → ir gG rm_P L ys (d + 1) rm_p_X6_gcd (15, [(4, (1, q15_l4)), (6, (1, q15_l6)), (8, (0, q15_l8))], [], s_15) (fun r : im_Re => ∃ z, r.1 = some (1, z) ∧ (tI r.2 ∧ fr [] s0 r.2 ∧ -9223372036854775808 ≤ z ∧ z ≤ 9223372036854775807)) := by
    intro n
    induction n with
    | zero => intro q15_l4 q15_l4l q15_l4h q15_l6 q15_l6l q15_l6h q15_l8 q15_l8l q15_l8h s_15 hT_15 hF_15 hr; exfalso; omega
    | succ n ih15 =>
      intro q15_l4 q15_l4l q15_l4h q15_l6 q15_l6l q15_l6h q15_l8 q15_l8l q15_l8h s_15 hT_15 hF_15 hr
      refine ir_l (pc' := 17) rfl rfl rfl rfl rfl rfl ?_
      refine ir_k (pc' := 20) (v := (0, 200)) rfl rfl rfl (fun _ => rfl) ?_
      refine ir_c_ge (pt := 51) (pc' := 23) rfl rfl rfl (fun c1 => ?_) (fun c1 => ?_)
      · refine ir_w [(4, (1, q15_l4))] ⟨rfl, trivial⟩ ?_
        exact J51 (q15_l4) (by omega) (by omega) s_15 hT_15 hF_15
      · refine ir_l (pc' := 25) rfl rfl rfl rfl rfl rfl ?_
        refine ir_k (pc' := 26) (v := (1, 0)) rfl rfl rfl (fun _ => rfl) ?_
        refine ir_lcmp (pc' := 27) rfl rfl (by omega) (by omega) (by omega) (by omega) (fun z2 z2c => ?_)
        refine ir_z_eq (pt := 51) (pc' := 30) rfl rfl rfl (fun c3 => ?_) (fun c3 => ?_)
        · refine ir_w [(4, (1, q15_l4))] ⟨rfl, trivial⟩ ?_
          exact J51 (q15_l4) (by omega) (by omega) s_15 hT_15 hF_15
        · refine ir_l (pc' := 32) rfl rfl rfl rfl rfl rfl ?_
          refine ir_l (pc' := 34) rfl rfl rfl rfl rfl rfl ?_
          refine ir_jzA (pc' := 35) rfl rfl rfl rfl (by omega) (fun z4 z4l z4h => ?_)
          refine ir_s2 (pc' := 37) rfl rfl rfl rfl rfl rfl ?_
          refine ir_l (pc' := 39) rfl rfl rfl rfl rfl rfl ?_
          refine ir_s2 (pc' := 41) rfl rfl rfl rfl rfl rfl ?_
          refine ir_l (pc' := 43) rfl rfl rfl rfl rfl rfl ?_
          refine ir_s2 (pc' := 45) rfl rfl rfl rfl rfl rfl ?_
          refine ir_inc (pc' := 48) rfl rfl rfl rfl rfl (by omega) (by omega) ?_
          refine ir_goto (pc' := 15) rfl rfl ?_
          refine ir_w [(4, (1, q15_l6)), (6, (1, z4)), (8, (0, (q15_l8 + 1)))] ⟨rfl, rfl, rfl, trivial⟩ ?_
          exact ih15 (q15_l6) (by omega) (by omega) (z4) (by omega) (by omega) ((q15_l8 + 1)) (by omega) (by omega) s_15 hT_15 hF_15 (by omega)
  refine ir_l (pc' := 1) rfl rfl rfl rfl rfl rfl ?_
  refine ir_cSI (pc' := 4) rfl rfl rfl rfl rfl rfl (Nat.le_of_ble_eq_true rfl) (sf_absJ L ys d s0 (x0) (by omega) (by omega)) (fun z5 s6 hr => ?_)
  obtain ⟨rfl, z5p0, z5p1, z5p2⟩ := hr
  refine ir_s2 (pc' := 6) rfl rfl rfl rfl rfl rfl ?_
  refine ir_l (pc' := 7) rfl rfl rfl rfl rfl rfl ?_
  refine ir_cSI (pc' := 10) rfl rfl rfl rfl rfl rfl (Nat.le_of_ble_eq_true rfl) (sf_absJ L ys d s0 (x1) (by omega) (by omega)) (fun z7 s8 hr => ?_)
  obtain ⟨rfl, z7p0, z7p1, z7p2⟩ := hr
  refine ir_s2 (pc' := 12) rfl rfl rfl rfl rfl rfl ?_
  refine ir_k (pc' := 13) (v := (0, 0)) rfl rfl rfl (fun _ => rfl) ?_
  refine ir_s (pc' := 15) rfl rfl rfl rfl rfl rfl ?_
  refine ir_w [(4, (1, z5)), (6, (1, z7)), (8, (0, 0))] ⟨rfl, rfl, rfl, trivial⟩ ?_
  exact J15 _ (z5) (by omega) (by omega) (z7) (by omega) (by omega) (0) (by omega) (by omega) s0 hT0 hF0 (Int.self_le_toNat _)
theorem sf_lead6 (L : Nat) (ys : Nat → Int32) (d : Nat) (s0 : im_S) (hT0 : tI s0) (a0 : Nat) (a0k : gK[a0]? = some 4) : icI gG rm_P L ys 1 (d + 1) 173 [(2, (a0 : Int))] s0 (fun z s => tI s ∧ fr [] s0 s ∧ -9223372036854775808 ≤ z ∧ z ≤ 9223372036854775807 ∧ (z = 0 ∨ 0 ≤ s.1 a0 0)) := by
  refine ic_startM (M := rm_p_X6_lead) om_X6_lead (Nat.le_of_ble_eq_true rfl) ?_
  refine ir_w [(0, (2, ((a0 : Nat) : Int)))] ⟨rfl, trivial⟩ ?_
  have hF0 := fr_refl [] s0
  have J20 : ∀ (q20_s0 : Int) (q20_s0l : -9223372036854775808 ≤ q20_s0) (q20_s0h : q20_s0 ≤ 9223372036854775807) (s_20 : im_S) (hT_20 : tI s_20) (hF_20 : fr [] s0 s_20) (w20_a0_0 : Int) (w20_a0_0l : -1 ≤ w20_a0_0) (w20_a0_0h : w20_a0_0 ≤ 8) (w20_a0_0e : s_20.1 a0 0 = w20_a0_0) (i20_0 : (q20_s0 = 0 ∨ 0 ≤ w20_a0_0)), ir gG rm_P L ys d rm_p_X6_lead (20, [], [(1, q20_s0)], s_20) (fun r : im_Re => ∃ z, r.1 = some (1, z) ∧ (tI r.2 ∧ fr [] s0 r.2 ∧ -9223372036854775808 ≤ z ∧ z ≤ 9223372036854775807 ∧ (z = 0 ∨ 0 ≤ r.2.1 a0 0))) := by
    intro q20_s0 q20_s0l q20_s0h s_20 hT_20 hF_20 w20_a0_0 w20_a0_0l w20_a0_0h w20_a0_0e i20_0
    exact ir_lret rfl rfl ⟨_, rfl, hT_20, hF_20, by omega, by omega, (by first | omega | (dsimp only; omega))⟩
  refine ir_l (pc' := 1) rfl rfl rfl rfl rfl rfl ?_
  refine ir_tgi (pc' := 4) rfl rfl rfl tf_4_0 a0k hT0 (fun z1 z1e z1l z1h => ?_)
  refine ir_z_ge (pt := 11) (pc' := 7) rfl rfl rfl (fun c2 => ?_) (fun c2 => ?_)
  · refine ir_l (pc' := 12) rfl rfl rfl rfl rfl rfl ?_
    refine ir_tgr (pc' := 15) rfl rfl rfl tf_4_1 a0k hT0 (fun b3 b3e b3k => ?_)
    refine ir_l (pc' := 16) rfl rfl rfl rfl rfl rfl ?_
    refine ir_getI (pc' := 19) rfl rfl rfl (gG_at a0k) rfl (by decide) (by decide) z1e (by omega) (by omega) ?_
    refine ir_tla (pc' := 20) rfl rfl te_6 (by decide) b3k hT0 (by omega) (by omega) (fun z4 z4e z4l z4h => ?_)
    clear z4e
    refine ir_w [] trivial ?_
    exact J20 (z4) (by omega) (by omega) s0 hT0 hF0 (z1) (by omega) (by omega) z1e (by omega)
  · refine ir_k (pc' := 8) (v := (1, 0)) rfl rfl rfl (fun _ => rfl) ?_
    refine ir_goto (pc' := 20) rfl rfl ?_
    refine ir_w [] trivial ?_
    exact J20 (0) (by omega) (by omega) s0 hT0 hF0 (z1) (by omega) (by omega) z1e (by omega)
theorem sf_makePrimitive6 (L : Nat) (ys : Nat → Int32) (d : Nat) (s0 : im_S) (hT0 : tI s0) (a0 : Nat) (a0k : gK[a0]? = some 4) : icV gG rm_P L ys (d + 3) 174 [(2, (a0 : Int))] s0 (fun s => tI s ∧ fr [] s0 s) := by
  refine ic_startM (M := rm_p_X6_makePrimitive) om_X6_makePrimitive (Nat.le_of_ble_eq_true rfl) ?_
  refine ir_w [(0, (2, ((a0 : Nat) : Int)))] ⟨rfl, trivial⟩ ?_
  have hF0 := fr_refl [] s0
  have J69 : ∀ (s_69 : im_S) (hT_69 : tI s_69) (hF_69 : fr [] s0 s_69), ir gG rm_P L ys (d + 2) rm_p_X6_makePrimitive (69, [], [], s_69) (fun r : im_Re => r.1 = none ∧ (tI r.2 ∧ fr [] s0 r.2)) := by
    intro s_69 hT_69 hF_69
    exact ir_vret rfl rfl ⟨rfl, hT_69, hF_69⟩
  have J47 : ∀ n : Nat, ∀ (q47_l1 : Int) (q47_l1l : -9223372036854775808 ≤ q47_l1) (q47_l1h : q47_l1 ≤ 9223372036854775807) (q47_l1n : q47_l1 ≠ 0) (q47_l3 : Int) (q47_l3l : 0 ≤ q47_l3) (q47_l3h : q47_l3 ≤ 9) (s_47 : im_S) (hT_47 : tI s_47) (hF_47 : fr [] s0 s_47), (9 + 1 - q47_l3) ≤ (n : Int) → ir gG rm_P L ys (d + 2) rm_p_X6_makePrimitive (47, [(0, (2, ((a0 : Nat) : Int))), (1, (1, q47_l1)), (3, (0, q47_l3))], [], s_47) (fun r : im_Re => r.1 = none ∧ (tI r.2 ∧ fr [] s0 r.2)) := by
    intro n
    induction n with
    | zero => intro q47_l1 q47_l1l q47_l1h q47_l1n q47_l3 q47_l3l q47_l3h s_47 hT_47 hF_47 hr; exfalso; omega
    | succ n ih47 =>
      intro q47_l1 q47_l1l q47_l1h q47_l1n q47_l3 q47_l3l q47_l3h s_47 hT_47 hF_47 hr
      refine ir_l (pc' := 48) rfl rfl rfl rfl rfl rfl ?_
      refine ir_k (pc' := 50) (v := (0, 8)) rfl rfl rfl (fun _ => rfl) ?_
      refine ir_c_gt (pt := 69) (pc' := 53) rfl rfl rfl (fun c1 => ?_) (fun c1 => ?_)
      · refine ir_w [] trivial ?_
        exact J69 s_47 hT_47 hF_47
      · refine ir_l (pc' := 54) rfl rfl rfl rfl rfl rfl ?_
        refine ir_tgr (pc' := 57) rfl rfl rfl tf_4_1 a0k hT_47 (fun b2 b2e b2k => ?_)
        refine ir_l (pc' := 58) rfl rfl rfl rfl rfl rfl ?_
        refine ir_x (pc' := 59) rfl rfl rfl (fun _ => rfl) ?_
        refine ir_tla (pc' := 60) rfl rfl te_6 (by decide) b2k hT_47 (by omega) (by omega) (fun z3 z3e z3l z3h => ?_)
        clear z3e
        refine ir_l (pc' := 61) rfl rfl rfl rfl rfl rfl ?_
        refine ir_jzA (pc' := 62) rfl rfl rfl rfl (by omega) (fun z4 z4l z4h => ?_)
        refine ir_tls (pc' := 63) rfl rfl te_6 b2k hT_47 (by omega) (by omega) (by omega) (by omega) (fun s5 hT5 r5 o5 => ?_)
        have hF5 := fr_row hF_47 r5 o5
        have e6 : s5.1 a0 1 = ((b2 : Nat) : Int) := by rw [r5]; exact b2e
        refine ir_inc (pc' := 66) rfl rfl rfl rfl rfl (by omega) (by omega) ?_
        refine ir_goto (pc' := 47) rfl rfl ?_
        refine ir_w [(0, (2, ((a0 : Nat) : Int))), (1, (1, q47_l1)), (3, (0, (q47_l3 + 1)))] ⟨rfl, rfl, rfl, trivial⟩ ?_
        exact ih47 (q47_l1) (by omega) (by omega) (by omega) ((q47_l3 + 1)) (by omega) (by omega) s5 hT5 hF5 (by omega)
  have J39 : ∀ (q39_l1 : Int) (q39_l1l : -9223372036854775808 ≤ q39_l1) (q39_l1h : q39_l1 ≤ 9223372036854775807) (s_39 : im_S) (hT_39 : tI s_39) (hF_39 : fr [] s0 s_39), ir gG rm_P L ys (d + 2) rm_p_X6_makePrimitive (39, [(0, (2, ((a0 : Nat) : Int))), (1, (1, q39_l1))], [], s_39) (fun r : im_Re => r.1 = none ∧ (tI r.2 ∧ fr [] s0 r.2)) := by
    intro q39_l1 q39_l1l q39_l1h s_39 hT_39 hF_39
    refine ir_l (pc' := 40) rfl rfl rfl rfl rfl rfl ?_
    refine ir_k (pc' := 41) (v := (1, 0)) rfl rfl rfl (fun _ => rfl) ?_
    refine ir_lcmp (pc' := 42) rfl rfl (by omega) (by omega) (by omega) (by omega) (fun z7 z7c => ?_)
    refine ir_z_eq (pt := 69) (pc' := 45) rfl rfl rfl (fun c8 => ?_) (fun c8 => ?_)
    · refine ir_w [] trivial ?_
      exact J69 s_39 hT_39 hF_39
    · refine ir_k (pc' := 46) (v := (0, 0)) rfl rfl rfl (fun _ => rfl) ?_
      refine ir_s (pc' := 47) rfl rfl rfl rfl rfl rfl ?_
      refine ir_w [(0, (2, ((a0 : Nat) : Int))), (1, (1, q39_l1)), (3, (0, 0))] ⟨rfl, rfl, rfl, trivial⟩ ?_
      exact J47 _ (q39_l1) (by omega) (by omega) (by omega) (0) (by omega) (by omega) s_39 hT_39 hF_39 (Int.self_le_toNat _)
  have J4 : ∀ n : Nat, ∀ (q4_l1 : Int) (q4_l1l : -9223372036854775808 ≤ q4_l1) (q4_l1h : q4_l1 ≤ 9223372036854775807) (q4_l3 : Int) (q4_l3l : 0 ≤ q4_l3) (q4_l3h : q4_l3 ≤ 9) (s_4 : im_S) (hT_4 : tI s_4) (hF_4 : fr [] s0 s_4), (9 + 1 - q4_l3) ≤ (n : Int) → ir gG rm_P L ys (d + 2) rm_p_X6_makePrimitive (4, [(0, (2, ((a0 : Nat) : Int))), (1, (1, q4_l1)), (3, (0, q4_l3))], [], s_4) (fun r : im_Re => r.1 = none ∧ (tI r.2 ∧ fr [] s0 r.2)) := by
    intro n
    induction n with
    | zero => intro q4_l1 q4_l1l q4_l1h q4_l3 q4_l3l q4_l3h s_4 hT_4 hF_4 hr; exfalso; omega
    | succ n ih4 =>
      intro q4_l1 q4_l1l q4_l1h q4_l3 q4_l3l q4_l3h s_4 hT_4 hF_4 hr
      refine ir_l (pc' := 5) rfl rfl rfl rfl rfl rfl ?_
      refine ir_k (pc' := 7) (v := (0, 8)) rfl rfl rfl (fun _ => rfl) ?_
      refine ir_c_gt (pt := 27) (pc' := 10) rfl rfl rfl (fun c9 => ?_) (fun c9 => ?_)
      · refine ir_l (pc' := 28) rfl rfl rfl rfl rfl rfl ?_
        refine ir_cVI (pc' := 31) rfl rfl rfl rfl rfl (Nat.le_of_ble_eq_true rfl) oo_X6_lead (gG_at a0k) (sf_lead6 L ys (d + 1) s_4 hT_4 a0 a0k ) (fun z10 s11 hr => ?_)
        obtain ⟨hT11, hG11, z10l, z10h, p11_0⟩ := hr
        have hF11 := fr_trans hF_4 hG11 (by decide)
        refine ir_k (pc' := 32) (v := (1, 0)) rfl rfl rfl (fun _ => rfl) ?_
        refine ir_lcmp (pc' := 33) rfl rfl (by omega) (by omega) (by omega) (by omega) (fun z12 z12c => ?_)
        refine ir_z_ge (pt := 39) (pc' := 36) rfl rfl rfl (fun c13 => ?_) (fun c13 => ?_)
        · refine ir_w [(0, (2, ((a0 : Nat) : Int))), (1, (1, q4_l1))] ⟨rfl, rfl, trivial⟩ ?_
          exact J39 (q4_l1) (by omega) (by omega) s11 hT11 hF11
        · refine ir_l (pc' := 37) rfl rfl rfl rfl rfl rfl ?_
          refine ir_lnegA (pc' := 38) rfl rfl (fun z14 z14l z14h => ?_)
          refine ir_s2 (pc' := 39) rfl rfl rfl rfl rfl rfl ?_
          refine ir_w [(0, (2, ((a0 : Nat) : Int))), (1, (1, z14))] ⟨rfl, rfl, trivial⟩ ?_
          exact J39 (z14) (by omega) (by omega) s11 hT11 hF11
      · refine ir_l (pc' := 11) rfl rfl rfl rfl rfl rfl ?_
        refine ir_l (pc' := 12) rfl rfl rfl rfl rfl rfl ?_
        refine ir_tgr (pc' := 15) rfl rfl rfl tf_4_1 a0k hT_4 (fun b15 b15e b15k => ?_)
        refine ir_l (pc' := 16) rfl rfl rfl rfl rfl rfl ?_
        refine ir_tla (pc' := 17) rfl rfl te_6 (by decide) b15k hT_4 (by omega) (by omega) (fun z16 z16e z16l z16h => ?_)
        clear z16e
        refine ir_cSI (pc' := 20) rfl rfl rfl rfl rfl rfl (Nat.le_of_ble_eq_true rfl) (sf_gcd6 L ys d s_4 hT_4 (q4_l1) (by omega) (by omega) (z16) (by omega) (by omega) ) (fun z17 s18 hr => ?_)
        obtain ⟨hT18, hG18, z17l, z17h⟩ := hr
        have hF18 := fr_trans hF_4 hG18 (by decide)
        have e19 : s18.1 a0 1 = ((b15 : Nat) : Int) := (hG18.1 _ _ a0k 1 (by decide)).trans b15e
        refine ir_s2 (pc' := 21) rfl rfl rfl rfl rfl rfl ?_
        refine ir_inc (pc' := 24) rfl rfl rfl rfl rfl (by omega) (by omega) ?_
        refine ir_goto (pc' := 4) rfl rfl ?_
        refine ir_w [(0, (2, ((a0 : Nat) : Int))), (1, (1, z17)), (3, (0, (q4_l3 + 1)))] ⟨rfl, rfl, rfl, trivial⟩ ?_
        exact ih4 (z17) (by omega) (by omega) ((q4_l3 + 1)) (by omega) (by omega) s18 hT18 hF18 (by omega)
  refine ir_k (pc' := 1) (v := (1, 0)) rfl rfl rfl (fun _ => rfl) ?_
  refine ir_s2 (pc' := 2) rfl rfl rfl rfl rfl rfl ?_
  refine ir_k (pc' := 3) (v := (0, 0)) rfl rfl rfl (fun _ => rfl) ?_
  refine ir_s (pc' := 4) rfl rfl rfl rfl rfl rfl ?_
  refine ir_w [(0, (2, ((a0 : Nat) : Int))), (1, (1, 0)), (3, (0, 0))] ⟨rfl, rfl, rfl, trivial⟩ ?_
  exact J4 _ (0) (by omega) (by omega) (0) (by omega) (by omega) s0 hT0 hF0 (Int.self_le_toNat _)
theorem sf_measure6 (L : Nat) (ys : Nat → Int32) (d : Nat) (s0 : im_S) (hT0 : tI s0) (a0 : Nat) (a0k : gK[a0]? = some 4) : icV gG rm_P L ys (d + 1) 175 [(2, (a0 : Int))] s0 (fun s => tI s ∧ fr [(4, 0)] s0 s) := by
  refine ic_startM (M := rm_p_X6_measure) om_X6_measure (Nat.le_of_ble_eq_true rfl) ?_
  refine ir_w [(0, (2, ((a0 : Nat) : Int)))] ⟨rfl, trivial⟩ ?_
  have hF0 := fr_refl [(4, 0)] s0
  have J7 : ∀ n : Nat, ∀ (q7_l1 : Int) (q7_l1l : 0 ≤ q7_l1) (q7_l1h : q7_l1 ≤ 9) (s_7 : im_S) (hT_7 : tI s_7) (hF_7 : fr [(4, 0)] s0 s_7) (w7_a0_0 : Int) (w7_a0_0l : -1 ≤ w7_a0_0) (w7_a0_0h : w7_a0_0 ≤ 8) (w7_a0_0e : s_7.1 a0 0 = w7_a0_0), (9 + 1 - q7_l1) ≤ (n : Int) → ir gG rm_P L ys d rm_p_X6_measure (7, [(0, (2, ((a0 : Nat) : Int))), (1, (0, q7_l1))], [], s_7) (fun r : im_Re => r.1 = none ∧ (tI r.2 ∧ fr [(4, 0)] s0 r.2)) := by
    intro n
    induction n with
    | zero => intro q7_l1 q7_l1l q7_l1h s_7 hT_7 hF_7 w7_a0_0 w7_a0_0l w7_a0_0h w7_a0_0e hr; exfalso; omega
    | succ n ih7 =>
      intro q7_l1 q7_l1l q7_l1h s_7 hT_7 hF_7 w7_a0_0 w7_a0_0l w7_a0_0h w7_a0_0e hr
      have J29 : ∀ (f29_1h : q7_l1 ≤ 8) (s_29 : im_S) (hT_29 : tI s_29) (hF_29 : fr [(4, 0)] s0 s_29) (w29_a0_0 : Int) (w29_a0_0l : -1 ≤ w29_a0_0) (w29_a0_0h : w29_a0_0 ≤ 8) (w29_a0_0e : s_29.1 a0 0 = w29_a0_0) (w29_a0_1 : Nat) (w29_a0_1k : gK[w29_a0_1]? = some 6) (w29_a0_1e : s_29.1 a0 1 = ((w29_a0_1 : Nat) : Int)), ir gG rm_P L ys d rm_p_X6_measure (29, [(0, (2, ((a0 : Nat) : Int))), (1, (0, q7_l1))], [], s_29) (fun r : im_Re => r.1 = none ∧ (tI r.2 ∧ fr [(4, 0)] s0 r.2)) := by
        intro f29_1h s_29 hT_29 hF_29 w29_a0_0 w29_a0_0l w29_a0_0h w29_a0_0e w29_a0_1 w29_a0_1k w29_a0_1e
        refine ir_inc (pc' := 32) rfl rfl rfl rfl rfl (by omega) (by omega) ?_
        refine ir_goto (pc' := 7) rfl rfl ?_
        refine ir_w [(0, (2, ((a0 : Nat) : Int))), (1, (0, (q7_l1 + 1)))] ⟨rfl, rfl, trivial⟩ ?_
        exact ih7 ((q7_l1 + 1)) (by omega) (by omega) s_29 hT_29 hF_29 (w29_a0_0) (by omega) (by omega) w29_a0_0e (by omega)
      refine ir_l (pc' := 8) rfl rfl rfl rfl rfl rfl ?_
      refine ir_k (pc' := 10) (v := (0, 8)) rfl rfl rfl (fun _ => rfl) ?_
      refine ir_c_gt (pt := 35) (pc' := 13) rfl rfl rfl (fun c1 => ?_) (fun c1 => ?_)
      · exact ir_vret rfl rfl ⟨rfl, hT_7, hF_7⟩
      · refine ir_l (pc' := 14) rfl rfl rfl rfl rfl rfl ?_
        refine ir_tgr (pc' := 17) rfl rfl rfl tf_4_1 a0k hT_7 (fun b2 b2e b2k => ?_)
        refine ir_l (pc' := 18) rfl rfl rfl rfl rfl rfl ?_
        refine ir_tla (pc' := 19) rfl rfl te_6 (by decide) b2k hT_7 (by omega) (by omega) (fun z3 z3e z3l z3h => ?_)
        clear z3e
        refine ir_k (pc' := 20) (v := (1, 0)) rfl rfl rfl (fun _ => rfl) ?_
        refine ir_lcmp (pc' := 21) rfl rfl (by omega) (by omega) (by omega) (by omega) (fun z4 z4c => ?_)
        refine ir_z_eq (pt := 29) (pc' := 24) rfl rfl rfl (fun c5 => ?_) (fun c5 => ?_)
        · refine ir_w [(0, (2, ((a0 : Nat) : Int))), (1, (0, q7_l1))] ⟨rfl, rfl, trivial⟩ ?_
          exact J29 (by omega) s_7 hT_7 hF_7 (w7_a0_0) (by omega) (by omega) w7_a0_0e b2 b2k b2e
        · refine ir_l (pc' := 25) rfl rfl rfl rfl rfl rfl ?_
          refine ir_l (pc' := 26) rfl rfl rfl rfl rfl rfl ?_
          refine ir_tpi (pc' := 29) rfl rfl rfl tf_4_0 rfl a0k hT_7 rfl (by omega) (by omega) (fun s6 hT6 e6 g6 r6 => ?_)
          have hF6 := fr_put (k := 4) hF_7 (by decide) a0k g6 r6
          have e7 : s6.1 a0 1 = ((b2 : Nat) : Int) := (g6 a0 1 (fun z => absurd z.2 (by decide))).trans b2e
          refine ir_w [(0, (2, ((a0 : Nat) : Int))), (1, (0, q7_l1))] ⟨rfl, rfl, trivial⟩ ?_
          exact J29 (by omega) s6 hT6 hF6 (q7_l1) (by omega) (by omega) e6 b2 b2k e7
  refine ir_l (pc' := 1) rfl rfl rfl rfl rfl rfl ?_
  refine ir_k (pc' := 2) (v := (0, (-1))) rfl rfl rfl (fun _ => rfl) ?_
  refine ir_tpi (pc' := 5) rfl rfl rfl tf_4_0 rfl a0k hT0 rfl (by omega) (by omega) (fun s8 hT8 e8 g8 r8 => ?_)
  have hF8 := fr_put (k := 4) hF0 (by decide) a0k g8 r8
  refine ir_k (pc' := 6) (v := (0, 0)) rfl rfl rfl (fun _ => rfl) ?_
  refine ir_s (pc' := 7) rfl rfl rfl rfl rfl rfl ?_
  refine ir_w [(0, (2, ((a0 : Nat) : Int))), (1, (0, 0))] ⟨rfl, rfl, trivial⟩ ?_
  exact J7 _ (0) (by omega) (by omega) s8 hT8 hF8 ((-1)) (by omega) (by omega) e8 (Int.self_le_toNat _)
theorem sf_setSlopeOf6 (L : Nat) (ys : Nat → Int32) (d : Nat) (s0 : im_S) (hT0 : tI s0) (a0 : Nat) (a0k : gK[a0]? = some 4) (a1 : Nat) (a1k : gK[a1]? = some 4) : icV gG rm_P L ys (d + 2) 178 [(2, (a0 : Int)), (2, (a1 : Int))] s0 (fun s => tI s ∧ fr [(4, 0)] s0 s) := by
  refine ic_startM (M := rm_p_X6_setSlopeOf) om_X6_setSlopeOf (Nat.le_of_ble_eq_true rfl) ?_
  refine ir_w [(0, (2, ((a0 : Nat) : Int))), (1, (2, ((a1 : Nat) : Int)))] ⟨rfl, rfl, trivial⟩ ?_
  have hF0 := fr_refl [(4, 0)] s0
  have J2 : ∀ n : Nat, ∀ (q2_l2 : Int) (q2_l2l : 0 ≤ q2_l2) (q2_l2h : q2_l2 ≤ 8) (s_2 : im_S) (hT_2 : tI s_2) (hF_2 : fr [(4, 0)] s0 s_2), (8 + 1 - q2_l2) ≤ (n : Int) → ir gG rm_P L ys (d + 1) rm_p_X6_setSlopeOf (2, [(0, (2, ((a0 : Nat) : Int))), (1, (2, ((a1 : Nat) : Int))), (2, (0, q2_l2))], [], s_2) (fun r : im_Re => r.1 = none ∧ (tI r.2 ∧ fr [(4, 0)] s0 r.2)) := by
    intro n
    induction n with
    | zero => intro q2_l2 q2_l2l q2_l2h s_2 hT_2 hF_2 hr; exfalso; omega
    | succ n ih2 =>
      intro q2_l2 q2_l2l q2_l2h s_2 hT_2 hF_2 hr
      refine ir_l (pc' := 3) rfl rfl rfl rfl rfl rfl ?_
      refine ir_k (pc' := 5) (v := (0, 8)) rfl rfl rfl (fun _ => rfl) ?_
      refine ir_c_ge (pt := 33) (pc' := 8) rfl rfl rfl (fun c1 => ?_) (fun c1 => ?_)
      · refine ir_l (pc' := 34) rfl rfl rfl rfl rfl rfl ?_
        refine ir_tgr (pc' := 37) rfl rfl rfl tf_4_1 a0k hT_2 (fun b2 b2e b2k => ?_)
        refine ir_k (pc' := 39) (v := (0, 8)) rfl rfl rfl (fun _ => rfl) ?_
        refine ir_k (pc' := 40) (v := (1, 0)) rfl rfl rfl (fun _ => rfl) ?_
        refine ir_tls (pc' := 41) rfl rfl te_6 b2k hT_2 (by omega) (by omega) (by omega) (by omega) (fun s3 hT3 r3 o3 => ?_)
        have hF3 := fr_row hF_2 r3 o3
        have e4 : s3.1 a0 1 = ((b2 : Nat) : Int) := by rw [r3]; exact b2e
        refine ir_l (pc' := 42) rfl rfl rfl rfl rfl rfl ?_
        refine ir_cVV (pc' := 45) rfl rfl rfl rfl rfl (Nat.le_of_ble_eq_true rfl) oo_X6_measure (gG_at a0k) (sf_measure6 L ys d s3 hT3 a0 a0k ) (fun s6 hr => ?_)
        obtain ⟨hT6, hG6⟩ := hr
        have hF6 := fr_trans hF3 hG6 (by decide)
        have e7 : s6.1 a0 1 = ((b2 : Nat) : Int) := (hG6.1 _ _ a0k 1 (by decide)).trans e4
        exact ir_vret rfl rfl ⟨rfl, hT6, hF6⟩
      · refine ir_l (pc' := 9) rfl rfl rfl rfl rfl rfl ?_
        refine ir_tgr (pc' := 12) rfl rfl rfl tf_4_1 a0k hT_2 (fun b8 b8e b8k => ?_)
        refine ir_l (pc' := 13) rfl rfl rfl rfl rfl rfl ?_
        refine ir_l (pc' := 14) rfl rfl rfl rfl rfl rfl ?_
        refine ir_tgr (pc' := 17) rfl rfl rfl tf_4_1 a1k hT_2 (fun b9 b9e b9k => ?_)
        refine ir_l (pc' := 18) rfl rfl rfl rfl rfl rfl ?_
        refine ir_k (pc' := 19) (v := (0, 1)) rfl rfl rfl (fun _ => rfl) ?_
        refine ir_add (pc' := 20) rfl rfl (by omega) (by omega) ?_
        refine ir_tla (pc' := 21) rfl rfl te_6 (by decide) b9k hT_2 (by omega) (by omega) (fun z10 z10e z10l z10h => ?_)
        clear z10e
        refine ir_l (pc' := 22) rfl rfl rfl rfl rfl rfl ?_
        refine ir_k (pc' := 23) (v := (0, 1)) rfl rfl rfl (fun _ => rfl) ?_
        refine ir_add (pc' := 24) rfl rfl (by omega) (by omega) ?_
        refine ir_i2l (pc' := 25) rfl rfl (by omega) (by omega) ?_
        refine ir_jjA (pc' := 26) rfl rfl rfl rfl (fun z11 z11l z11h => ?_)
        refine ir_tls (pc' := 27) rfl rfl te_6 b8k hT_2 (by omega) (by omega) (by omega) (by omega) (fun s12 hT12 r12 o12 => ?_)
        have hF12 := fr_row hF_2 r12 o12
        have e13 : s12.1 a0 1 = ((b8 : Nat) : Int) := by rw [r12]; exact b8e
        have e14 : s12.1 a1 1 = ((b9 : Nat) : Int) := by rw [r12]; exact b9e
        refine ir_inc (pc' := 30) rfl rfl rfl rfl rfl (by omega) (by omega) ?_
        refine ir_goto (pc' := 2) rfl rfl ?_
        refine ir_w [(0, (2, ((a0 : Nat) : Int))), (1, (2, ((a1 : Nat) : Int))), (2, (0, (q2_l2 + 1)))] ⟨rfl, rfl, rfl, trivial⟩ ?_
        exact ih2 ((q2_l2 + 1)) (by omega) (by omega) s12 hT12 hF12 (by omega)
  refine ir_k (pc' := 1) (v := (0, 0)) rfl rfl rfl (fun _ => rfl) ?_
  refine ir_s (pc' := 2) rfl rfl rfl rfl rfl rfl ?_
  refine ir_w [(0, (2, ((a0 : Nat) : Int))), (1, (2, ((a1 : Nat) : Int))), (2, (0, 0))] ⟨rfl, rfl, rfl, trivial⟩ ?_
  exact J2 _ (0) (by omega) (by omega) s0 hT0 hF0 (Int.self_le_toNat _)
theorem sf_setConstant6 (L : Nat) (ys : Nat → Int32) (d : Nat) (s0 : im_S) (hT0 : tI s0) (a0 : Nat) (a0k : gK[a0]? = some 4) (x1 : Int) (x1l : -9223372036854775808 ≤ x1) (x1h : x1 ≤ 9223372036854775807) : icV gG rm_P L ys (d + 1) 176 [(2, (a0 : Int)), (1, x1)] s0 (fun s => tI s ∧ fr [(4, 0)] s0 s) := by
  refine ic_startM (M := rm_p_X6_setConstant) om_X6_setConstant (Nat.le_of_ble_eq_true rfl) ?_
  refine ir_w [(0, (2, ((a0 : Nat) : Int))), (1, (1, x1))] ⟨rfl, rfl, trivial⟩ ?_
  have hF0 := fr_refl [(4, 0)] s0
  have J40 : ∀ (q40_s0 : Nat) (q40_s0k : gK[q40_s0]? = some 4) (q40_s1 : Int) (q40_s1l : -1 ≤ q40_s1) (q40_s1h : q40_s1 ≤ 0) (s_40 : im_S) (hT_40 : tI s_40) (hF_40 : fr [(4, 0)] s0 s_40) (w40_a0_1 : Nat) (w40_a0_1k : gK[w40_a0_1]? = some 6) (w40_a0_1e : s_40.1 a0 1 = ((w40_a0_1 : Nat) : Int)), ir gG rm_P L ys d rm_p_X6_setConstant (40, [], [(0, q40_s1), (2, ((q40_s0 : Nat) : Int))], s_40) (fun r : im_Re => r.1 = none ∧ (tI r.2 ∧ fr [(4, 0)] s0 r.2)) := by
    intro q40_s0 q40_s0k q40_s1 q40_s1l q40_s1h s_40 hT_40 hF_40 w40_a0_1 w40_a0_1k w40_a0_1e
    refine ir_tpi (pc' := 43) rfl rfl rfl tf_4_0 rfl q40_s0k hT_40 rfl (by omega) (by omega) (fun s1 hT1 e1 g1 r1 => ?_)
    have hF1 := fr_put (k := 4) hF_40 (by decide) q40_s0k g1 r1
    have e2 : s1.1 a0 1 = ((w40_a0_1 : Nat) : Int) := (g1 a0 1 (fun z => absurd z.2 (by decide))).trans w40_a0_1e
    exact ir_vret rfl rfl ⟨rfl, hT1, hF1⟩
  have J2 : ∀ n : Nat, ∀ (q2_l3 : Int) (q2_l3l : 1 ≤ q2_l3) (q2_l3h : q2_l3 ≤ 9) (s_2 : im_S) (hT_2 : tI s_2) (hF_2 : fr [(4, 0)] s0 s_2), (9 + 1 - q2_l3) ≤ (n : Int) → ir gG rm_P L ys d rm_p_X6_setConstant (2, [(0, (2, ((a0 : Nat) : Int))), (1, (1, x1)), (3, (0, q2_l3))], [], s_2) (fun r : im_Re => r.1 = none ∧ (tI r.2 ∧ fr [(4, 0)] s0 r.2)) := by
    intro n
    induction n with
    | zero => intro q2_l3 q2_l3l q2_l3h s_2 hT_2 hF_2 hr; exfalso; omega
    | succ n ih2 =>
      intro q2_l3 q2_l3l q2_l3h s_2 hT_2 hF_2 hr
      refine ir_l (pc' := 3) rfl rfl rfl rfl rfl rfl ?_
      refine ir_k (pc' := 5) (v := (0, 8)) rfl rfl rfl (fun _ => rfl) ?_
      refine ir_c_gt (pt := 21) (pc' := 8) rfl rfl rfl (fun c3 => ?_) (fun c3 => ?_)
      · refine ir_l (pc' := 22) rfl rfl rfl rfl rfl rfl ?_
        refine ir_tgr (pc' := 25) rfl rfl rfl tf_4_1 a0k hT_2 (fun b4 b4e b4k => ?_)
        refine ir_k (pc' := 26) (v := (0, 0)) rfl rfl rfl (fun _ => rfl) ?_
        refine ir_l (pc' := 27) rfl rfl rfl rfl rfl rfl ?_
        refine ir_tls (pc' := 28) rfl rfl te_6 b4k hT_2 (by omega) (by omega) (by omega) (by omega) (fun s5 hT5 r5 o5 => ?_)
        have hF5 := fr_row hF_2 r5 o5
        have e6 : s5.1 a0 1 = ((b4 : Nat) : Int) := by rw [r5]; exact b4e
        refine ir_l (pc' := 29) rfl rfl rfl rfl rfl rfl ?_
        refine ir_l (pc' := 30) rfl rfl rfl rfl rfl rfl ?_
        refine ir_k (pc' := 31) (v := (1, 0)) rfl rfl rfl (fun _ => rfl) ?_
        refine ir_lcmp (pc' := 32) rfl rfl (by omega) (by omega) (by omega) (by omega) (fun z7 z7c => ?_)
        refine ir_z_eq (pt := 39) (pc' := 35) rfl rfl rfl (fun c8 => ?_) (fun c8 => ?_)
        · refine ir_k (pc' := 40) (v := (0, (-1))) rfl rfl rfl (fun _ => rfl) ?_
          refine ir_w [] trivial ?_
          exact J40 a0 a0k ((-1)) (by omega) (by omega) s5 hT5 hF5 b4 b4k e6
        · refine ir_k (pc' := 36) (v := (0, 0)) rfl rfl rfl (fun _ => rfl) ?_
          refine ir_goto (pc' := 40) rfl rfl ?_
          refine ir_w [] trivial ?_
          exact J40 a0 a0k (0) (by omega) (by omega) s5 hT5 hF5 b4 b4k e6
      · refine ir_l (pc' := 9) rfl rfl rfl rfl rfl rfl ?_
        refine ir_tgr (pc' := 12) rfl rfl rfl tf_4_1 a0k hT_2 (fun b9 b9e b9k => ?_)
        refine ir_l (pc' := 13) rfl rfl rfl rfl rfl rfl ?_
        refine ir_k (pc' := 14) (v := (1, 0)) rfl rfl rfl (fun _ => rfl) ?_
        refine ir_tls (pc' := 15) rfl rfl te_6 b9k hT_2 (by omega) (by omega) (by omega) (by omega) (fun s10 hT10 r10 o10 => ?_)
        have hF10 := fr_row hF_2 r10 o10
        have e11 : s10.1 a0 1 = ((b9 : Nat) : Int) := by rw [r10]; exact b9e
        refine ir_inc (pc' := 18) rfl rfl rfl rfl rfl (by omega) (by omega) ?_
        refine ir_goto (pc' := 2) rfl rfl ?_
        refine ir_w [(0, (2, ((a0 : Nat) : Int))), (1, (1, x1)), (3, (0, (q2_l3 + 1)))] ⟨rfl, rfl, rfl, trivial⟩ ?_
        exact ih2 ((q2_l3 + 1)) (by omega) (by omega) s10 hT10 hF10 (by omega)
  refine ir_k (pc' := 1) (v := (0, 1)) rfl rfl rfl (fun _ => rfl) ?_
  refine ir_s (pc' := 2) rfl rfl rfl rfl rfl rfl ?_
  refine ir_w [(0, (2, ((a0 : Nat) : Int))), (1, (1, x1)), (3, (0, 1))] ⟨rfl, rfl, rfl, trivial⟩ ?_
  exact J2 _ (1) (by omega) (by omega) s0 hT0 hF0 (Int.self_le_toNat _)
theorem sf_eliminate2 (L : Nat) (ys : Nat → Int32) (d : Nat) (s0 : im_S) (hT0 : tI s0) (a0 : Nat) (a0k : gK[a0]? = some 6) (x1 : Int) (x1l : -1 ≤ x1) (x1h : x1 ≤ 8) (a2 : Nat) (a2k : gK[a2]? = some 6) (x3 : Int) (x3l : 1 ≤ x3) (x3h : x3 ≤ 8) (x4 : Int) (x4l : 2147482693 ≤ x4) (x4h : x4 ≤ 2147483647) : icV gG rm_P L ys (d + 2) 125 [(2, (a0 : Int)), (0, x1), (2, (a2 : Int)), (0, x3), (1, x4)] s0 (fun s => tI s ∧ fr [] s0 s) := by
  refine ic_startM (M := rm_p_X2_eliminate) om_X2_eliminate (Nat.le_of_ble_eq_true rfl) ?_
  refine ir_w [(0, (2, ((a0 : Nat) : Int))), (1, (0, x1)), (2, (2, ((a2 : Nat) : Int))), (3, (0, x3)), (4, (1, x4))] ⟨rfl, rfl, rfl, rfl, rfl, trivial⟩ ?_
  have hF0 := fr_refl [] s0
  have J8 : ∀ n : Nat, ∀ (q8_l6 : Int) (q8_l6l : -9223372036854775808 ≤ q8_l6) (q8_l6h : q8_l6 ≤ 9223372036854775807) (q8_l8 : Int) (q8_l8l : -1 ≤ q8_l8) (q8_l8h : q8_l8 ≤ 8) (s_8 : im_S) (hT_8 : tI s_8) (hF_8 : fr [] s0 s_8), (q8_l8 - -1 + 1) ≤ (n : Int) → ir gG rm_P L ys (d + 1) rm_p_X2_eliminate (8, [(0, (2, ((a0 : Nat) : Int))), (2, (2, ((a2 : Nat) : Int))), (3, (0, x3)), (4, (1, x4)), (6, (1, q8_l6)), (8, (0, q8_l8))], [], s_8) (fun r : im_Re => r.1 = none ∧ (tI r.2 ∧ fr [] s0 r.2)) := by
    intro n
    induction n with
    | zero => intro q8_l6 q8_l6l q8_l6h q8_l8 q8_l8l q8_l8h s_8 hT_8 hF_8 hr; exfalso; omega
    | succ n ih8 =>
      intro q8_l6 q8_l6l q8_l6h q8_l8 q8_l8l q8_l8h s_8 hT_8 hF_8 hr
      have J91 : ∀ (f91_8l : 1 ≤ q8_l8) (s_91 : im_S) (hT_91 : tI s_91) (hF_91 : fr [] s0 s_91), ir gG rm_P L ys (d + 1) rm_p_X2_eliminate (91, [(0, (2, ((a0 : Nat) : Int))), (2, (2, ((a2 : Nat) : Int))), (3, (0, x3)), (4, (1, x4)), (6, (1, q8_l6)), (8, (0, q8_l8))], [], s_91) (fun r : im_Re => r.1 = none ∧ (tI r.2 ∧ fr [] s0 r.2)) := by
        intro f91_8l s_91 hT_91 hF_91
        refine ir_inc (pc' := 94) rfl rfl rfl rfl rfl (by omega) (by omega) ?_
        refine ir_goto (pc' := 8) rfl rfl ?_
        refine ir_w [(0, (2, ((a0 : Nat) : Int))), (2, (2, ((a2 : Nat) : Int))), (3, (0, x3)), (4, (1, x4)), (6, (1, q8_l6)), (8, (0, (q8_l8 + (-1))))] ⟨rfl, rfl, rfl, rfl, rfl, rfl, trivial⟩ ?_
        exact ih8 (q8_l6) (by omega) (by omega) ((q8_l8 + (-1))) (by omega) (by omega) s_91 hT_91 hF_91 (by omega)
      have J29 : ∀ n : Nat, ∀ (q29_l9 : Int) (q29_l9l : -9223372036854775808 ≤ q29_l9) (q29_l9h : q29_l9 ≤ 9223372036854775807) (q29_l11 : Int) (q29_l11l : 0 ≤ q29_l11) (q29_l11h : q29_l11 ≤ 7) (q29_l12 : Int) (q29_l12l : 0 ≤ q29_l12) (q29_l12h : q29_l12 ≤ 9) (f29_8l : 1 ≤ q8_l8) (s_29 : im_S) (hT_29 : tI s_29) (hF_29 : fr [] s0 s_29), (9 + 1 - q29_l12) ≤ (n : Int) → ir gG rm_P L ys (d + 1) rm_p_X2_eliminate (29, [(0, (2, ((a0 : Nat) : Int))), (2, (2, ((a2 : Nat) : Int))), (3, (0, x3)), (4, (1, x4)), (6, (1, q8_l6)), (8, (0, q8_l8)), (9, (1, q29_l9)), (11, (0, q29_l11)), (12, (0, q29_l12))], [], s_29) (fun r : im_Re => r.1 = none ∧ (tI r.2 ∧ fr [] s0 r.2)) := by
        intro n
        induction n with
        | zero => intro q29_l9 q29_l9l q29_l9h q29_l11 q29_l11l q29_l11h q29_l12 q29_l12l q29_l12h f29_8l s_29 hT_29 hF_29 hr; exfalso; omega
        | succ n ih29 =>
          intro q29_l9 q29_l9l q29_l9h q29_l11 q29_l11l q29_l11h q29_l12 q29_l12l q29_l12h f29_8l s_29 hT_29 hF_29 hr
          have J74 : ∀ (q74_l13 : Int) (q74_l13l : -9223372036854775808 ≤ q74_l13) (q74_l13h : q74_l13 ≤ 9223372036854775807) (f74_9n : q29_l9 ≠ 0) (f74_12h : q29_l12 ≤ 8) (s_74 : im_S) (hT_74 : tI s_74) (hF_74 : fr [] s0 s_74), ir gG rm_P L ys (d + 1) rm_p_X2_eliminate (74, [(0, (2, ((a0 : Nat) : Int))), (2, (2, ((a2 : Nat) : Int))), (3, (0, x3)), (4, (1, x4)), (6, (1, q8_l6)), (8, (0, q8_l8)), (9, (1, q29_l9)), (11, (0, q29_l11)), (12, (0, q29_l12)), (13, (1, q74_l13))], [], s_74) (fun r : im_Re => r.1 = none ∧ (tI r.2 ∧ fr [] s0 r.2)) := by
            intro q74_l13 q74_l13l q74_l13h f74_9n f74_12h s_74 hT_74 hF_74
            refine ir_l (pc' := 75) rfl rfl rfl rfl rfl rfl ?_
            refine ir_l (pc' := 77) rfl rfl rfl rfl rfl rfl ?_
            refine ir_l (pc' := 79) rfl rfl rfl rfl rfl rfl ?_
            refine ir_l (pc' := 81) rfl rfl rfl rfl rfl rfl ?_
            refine ir_cSI (pc' := 84) rfl rfl rfl rfl rfl rfl (Nat.le_of_ble_eq_true rfl) (sf_fmJ L ys d s_74 (q74_l13) (by omega) (by omega) (x4) (by omega) (by omega)) (fun z1 s2 hr => ?_)
            obtain ⟨rfl, z1p0, z1p1⟩ := hr
            refine ir_tls (pc' := 85) rfl rfl te_6 a0k hT_74 (by omega) (by omega) (by omega) (by omega) (fun s3 hT3 r3 o3 => ?_)
            have hF3 := fr_row hF_74 r3 o3
            refine ir_inc (pc' := 88) rfl rfl rfl rfl rfl (by omega) (by omega) ?_
            refine ir_goto (pc' := 29) rfl rfl ?_
            refine ir_w [(0, (2, ((a0 : Nat) : Int))), (2, (2, ((a2 : Nat) : Int))), (3, (0, x3)), (4, (1, x4)), (6, (1, q8_l6)), (8, (0, q8_l8)), (9, (1, q29_l9)), (11, (0, q29_l11)), (12, (0, (q29_l12 + 1)))] ⟨rfl, rfl, rfl, rfl, rfl, rfl, rfl, rfl, rfl, trivial⟩ ?_
            exact ih29 (q29_l9) (by omega) (by omega) (q29_l11) (by omega) (by omega) ((q29_l12 + 1)) (by omega) (by omega) (by omega) s3 hT3 hF3 (by omega)
          refine ir_l (pc' := 31) rfl rfl rfl rfl rfl rfl ?_
          refine ir_l (pc' := 33) rfl rfl rfl rfl rfl rfl ?_
          refine ir_c_gt (pt := 91) (pc' := 36) rfl rfl rfl (fun c4 => ?_) (fun c4 => ?_)
          · refine ir_w [(0, (2, ((a0 : Nat) : Int))), (2, (2, ((a2 : Nat) : Int))), (3, (0, x3)), (4, (1, x4)), (6, (1, q8_l6)), (8, (0, q8_l8))] ⟨rfl, rfl, rfl, rfl, rfl, rfl, trivial⟩ ?_
            exact J91 (by omega) s_29 hT_29 hF_29
          · refine ir_l (pc' := 38) rfl rfl rfl rfl rfl rfl ?_
            refine ir_k (pc' := 39) (v := (1, 0)) rfl rfl rfl (fun _ => rfl) ?_
            refine ir_lcmp (pc' := 40) rfl rfl (by omega) (by omega) (by omega) (by omega) (fun z5 z5c => ?_)
            refine ir_z_eq (pt := 91) (pc' := 43) rfl rfl rfl (fun c6 => ?_) (fun c6 => ?_)
            · refine ir_w [(0, (2, ((a0 : Nat) : Int))), (2, (2, ((a2 : Nat) : Int))), (3, (0, x3)), (4, (1, x4)), (6, (1, q8_l6)), (8, (0, q8_l8))] ⟨rfl, rfl, rfl, rfl, rfl, rfl, trivial⟩ ?_
              exact J91 (by omega) s_29 hT_29 hF_29
            · refine ir_l (pc' := 44) rfl rfl rfl rfl rfl rfl ?_
              refine ir_l (pc' := 46) rfl rfl rfl rfl rfl rfl ?_
              refine ir_tla (pc' := 47) rfl rfl te_6 (by decide) a0k hT_29 (by omega) (by omega) (fun z7 z7e z7l z7h => ?_)
              clear z7e
              refine ir_l (pc' := 49) rfl rfl rfl rfl rfl rfl ?_
              refine ir_jjA (pc' := 50) rfl rfl rfl rfl (fun z8 z8l z8h => ?_)
              refine ir_s2 (pc' := 52) rfl rfl rfl rfl rfl rfl ?_
              refine ir_l (pc' := 54) rfl rfl rfl rfl rfl rfl ?_
              refine ir_l (pc' := 56) rfl rfl rfl rfl rfl rfl ?_
              refine ir_c_lt (pt := 74) (pc' := 59) rfl rfl rfl (fun c9 => ?_) (fun c9 => ?_)
              · refine ir_w [(0, (2, ((a0 : Nat) : Int))), (2, (2, ((a2 : Nat) : Int))), (3, (0, x3)), (4, (1, x4)), (6, (1, q8_l6)), (8, (0, q8_l8)), (9, (1, q29_l9)), (11, (0, q29_l11)), (12, (0, q29_l12)), (13, (1, z8))] ⟨rfl, rfl, rfl, rfl, rfl, rfl, rfl, rfl, rfl, rfl, trivial⟩ ?_
                exact J74 (z8) (by omega) (by omega) (by omega) (by omega) s_29 hT_29 hF_29
              · refine ir_l (pc' := 61) rfl rfl rfl rfl rfl rfl ?_
                refine ir_l (pc' := 63) rfl rfl rfl rfl rfl rfl ?_
                refine ir_l (pc' := 64) rfl rfl rfl rfl rfl rfl ?_
                refine ir_l (pc' := 66) rfl rfl rfl rfl rfl rfl ?_
                refine ir_l (pc' := 68) rfl rfl rfl rfl rfl rfl ?_
                refine ir_sub (pc' := 69) rfl rfl (by omega) (by omega) ?_
                refine ir_tla (pc' := 70) rfl rfl te_6 (by decide) a2k hT_29 (by omega) (by omega) (fun z10 z10e z10l z10h => ?_)
                clear z10e
                refine ir_jjA (pc' := 71) rfl rfl rfl rfl (fun z11 z11l z11h => ?_)
                refine ir_jjA (pc' := 72) rfl rfl rfl rfl (fun z12 z12l z12h => ?_)
                refine ir_s2 (pc' := 74) rfl rfl rfl rfl rfl rfl ?_
                refine ir_w [(0, (2, ((a0 : Nat) : Int))), (2, (2, ((a2 : Nat) : Int))), (3, (0, x3)), (4, (1, x4)), (6, (1, q8_l6)), (8, (0, q8_l8)), (9, (1, q29_l9)), (11, (0, q29_l11)), (12, (0, q29_l12)), (13, (1, z12))] ⟨rfl, rfl, rfl, rfl, rfl, rfl, rfl, rfl, rfl, rfl, trivial⟩ ?_
                exact J74 (z12) (by omega) (by omega) (by omega) (by omega) s_29 hT_29 hF_29
      refine ir_l (pc' := 10) rfl rfl rfl rfl rfl rfl ?_
      refine ir_l (pc' := 11) rfl rfl rfl rfl rfl rfl ?_
      refine ir_c_lt (pt := 97) (pc' := 14) rfl rfl rfl (fun c13 => ?_) (fun c13 => ?_)
      · exact ir_vret rfl rfl ⟨rfl, hT_8, hF_8⟩
      · refine ir_l (pc' := 15) rfl rfl rfl rfl rfl rfl ?_
        refine ir_l (pc' := 17) rfl rfl rfl rfl rfl rfl ?_
        refine ir_tla (pc' := 18) rfl rfl te_6 (by decide) a0k hT_8 (by omega) (by omega) (fun z14 z14e z14l z14h => ?_)
        clear z14e
        refine ir_s2 (pc' := 20) rfl rfl rfl rfl rfl rfl ?_
        refine ir_l (pc' := 22) rfl rfl rfl rfl rfl rfl ?_
        refine ir_l (pc' := 23) rfl rfl rfl rfl rfl rfl ?_
        refine ir_sub (pc' := 24) rfl rfl (by omega) (by omega) ?_
        refine ir_s (pc' := 26) rfl rfl rfl rfl rfl rfl ?_
        refine ir_k (pc' := 27) (v := (0, 0)) rfl rfl rfl (fun _ => rfl) ?_
        refine ir_s (pc' := 29) rfl rfl rfl rfl rfl rfl ?_
        refine ir_w [(0, (2, ((a0 : Nat) : Int))), (2, (2, ((a2 : Nat) : Int))), (3, (0, x3)), (4, (1, x4)), (6, (1, q8_l6)), (8, (0, q8_l8)), (9, (1, z14)), (11, (0, (q8_l8 - x3))), (12, (0, 0))] ⟨rfl, rfl, rfl, rfl, rfl, rfl, rfl, rfl, rfl, trivial⟩ ?_
        exact J29 _ (z14) (by omega) (by omega) ((q8_l8 - x3)) (by omega) (by omega) (0) (by omega) (by omega) (by omega) s_8 hT_8 hF_8 (Int.self_le_toNat _)
  refine ir_l (pc' := 1) rfl rfl rfl rfl rfl rfl ?_
  refine ir_l (pc' := 2) rfl rfl rfl rfl rfl rfl ?_
  refine ir_tla (pc' := 3) rfl rfl te_6 (by decide) a2k hT0 (by omega) (by omega) (fun z15 z15e z15l z15h => ?_)
  clear z15e
  refine ir_s2 (pc' := 5) rfl rfl rfl rfl rfl rfl ?_
  refine ir_l (pc' := 6) rfl rfl rfl rfl rfl rfl ?_
  refine ir_s (pc' := 8) rfl rfl rfl rfl rfl rfl ?_
  refine ir_w [(0, (2, ((a0 : Nat) : Int))), (2, (2, ((a2 : Nat) : Int))), (3, (0, x3)), (4, (1, x4)), (6, (1, z15)), (8, (0, x1))] ⟨rfl, rfl, rfl, rfl, rfl, rfl, trivial⟩ ?_
  exact J8 _ (z15) (by omega) (by omega) (x1) (by omega) (by omega) s0 hT0 hF0 (Int.self_le_toNat _)
theorem sf_degreeOf2 (L : Nat) (ys : Nat → Int32) (d : Nat) (s0 : im_S) (hT0 : tI s0) (a0 : Nat) (a0k : gK[a0]? = some 6) : icI gG rm_P L ys 0 (d + 1) 123 [(2, (a0 : Int))] s0 (fun z s => tI s ∧ fr [] s0 s ∧ -1 ≤ z ∧ z ≤ 8) := by
  refine ic_startM (M := rm_p_X2_degreeOf) om_X2_degreeOf (Nat.le_of_ble_eq_true rfl) ?_
  refine ir_w [(0, (2, ((a0 : Nat) : Int)))] ⟨rfl, trivial⟩ ?_
  have hF0 := fr_refl [] s0
  have J23 : ∀ (q23_l1 : Int) (q23_l1l : -1 ≤ q23_l1) (q23_l1h : q23_l1 ≤ 8) (s_23 : im_S) (hT_23 : tI s_23) (hF_23 : fr [] s0 s_23), ir gG rm_P L ys d rm_p_X2_degreeOf (23, [(1, (0, q23_l1))], [], s_23) (fun r : im_Re => ∃ z, r.1 = some (0, z) ∧ (tI r.2 ∧ fr [] s0 r.2 ∧ -1 ≤ z ∧ z ≤ 8)) := by
    intro q23_l1 q23_l1l q23_l1h s_23 hT_23 hF_23
    refine ir_l (pc' := 24) rfl rfl rfl rfl rfl rfl ?_
    exact ir_iret rfl rfl ⟨_, rfl, hT_23, hF_23, by omega, by omega⟩
  have J5 : ∀ n : Nat, ∀ (q5_l1 : Int) (q5_l1l : -1 ≤ q5_l1) (q5_l1h : q5_l1 ≤ 8) (s_5 : im_S) (hT_5 : tI s_5) (hF_5 : fr [] s0 s_5), (q5_l1 - -1 + 1) ≤ (n : Int) → ir gG rm_P L ys d rm_p_X2_degreeOf (5, [(0, (2, ((a0 : Nat) : Int))), (1, (0, q5_l1))], [], s_5) (fun r : im_Re => ∃ z, r.1 = some (0, z) ∧ (tI r.2 ∧ fr [] s0 r.2 ∧ -1 ≤ z ∧ z ≤ 8)) := by
    intro n
    induction n with
    | zero => intro q5_l1 q5_l1l q5_l1h s_5 hT_5 hF_5 hr; exfalso; omega
    | succ n ih5 =>
      intro q5_l1 q5_l1l q5_l1h s_5 hT_5 hF_5 hr
      refine ir_l (pc' := 6) rfl rfl rfl rfl rfl rfl ?_
      refine ir_z_lt (pt := 23) (pc' := 9) rfl rfl rfl (fun c1 => ?_) (fun c1 => ?_)
      · refine ir_w [(1, (0, q5_l1))] ⟨rfl, trivial⟩ ?_
        exact J23 (q5_l1) (by omega) (by omega) s_5 hT_5 hF_5
      · refine ir_l (pc' := 10) rfl rfl rfl rfl rfl rfl ?_
        refine ir_l (pc' := 11) rfl rfl rfl rfl rfl rfl ?_
        refine ir_tla (pc' := 12) rfl rfl te_6 (by decide) a0k hT_5 (by omega) (by omega) (fun z2 z2e z2l z2h => ?_)
        clear z2e
        refine ir_k (pc' := 13) (v := (1, 0)) rfl rfl rfl (fun _ => rfl) ?_
        refine ir_lcmp (pc' := 14) rfl rfl (by omega) (by omega) (by omega) (by omega) (fun z3 z3c => ?_)
        refine ir_z_ne (pt := 23) (pc' := 17) rfl rfl rfl (fun c4 => ?_) (fun c4 => ?_)
        · refine ir_w [(1, (0, q5_l1))] ⟨rfl, trivial⟩ ?_
          exact J23 (q5_l1) (by omega) (by omega) s_5 hT_5 hF_5
        · refine ir_inc (pc' := 20) rfl rfl rfl rfl rfl (by omega) (by omega) ?_
          refine ir_goto (pc' := 5) rfl rfl ?_
          refine ir_w [(0, (2, ((a0 : Nat) : Int))), (1, (0, (q5_l1 + (-1))))] ⟨rfl, rfl, trivial⟩ ?_
          exact ih5 ((q5_l1 + (-1))) (by omega) (by omega) s_5 hT_5 hF_5 (by omega)
  refine ir_l (pc' := 1) rfl rfl rfl rfl rfl rfl ?_
  refine ir_tlen (pc' := 2) rfl rfl te_6 (by decide) a0k ?_
  refine ir_k (pc' := 3) (v := (0, 1)) rfl rfl rfl (fun _ => rfl) ?_
  refine ir_sub (pc' := 4) rfl rfl (by omega) (by omega) ?_
  refine ir_s (pc' := 5) rfl rfl rfl rfl rfl rfl ?_
  refine ir_w [(0, (2, ((a0 : Nat) : Int))), (1, (0, (((9 : Nat) : Int) - 1)))] ⟨rfl, rfl, trivial⟩ ?_
  exact J5 _ ((((9 : Nat) : Int) - 1)) (by omega) (by omega) s0 hT0 hF0 (Int.self_le_toNat _)
theorem sf_inverse2 (L : Nat) (ys : Nat → Int32) (d : Nat) (s0 : im_S) (hT0 : tI s0) (x0 : Int) (x0l : -9223372036854775808 ≤ x0) (x0h : x0 ≤ 9223372036854775807) (x1 : Int) (x1l : 2147482693 ≤ x1) (x1h : x1 ≤ 2147483647) : icI gG rm_P L ys 1 (d + 1) 129 [(1, x0), (1, x1)] s0 (fun z s => tI s ∧ fr [] s0 s ∧ -9223372036854775808 ≤ z ∧ z ≤ 9223372036854775807) := by
  refine ic_startM (M := rm_p_X2_inverse) om_X2_inverse (Nat.le_of_ble_eq_true rfl) ?_
  refine ir_w [(0, (1, x0)), (2, (1, x1))] ⟨rfl, rfl, trivial⟩ ?_
  have hF0 := fr_refl [] s0
  have J15 : ∀ n : Nat, ∀ (q15_l4 : Int) (q15_l4l : -9223372036854775808 ≤ q15_l4) (q15_l4h : q15_l4 ≤ 9223372036854775807) (q15_l6 : Int) (q15_l6l : -9223372036854775808 ≤ q15_l6) (q15_l6h : q15_l6 ≤ 9223372036854775807) (q15_l8 : Int) (q15_l8l : 0 ≤ q15_l8) (q15_l8h : q15_l8 ≤ 2147483645) (s_15 : im_S) (hT_15 : tI s_15) (hF_15 : fr [] s0 s_15), (q15_l8 + 1) ≤ (n : Int) → ir gG rm_P L ys d rm_p_X2_inverse (15, [(2, (1, x1)), (4, (1, q15_l4)), (6, (1, q15_l6)), (8, (1, q15_l8))], [], s_15) (fun r : im_Re => ∃ z, r.1 = some (1, z) ∧ (tI r.2 ∧ fr [] s0 r.2 ∧ -9223372036854775808 ≤ z ∧ z ≤ 9223372036854775807)) := by
    intro n
    induction n with
    | zero => intro q15_l4 q15_l4l q15_l4h q15_l6 q15_l6l q15_l6h q15_l8 q15_l8l q15_l8h s_15 hT_15 hF_15 hr; exfalso; omega
    | succ n ih15 =>
      intro q15_l4 q15_l4l q15_l4h q15_l6 q15_l6l q15_l6h q15_l8 q15_l8l q15_l8h s_15 hT_15 hF_15 hr
      have J40 : ∀ (q40_l4 : Int) (q40_l4l : -9223372036854775808 ≤ q40_l4) (q40_l4h : q40_l4 ≤ 9223372036854775807) (f40_8l : 1 ≤ q15_l8) (s_40 : im_S) (hT_40 : tI s_40) (hF_40 : fr [] s0 s_40), ir gG rm_P L ys d rm_p_X2_inverse (40, [(2, (1, x1)), (4, (1, q40_l4)), (6, (1, q15_l6)), (8, (1, q15_l8))], [], s_40) (fun r : im_Re => ∃ z, r.1 = some (1, z) ∧ (tI r.2 ∧ fr [] s0 r.2 ∧ -9223372036854775808 ≤ z ∧ z ≤ 9223372036854775807)) := by
        intro q40_l4 q40_l4l q40_l4h f40_8l s_40 hT_40 hF_40
        refine ir_l (pc' := 42) rfl rfl rfl rfl rfl rfl ?_
        refine ir_l (pc' := 44) rfl rfl rfl rfl rfl rfl ?_
        refine ir_jjA (pc' := 45) rfl rfl rfl rfl (fun z1 z1l z1h => ?_)
        refine ir_l (pc' := 46) rfl rfl rfl rfl rfl rfl ?_
        refine ir_jzA (pc' := 47) rfl rfl rfl rfl (by omega) (fun z2 z2l z2h => ?_)
        refine ir_s2 (pc' := 49) rfl rfl rfl rfl rfl rfl ?_
        refine ir_l (pc' := 51) rfl rfl rfl rfl rfl rfl ?_
        refine ir_k (pc' := 52) (v := (0, 1)) rfl rfl rfl (fun _ => rfl) ?_
        refine ir_lshr (pc' := 53) (y := 1) (k := 1) (m := 2) rfl rfl (by decide) rfl (by decide) (by omega) (by omega) ?_
        refine ir_s2 (pc' := 55) rfl rfl rfl rfl rfl rfl ?_
        refine ir_goto (pc' := 15) rfl rfl ?_
        refine ir_w [(2, (1, x1)), (4, (1, q40_l4)), (6, (1, z2)), (8, (1, (q15_l8 / 2)))] ⟨rfl, rfl, rfl, rfl, trivial⟩ ?_
        exact ih15 (q40_l4) (by omega) (by omega) (z2) (by omega) (by omega) ((q15_l8 / 2)) (by omega) (by omega) s_40 hT_40 hF_40 (by omega)
      refine ir_l (pc' := 17) rfl rfl rfl rfl rfl rfl ?_
      refine ir_k (pc' := 18) (v := (1, 0)) rfl rfl rfl (fun _ => rfl) ?_
      refine ir_lcmp (pc' := 19) rfl rfl (by omega) (by omega) (by omega) (by omega) (fun z3 z3c => ?_)
      refine ir_z_le (pt := 58) (pc' := 22) rfl rfl rfl (fun c4 => ?_) (fun c4 => ?_)
      · refine ir_l (pc' := 60) rfl rfl rfl rfl rfl rfl ?_
        exact ir_lret rfl rfl ⟨_, rfl, hT_15, hF_15, by omega, by omega⟩
      · refine ir_l (pc' := 24) rfl rfl rfl rfl rfl rfl ?_
        refine ir_k (pc' := 25) (v := (1, 1)) rfl rfl rfl (fun _ => rfl) ?_
        refine ir_landm (pc' := 26) rfl rfl (by decide) (by decide) (fun z5 z5l z5h => ?_)
        refine ir_k (pc' := 27) (v := (1, 1)) rfl rfl rfl (fun _ => rfl) ?_
        refine ir_lcmp (pc' := 28) rfl rfl (by omega) (by omega) (by omega) (by omega) (fun z6 z6c => ?_)
        refine ir_z_ne (pt := 40) (pc' := 31) rfl rfl rfl (fun c7 => ?_) (fun c7 => ?_)
        · refine ir_w [(2, (1, x1)), (4, (1, q15_l4)), (6, (1, q15_l6)), (8, (1, q15_l8))] ⟨rfl, rfl, rfl, rfl, trivial⟩ ?_
          exact J40 (q15_l4) (by omega) (by omega) (by omega) s_15 hT_15 hF_15
        · refine ir_l (pc' := 33) rfl rfl rfl rfl rfl rfl ?_
          refine ir_l (pc' := 35) rfl rfl rfl rfl rfl rfl ?_
          refine ir_jjA (pc' := 36) rfl rfl rfl rfl (fun z8 z8l z8h => ?_)
          refine ir_l (pc' := 37) rfl rfl rfl rfl rfl rfl ?_
          refine ir_jzA (pc' := 38) rfl rfl rfl rfl (by omega) (fun z9 z9l z9h => ?_)
          refine ir_s2 (pc' := 40) rfl rfl rfl rfl rfl rfl ?_
          refine ir_w [(2, (1, x1)), (4, (1, z9)), (6, (1, q15_l6)), (8, (1, q15_l8))] ⟨rfl, rfl, rfl, rfl, trivial⟩ ?_
          exact J40 (z9) (by omega) (by omega) (by omega) s_15 hT_15 hF_15
  refine ir_k (pc' := 1) (v := (1, 1)) rfl rfl rfl (fun _ => rfl) ?_
  refine ir_s2 (pc' := 3) rfl rfl rfl rfl rfl rfl ?_
  refine ir_l (pc' := 4) rfl rfl rfl rfl rfl rfl ?_
  refine ir_l (pc' := 5) rfl rfl rfl rfl rfl rfl ?_
  refine ir_jzA (pc' := 6) rfl rfl rfl rfl (by omega) (fun z10 z10l z10h => ?_)
  refine ir_s2 (pc' := 8) rfl rfl rfl rfl rfl rfl ?_
  refine ir_l (pc' := 9) rfl rfl rfl rfl rfl rfl ?_
  refine ir_k (pc' := 12) (v := (1, 2)) rfl rfl rfl (fun _ => rfl) ?_
  refine ir_lsub (pc' := 13) rfl rfl (by omega) (by omega) ?_
  refine ir_s2 (pc' := 15) rfl rfl rfl rfl rfl rfl ?_
  refine ir_w [(2, (1, x1)), (4, (1, 1)), (6, (1, z10)), (8, (1, (x1 - 2)))] ⟨rfl, rfl, rfl, rfl, trivial⟩ ?_
  exact J15 _ (1) (by omega) (by omega) (z10) (by omega) (by omega) ((x1 - 2)) (by omega) (by omega) s0 hT0 hF0 (Int.self_le_toNat _)
theorem sf_imageModulo2 (L : Nat) (ys : Nat → Int32) (d : Nat) (s0 : im_S) (hT0 : tI s0) (a1 : Nat) (a1k : gK[a1]? = some 4) (a2 : Nat) (a2k : gK[a2]? = some 4) (x3 : Int) (x3l : 2147482693 ≤ x3) (x3h : x3 ≤ 2147483647) : icI gG rm_P L ys 0 (d + 3) 127 [(2, ((247 : Nat) : Int)), (2, (a1 : Int)), (2, (a2 : Int)), (1, x3)] s0 (fun z s => tI s ∧ fr [] s0 s ∧ 0 ≤ z ∧ z ≤ 8) := by
  refine ic_startM (M := rm_p_X2_imageModulo) om_X2_imageModulo (Nat.le_of_ble_eq_true rfl) ?_
  refine ir_w [(0, (2, ((247 : Nat) : Int))), (1, (2, ((a1 : Nat) : Int))), (2, (2, ((a2 : Nat) : Int))), (3, (1, x3))] ⟨rfl, rfl, rfl, rfl, trivial⟩ ?_
  have hF0 := fr_refl [] s0
  have J154 : ∀ n : Nat, ∀ (q154_l5 : Nat) (q154_l5k : gK[q154_l5]? = some 6) (q154_l7 : Int) (q154_l7l : 0 ≤ q154_l7) (q154_l7h : q154_l7 ≤ 8) (q154_l9 : Int) (q154_l9l : -9223372036854775808 ≤ q154_l9) (q154_l9h : q154_l9 ≤ 9223372036854775807) (q154_l11 : Int) (q154_l11l : 0 ≤ q154_l11) (q154_l11h : q154_l11 ≤ 9) (s_154 : im_S) (hT_154 : tI s_154) (hF_154 : fr [] s0 s_154) (w154_247_0 : Nat) (w154_247_0k : gK[w154_247_0]? = some 6) (w154_247_0e : s_154.1 247 0 = ((w154_247_0 : Nat) : Int)) (w154_247_1 : Nat) (w154_247_1k : gK[w154_247_1]? = some 6) (w154_247_1e : s_154.1 247 1 = ((w154_247_1 : Nat) : Int)) (w154_a1_0 : Int) (w154_a1_0l : -1 ≤ w154_a1_0) (w154_a1_0h : w154_a1_0 ≤ 8) (w154_a1_0e : s_154.1 a1 0 = w154_a1_0) (w154_a2_0 : Int) (w154_a2_0l : -1 ≤ w154_a2_0) (w154_a2_0h : w154_a2_0 ≤ 8) (w154_a2_0e : s_154.1 a2 0 = w154_a2_0), (9 + 1 - q154_l11) ≤ (n : Int) → ir gG rm_P L ys (d + 2) rm_p_X2_imageModulo (154, [(0, (2, ((247 : Nat) : Int))), (3, (1, x3)), (5, (2, ((q154_l5 : Nat) : Int))), (7, (0, q154_l7)), (9, (1, q154_l9)), (11, (0, q154_l11))], [], s_154) (fun r : im_Re => ∃ z, r.1 = some (0, z) ∧ (tI r.2 ∧ fr [] s0 r.2 ∧ 0 ≤ z ∧ z ≤ 8)) := by
    intro n
    induction n with
    | zero => intro q154_l5 q154_l5k q154_l7 q154_l7l q154_l7h q154_l9 q154_l9l q154_l9h q154_l11 q154_l11l q154_l11h s_154 hT_154 hF_154 w154_247_0 w154_247_0k w154_247_0e w154_247_1 w154_247_1k w154_247_1e w154_a1_0 w154_a1_0l w154_a1_0h w154_a1_0e w154_a2_0 w154_a2_0l w154_a2_0h w154_a2_0e hr; exfalso; omega
    | succ n ih154 =>
      intro q154_l5 q154_l5k q154_l7 q154_l7l q154_l7h q154_l9 q154_l9l q154_l9h q154_l11 q154_l11l q154_l11h s_154 hT_154 hF_154 w154_247_0 w154_247_0k w154_247_0e w154_247_1 w154_247_1k w154_247_1e w154_a1_0 w154_a1_0l w154_a1_0h w154_a1_0e w154_a2_0 w154_a2_0l w154_a2_0h w154_a2_0e hr
      refine ir_l (pc' := 156) rfl rfl rfl rfl rfl rfl ?_
      refine ir_k (pc' := 158) (v := (0, 8)) rfl rfl rfl (fun _ => rfl) ?_
      refine ir_c_gt (pt := 184) (pc' := 161) rfl rfl rfl (fun c1 => ?_) (fun c1 => ?_)
      · refine ir_l (pc' := 186) rfl rfl rfl rfl rfl rfl ?_
        exact ir_iret rfl rfl ⟨_, rfl, hT_154, hF_154, by omega, by omega⟩
      · refine ir_l (pc' := 162) rfl rfl rfl rfl rfl rfl ?_
        refine ir_tgr (pc' := 165) rfl rfl rfl tf_14_3 tsk_14 hT_154 (fun b2 b2e b2k => ?_)
        refine ir_l (pc' := 167) rfl rfl rfl rfl rfl rfl ?_
        refine ir_l (pc' := 169) rfl rfl rfl rfl rfl rfl ?_
        refine ir_l (pc' := 171) rfl rfl rfl rfl rfl rfl ?_
        refine ir_tla (pc' := 172) rfl rfl te_6 (by decide) q154_l5k hT_154 (by omega) (by omega) (fun z3 z3e z3l z3h => ?_)
        clear z3e
        refine ir_l (pc' := 174) rfl rfl rfl rfl rfl rfl ?_
        refine ir_jjA (pc' := 175) rfl rfl rfl rfl (fun z4 z4l z4h => ?_)
        refine ir_l (pc' := 176) rfl rfl rfl rfl rfl rfl ?_
        refine ir_jzA (pc' := 177) rfl rfl rfl rfl (by omega) (fun z5 z5l z5h => ?_)
        refine ir_tls (pc' := 178) rfl rfl te_6 b2k hT_154 (by omega) (by omega) (by omega) (by omega) (fun s6 hT6 r6 o6 => ?_)
        have hF6 := fr_row hF_154 r6 o6
        have e7 : s6.1 247 0 = ((w154_247_0 : Nat) : Int) := by rw [r6]; exact w154_247_0e
        have e8 : s6.1 247 1 = ((w154_247_1 : Nat) : Int) := by rw [r6]; exact w154_247_1e
        have e9 : s6.1 a1 0 = w154_a1_0 := by rw [r6]; exact w154_a1_0e
        have e10 : s6.1 a2 0 = w154_a2_0 := by rw [r6]; exact w154_a2_0e
        have e11 : s6.1 247 3 = ((b2 : Nat) : Int) := by rw [r6]; exact b2e
        refine ir_inc (pc' := 181) rfl rfl rfl rfl rfl (by omega) (by omega) ?_
        refine ir_goto (pc' := 154) rfl rfl ?_
        refine ir_w [(0, (2, ((247 : Nat) : Int))), (3, (1, x3)), (5, (2, ((q154_l5 : Nat) : Int))), (7, (0, q154_l7)), (9, (1, q154_l9)), (11, (0, (q154_l11 + 1)))] ⟨rfl, rfl, rfl, rfl, rfl, rfl, trivial⟩ ?_
        exact ih154 q154_l5 q154_l5k (q154_l7) (by omega) (by omega) (q154_l9) (by omega) (by omega) ((q154_l11 + 1)) (by omega) (by omega) s6 hT6 hF6 w154_247_0 w154_247_0k e7 w154_247_1 w154_247_1k e8 (w154_a1_0) (by omega) (by omega) e9 (w154_a2_0) (by omega) (by omega) e10 (by omega)
  have J138 : ∀ (s_138 : im_S) (hT_138 : tI s_138) (hF_138 : fr [] s0 s_138) (w138_247_0 : Nat) (w138_247_0k : gK[w138_247_0]? = some 6) (w138_247_0e : s_138.1 247 0 = ((w138_247_0 : Nat) : Int)) (w138_247_1 : Nat) (w138_247_1k : gK[w138_247_1]? = some 6) (w138_247_1e : s_138.1 247 1 = ((w138_247_1 : Nat) : Int)) (w138_a1_0 : Int) (w138_a1_0l : -1 ≤ w138_a1_0) (w138_a1_0h : w138_a1_0 ≤ 8) (w138_a1_0e : s_138.1 a1 0 = w138_a1_0) (w138_a2_0 : Int) (w138_a2_0l : -1 ≤ w138_a2_0) (w138_a2_0h : w138_a2_0 ≤ 8) (w138_a2_0e : s_138.1 a2 0 = w138_a2_0), ir gG rm_P L ys (d + 2) rm_p_X2_imageModulo (138, [], [], s_138) (fun r : im_Re => ∃ z, r.1 = some (0, z) ∧ (tI r.2 ∧ fr [] s0 r.2 ∧ 0 ≤ z ∧ z ≤ 8)) := by
    intro s_138 hT_138 hF_138 w138_247_0 w138_247_0k w138_247_0e w138_247_1 w138_247_1k w138_247_1e w138_a1_0 w138_a1_0l w138_a1_0h w138_a1_0e w138_a2_0 w138_a2_0l w138_a2_0h w138_a2_0e
    refine ir_k (pc' := 139) (v := (0, 0)) rfl rfl rfl (fun _ => rfl) ?_
    exact ir_iret rfl rfl ⟨_, rfl, hT_138, hF_138, by omega, by omega⟩
  have J128 : ∀ (q128_l5 : Nat) (q128_l5k : gK[q128_l5]? = some 6) (q128_l7 : Int) (q128_l7l : -1 ≤ q128_l7) (q128_l7h : q128_l7 ≤ 8) (q128_l8 : Int) (q128_l8l : -1 ≤ q128_l8) (q128_l8h : q128_l8 ≤ 8) (s_128 : im_S) (hT_128 : tI s_128) (hF_128 : fr [] s0 s_128) (w128_247_0 : Nat) (w128_247_0k : gK[w128_247_0]? = some 6) (w128_247_0e : s_128.1 247 0 = ((w128_247_0 : Nat) : Int)) (w128_247_1 : Nat) (w128_247_1k : gK[w128_247_1]? = some 6) (w128_247_1e : s_128.1 247 1 = ((w128_247_1 : Nat) : Int)) (w128_a1_0 : Int) (w128_a1_0l : -1 ≤ w128_a1_0) (w128_a1_0h : w128_a1_0 ≤ 8) (w128_a1_0e : s_128.1 a1 0 = w128_a1_0) (w128_a2_0 : Int) (w128_a2_0l : -1 ≤ w128_a2_0) (w128_a2_0h : w128_a2_0 ≤ 8) (w128_a2_0e : s_128.1 a2 0 = w128_a2_0), ir gG rm_P L ys (d + 2) rm_p_X2_imageModulo (128, [(0, (2, ((247 : Nat) : Int))), (3, (1, x3)), (5, (2, ((q128_l5 : Nat) : Int))), (7, (0, q128_l7)), (8, (0, q128_l8))], [], s_128) (fun r : im_Re => ∃ z, r.1 = some (0, z) ∧ (tI r.2 ∧ fr [] s0 r.2 ∧ 0 ≤ z ∧ z ≤ 8)) := by
    intro q128_l5 q128_l5k q128_l7 q128_l7l q128_l7h q128_l8 q128_l8l q128_l8h s_128 hT_128 hF_128 w128_247_0 w128_247_0k w128_247_0e w128_247_1 w128_247_1k w128_247_1e w128_a1_0 w128_a1_0l w128_a1_0h w128_a1_0e w128_a2_0 w128_a2_0l w128_a2_0h w128_a2_0e
    refine ir_l (pc' := 130) rfl rfl rfl rfl rfl rfl ?_
    refine ir_z_eq (pt := 138) (pc' := 133) rfl rfl rfl (fun c12 => ?_) (fun c12 => ?_)
    · refine ir_w [] trivial ?_
      exact J138 s_128 hT_128 hF_128 w128_247_0 w128_247_0k w128_247_0e w128_247_1 w128_247_1k w128_247_1e (w128_a1_0) (by omega) (by omega) w128_a1_0e (w128_a2_0) (by omega) (by omega) w128_a2_0e
    · refine ir_l (pc' := 135) rfl rfl rfl rfl rfl rfl ?_
      refine ir_z_ge (pt := 140) (pc' := 138) rfl rfl rfl (fun c13 => ?_) (fun c13 => ?_)
      · refine ir_l (pc' := 142) rfl rfl rfl rfl rfl rfl ?_
        refine ir_l (pc' := 144) rfl rfl rfl rfl rfl rfl ?_
        refine ir_tla (pc' := 145) rfl rfl te_6 (by decide) q128_l5k hT_128 (by omega) (by omega) (fun z14 z14e z14l z14h => ?_)
        clear z14e
        refine ir_l (pc' := 146) rfl rfl rfl rfl rfl rfl ?_
        refine ir_cSI (pc' := 149) rfl rfl rfl rfl rfl rfl (Nat.le_of_ble_eq_true rfl) (sf_inverse2 L ys (d + 1) s_128 hT_128 (z14) (by omega) (by omega) (x3) (by omega) (by omega) ) (fun z15 s16 hr => ?_)
        obtain ⟨hT16, hG16, z15l, z15h⟩ := hr
        have hF16 := fr_trans hF_128 hG16 (by decide)
        have e17 : s16.1 247 0 = ((w128_247_0 : Nat) : Int) := (hG16.1 _ _ tsk_14 0 (by decide)).trans w128_247_0e
        have e18 : s16.1 247 1 = ((w128_247_1 : Nat) : Int) := (hG16.1 _ _ tsk_14 1 (by decide)).trans w128_247_1e
        have e19 : s16.1 a1 0 = w128_a1_0 := (hG16.1 _ _ a1k 0 (by decide)).trans w128_a1_0e
        have e20 : s16.1 a2 0 = w128_a2_0 := (hG16.1 _ _ a2k 0 (by decide)).trans w128_a2_0e
        refine ir_s2 (pc' := 151) rfl rfl rfl rfl rfl rfl ?_
        refine ir_k (pc' := 152) (v := (0, 0)) rfl rfl rfl (fun _ => rfl) ?_
        refine ir_s (pc' := 154) rfl rfl rfl rfl rfl rfl ?_
        refine ir_w [(0, (2, ((247 : Nat) : Int))), (3, (1, x3)), (5, (2, ((q128_l5 : Nat) : Int))), (7, (0, q128_l7)), (9, (1, z15)), (11, (0, 0))] ⟨rfl, rfl, rfl, rfl, rfl, rfl, trivial⟩ ?_
        exact J154 _ q128_l5 q128_l5k (q128_l7) (by omega) (by omega) (z15) (by omega) (by omega) (0) (by omega) (by omega) s16 hT16 hF16 w128_247_0 w128_247_0k e17 w128_247_1 w128_247_1k e18 (w128_a1_0) (by omega) (by omega) e19 (w128_a2_0) (by omega) (by omega) e20 (Int.self_le_toNat _)
      · refine ir_w [] trivial ?_
        exact J138 s_128 hT_128 hF_128 w128_247_0 w128_247_0k w128_247_0e w128_247_1 w128_247_1k w128_247_1e (w128_a1_0) (by omega) (by omega) w128_a1_0e (w128_a2_0) (by omega) (by omega) w128_a2_0e
  have J75 : ∀ n : Nat, ∀ (q75_l5 : Nat) (q75_l5k : gK[q75_l5]? = some 6) (q75_l6 : Nat) (q75_l6k : gK[q75_l6]? = some 6) (q75_l7 : Int) (q75_l7l : -1 ≤ q75_l7) (q75_l7h : q75_l7 ≤ 8) (q75_l8 : Int) (q75_l8l : -1 ≤ q75_l8) (q75_l8h : q75_l8 ≤ 8) (q75_l9 : Int) (q75_l9l : 0 ≤ q75_l9) (q75_l9h : q75_l9 ≤ 24) (s_75 : im_S) (hT_75 : tI s_75) (hF_75 : fr [] s0 s_75) (w75_247_0 : Nat) (w75_247_0k : gK[w75_247_0]? = some 6) (w75_247_0e : s_75.1 247 0 = ((w75_247_0 : Nat) : Int)) (w75_247_1 : Nat) (w75_247_1k : gK[w75_247_1]? = some 6) (w75_247_1e : s_75.1 247 1 = ((w75_247_1 : Nat) : Int)) (w75_a1_0 : Int) (w75_a1_0l : -1 ≤ w75_a1_0) (w75_a1_0h : w75_a1_0 ≤ 8) (w75_a1_0e : s_75.1 a1 0 = w75_a1_0) (w75_a2_0 : Int) (w75_a2_0l : -1 ≤ w75_a2_0) (w75_a2_0h : w75_a2_0 ≤ 8) (w75_a2_0e : s_75.1 a2 0 = w75_a2_0), (24 + 1 - q75_l9) ≤ (n : Int) → ir gG rm_P L ys (d + 2) rm_p_X2_imageModulo (75, [(0, (2, ((247 : Nat) : Int))), (3, (1, x3)), (5, (2, ((q75_l5 : Nat) : Int))), (6, (2, ((q75_l6 : Nat) : Int))), (7, (0, q75_l7)), (8, (0, q75_l8)), (9, (0, q75_l9))], [], s_75) (fun r : im_Re => ∃ z, r.1 = some (0, z) ∧ (tI r.2 ∧ fr [] s0 r.2 ∧ 0 ≤ z ∧ z ≤ 8)) := by
    intro n
    induction n with
    | zero => intro q75_l5 q75_l5k q75_l6 q75_l6k q75_l7 q75_l7l q75_l7h q75_l8 q75_l8l q75_l8h q75_l9 q75_l9l q75_l9h s_75 hT_75 hF_75 w75_247_0 w75_247_0k w75_247_0e w75_247_1 w75_247_1k w75_247_1e w75_a1_0 w75_a1_0l w75_a1_0h w75_a1_0e w75_a2_0 w75_a2_0l w75_a2_0h w75_a2_0e hr; exfalso; omega
    | succ n ih75 =>
      intro q75_l5 q75_l5k q75_l6 q75_l6k q75_l7 q75_l7l q75_l7h q75_l8 q75_l8l q75_l8h q75_l9 q75_l9l q75_l9h s_75 hT_75 hF_75 w75_247_0 w75_247_0k w75_247_0e w75_247_1 w75_247_1k w75_247_1e w75_a1_0 w75_a1_0l w75_a1_0h w75_a1_0e w75_a2_0 w75_a2_0l w75_a2_0h w75_a2_0e hr
      refine ir_l (pc' := 77) rfl rfl rfl rfl rfl rfl ?_
      refine ir_k (pc' := 79) (v := (0, 24)) rfl rfl rfl (fun _ => rfl) ?_
      refine ir_c_ge (pt := 128) (pc' := 82) rfl rfl rfl (fun c21 => ?_) (fun c21 => ?_)
      · refine ir_w [(0, (2, ((247 : Nat) : Int))), (3, (1, x3)), (5, (2, ((q75_l5 : Nat) : Int))), (7, (0, q75_l7)), (8, (0, q75_l8))] ⟨rfl, rfl, rfl, rfl, rfl, trivial⟩ ?_
        exact J128 q75_l5 q75_l5k (q75_l7) (by omega) (by omega) (q75_l8) (by omega) (by omega) s_75 hT_75 hF_75 w75_247_0 w75_247_0k w75_247_0e w75_247_1 w75_247_1k w75_247_1e (w75_a1_0) (by omega) (by omega) w75_a1_0e (w75_a2_0) (by omega) (by omega) w75_a2_0e
      · refine ir_l (pc' := 84) rfl rfl rfl rfl rfl rfl ?_
        refine ir_z_le (pt := 128) (pc' := 87) rfl rfl rfl (fun c22 => ?_) (fun c22 => ?_)
        · refine ir_w [(0, (2, ((247 : Nat) : Int))), (3, (1, x3)), (5, (2, ((q75_l5 : Nat) : Int))), (7, (0, q75_l7)), (8, (0, q75_l8))] ⟨rfl, rfl, rfl, rfl, rfl, trivial⟩ ?_
          exact J128 q75_l5 q75_l5k (q75_l7) (by omega) (by omega) (q75_l8) (by omega) (by omega) s_75 hT_75 hF_75 w75_247_0 w75_247_0k w75_247_0e w75_247_1 w75_247_1k w75_247_1e (w75_a1_0) (by omega) (by omega) w75_a1_0e (w75_a2_0) (by omega) (by omega) w75_a2_0e
        · refine ir_l (pc' := 89) rfl rfl rfl rfl rfl rfl ?_
          refine ir_l (pc' := 91) rfl rfl rfl rfl rfl rfl ?_
          refine ir_l (pc' := 93) rfl rfl rfl rfl rfl rfl ?_
          refine ir_l (pc' := 95) rfl rfl rfl rfl rfl rfl ?_
          refine ir_l (pc' := 96) rfl rfl rfl rfl rfl rfl ?_
          refine ir_cSV (pc' := 99) rfl rfl rfl rfl rfl rfl (Nat.le_of_ble_eq_true rfl) (sf_eliminate2 L ys d s_75 hT_75 q75_l5 q75_l5k (q75_l7) (by omega) (by omega) q75_l6 q75_l6k (q75_l8) (by omega) (by omega) (x3) (by omega) (by omega) ) (fun s24 hr => ?_)
          obtain ⟨hT24, hG24⟩ := hr
          have hF24 := fr_trans hF_75 hG24 (by decide)
          have e25 : s24.1 247 0 = ((w75_247_0 : Nat) : Int) := (hG24.1 _ _ tsk_14 0 (by decide)).trans w75_247_0e
          have e26 : s24.1 247 1 = ((w75_247_1 : Nat) : Int) := (hG24.1 _ _ tsk_14 1 (by decide)).trans w75_247_1e
          have e27 : s24.1 a1 0 = w75_a1_0 := (hG24.1 _ _ a1k 0 (by decide)).trans w75_a1_0e
          have e28 : s24.1 a2 0 = w75_a2_0 := (hG24.1 _ _ a2k 0 (by decide)).trans w75_a2_0e
          refine ir_l (pc' := 101) rfl rfl rfl rfl rfl rfl ?_
          refine ir_s (pc' := 103) rfl rfl rfl rfl rfl rfl ?_
          refine ir_l (pc' := 105) rfl rfl rfl rfl rfl rfl ?_
          refine ir_s (pc' := 107) rfl rfl rfl rfl rfl rfl ?_
          refine ir_l (pc' := 109) rfl rfl rfl rfl rfl rfl ?_
          refine ir_s (pc' := 111) rfl rfl rfl rfl rfl rfl ?_
          refine ir_l (pc' := 113) rfl rfl rfl rfl rfl rfl ?_
          refine ir_s (pc' := 115) rfl rfl rfl rfl rfl rfl ?_
          refine ir_l (pc' := 117) rfl rfl rfl rfl rfl rfl ?_
          refine ir_cSI (pc' := 120) rfl rfl rfl rfl rfl rfl (Nat.le_of_ble_eq_true rfl) (sf_degreeOf2 L ys (d + 1) s24 hT24 q75_l5 q75_l5k ) (fun z29 s30 hr => ?_)
          obtain ⟨hT30, hG30, z29l, z29h⟩ := hr
          have hF30 := fr_trans hF24 hG30 (by decide)
          have e31 : s30.1 247 0 = ((w75_247_0 : Nat) : Int) := (hG30.1 _ _ tsk_14 0 (by decide)).trans e25
          have e32 : s30.1 247 1 = ((w75_247_1 : Nat) : Int) := (hG30.1 _ _ tsk_14 1 (by decide)).trans e26
          have e33 : s30.1 a1 0 = w75_a1_0 := (hG30.1 _ _ a1k 0 (by decide)).trans e27
          have e34 : s30.1 a2 0 = w75_a2_0 := (hG30.1 _ _ a2k 0 (by decide)).trans e28
          refine ir_s (pc' := 122) rfl rfl rfl rfl rfl rfl ?_
          refine ir_inc (pc' := 125) rfl rfl rfl rfl rfl (by omega) (by omega) ?_
          refine ir_goto (pc' := 75) rfl rfl ?_
          refine ir_w [(0, (2, ((247 : Nat) : Int))), (3, (1, x3)), (5, (2, ((q75_l6 : Nat) : Int))), (6, (2, ((q75_l5 : Nat) : Int))), (7, (0, q75_l8)), (8, (0, z29)), (9, (0, (q75_l9 + 1)))] ⟨rfl, rfl, rfl, rfl, rfl, rfl, rfl, trivial⟩ ?_
          exact ih75 q75_l6 q75_l6k q75_l5 q75_l5k (q75_l8) (by omega) (by omega) (z29) (by omega) (by omega) ((q75_l9 + 1)) (by omega) (by omega) s30 hT30 hF30 w75_247_0 w75_247_0k e31 w75_247_1 w75_247_1k e32 (w75_a1_0) (by omega) (by omega) e33 (w75_a2_0) (by omega) (by omega) e34 (by omega)
  have J15 : ∀ n : Nat, ∀ (q15_l5 : Nat) (q15_l5k : gK[q15_l5]? = some 6) (q15_l6 : Nat) (q15_l6k : gK[q15_l6]? = some 6) (q15_l7 : Int) (q15_l7l : 0 ≤ q15_l7) (q15_l7h : q15_l7 ≤ 9) (s_15 : im_S) (hT_15 : tI s_15) (hF_15 : fr [] s0 s_15) (w15_247_0 : Nat) (w15_247_0k : gK[w15_247_0]? = some 6) (w15_247_0e : s_15.1 247 0 = ((w15_247_0 : Nat) : Int)) (w15_247_1 : Nat) (w15_247_1k : gK[w15_247_1]? = some 6) (w15_247_1e : s_15.1 247 1 = ((w15_247_1 : Nat) : Int)), (9 + 1 - q15_l7) ≤ (n : Int) → ir gG rm_P L ys (d + 2) rm_p_X2_imageModulo (15, [(0, (2, ((247 : Nat) : Int))), (1, (2, ((a1 : Nat) : Int))), (2, (2, ((a2 : Nat) : Int))), (3, (1, x3)), (5, (2, ((q15_l5 : Nat) : Int))), (6, (2, ((q15_l6 : Nat) : Int))), (7, (0, q15_l7))], [], s_15) (fun r : im_Re => ∃ z, r.1 = some (0, z) ∧ (tI r.2 ∧ fr [] s0 r.2 ∧ 0 ≤ z ∧ z ≤ 8)) := by
    intro n
    induction n with
    | zero => intro q15_l5 q15_l5k q15_l6 q15_l6k q15_l7 q15_l7l q15_l7h s_15 hT_15 hF_15 w15_247_0 w15_247_0k w15_247_0e w15_247_1 w15_247_1k w15_247_1e hr; exfalso; omega
    | succ n ih15 =>
      intro q15_l5 q15_l5k q15_l6 q15_l6k q15_l7 q15_l7l q15_l7h s_15 hT_15 hF_15 w15_247_0 w15_247_0k w15_247_0e w15_247_1 w15_247_1k w15_247_1e hr
      refine ir_l (pc' := 17) rfl rfl rfl rfl rfl rfl ?_
      refine ir_k (pc' := 19) (v := (0, 8)) rfl rfl rfl (fun _ => rfl) ?_
      refine ir_c_gt (pt := 60) (pc' := 22) rfl rfl rfl (fun c35 => ?_) (fun c35 => ?_)
      · refine ir_l (pc' := 61) rfl rfl rfl rfl rfl rfl ?_
        refine ir_tgi (pc' := 64) rfl rfl rfl tf_4_0 a1k hT_15 (fun z36 z36e z36l z36h => ?_)
        refine ir_s (pc' := 66) rfl rfl rfl rfl rfl rfl ?_
        refine ir_l (pc' := 67) rfl rfl rfl rfl rfl rfl ?_
        refine ir_tgi (pc' := 70) rfl rfl rfl tf_4_0 a2k hT_15 (fun z37 z37e z37l z37h => ?_)
        refine ir_s (pc' := 72) rfl rfl rfl rfl rfl rfl ?_
        refine ir_k (pc' := 73) (v := (0, 0)) rfl rfl rfl (fun _ => rfl) ?_
        refine ir_s (pc' := 75) rfl rfl rfl rfl rfl rfl ?_
        refine ir_w [(0, (2, ((247 : Nat) : Int))), (3, (1, x3)), (5, (2, ((q15_l5 : Nat) : Int))), (6, (2, ((q15_l6 : Nat) : Int))), (7, (0, z36)), (8, (0, z37)), (9, (0, 0))] ⟨rfl, rfl, rfl, rfl, rfl, rfl, rfl, trivial⟩ ?_
        exact J75 _ q15_l5 q15_l5k q15_l6 q15_l6k (z36) (by omega) (by omega) (z37) (by omega) (by omega) (0) (by omega) (by omega) s_15 hT_15 hF_15 w15_247_0 w15_247_0k w15_247_0e w15_247_1 w15_247_1k w15_247_1e (z36) (by omega) (by omega) z36e (z37) (by omega) (by omega) z37e (Int.self_le_toNat _)
      · refine ir_l (pc' := 24) rfl rfl rfl rfl rfl rfl ?_
        refine ir_l (pc' := 26) rfl rfl rfl rfl rfl rfl ?_
        refine ir_l (pc' := 27) rfl rfl rfl rfl rfl rfl ?_
        refine ir_tgr (pc' := 30) rfl rfl rfl tf_4_1 a1k hT_15 (fun b38 b38e b38k => ?_)
        refine ir_l (pc' := 32) rfl rfl rfl rfl rfl rfl ?_
        refine ir_tla (pc' := 33) rfl rfl te_6 (by decide) b38k hT_15 (by omega) (by omega) (fun z39 z39e z39l z39h => ?_)
        clear z39e
        refine ir_l (pc' := 34) rfl rfl rfl rfl rfl rfl ?_
        refine ir_cSI (pc' := 37) rfl rfl rfl rfl rfl rfl (Nat.le_of_ble_eq_true rfl) (sf_fmJ L ys (d + 1) s_15 (z39) (by omega) (by omega) (x3) (by omega) (by omega)) (fun z40 s41 hr => ?_)
        obtain ⟨rfl, z40p0, z40p1⟩ := hr
        refine ir_tls (pc' := 38) rfl rfl te_6 q15_l5k hT_15 (by omega) (by omega) (by omega) (by omega) (fun s42 hT42 r42 o42 => ?_)
        have hF42 := fr_row hF_15 r42 o42
        have e43 : s42.1 247 0 = ((w15_247_0 : Nat) : Int) := by rw [r42]; exact w15_247_0e
        have e44 : s42.1 247 1 = ((w15_247_1 : Nat) : Int) := by rw [r42]; exact w15_247_1e
        have e45 : s42.1 a1 1 = ((b38 : Nat) : Int) := by rw [r42]; exact b38e
        refine ir_l (pc' := 40) rfl rfl rfl rfl rfl rfl ?_
        refine ir_l (pc' := 42) rfl rfl rfl rfl rfl rfl ?_
        refine ir_l (pc' := 43) rfl rfl rfl rfl rfl rfl ?_
        refine ir_tgr (pc' := 46) rfl rfl rfl tf_4_1 a2k hT42 (fun b46 b46e b46k => ?_)
        refine ir_l (pc' := 48) rfl rfl rfl rfl rfl rfl ?_
        refine ir_tla (pc' := 49) rfl rfl te_6 (by decide) b46k hT42 (by omega) (by omega) (fun z47 z47e z47l z47h => ?_)
        clear z47e
        refine ir_l (pc' := 50) rfl rfl rfl rfl rfl rfl ?_
        refine ir_cSI (pc' := 53) rfl rfl rfl rfl rfl rfl (Nat.le_of_ble_eq_true rfl) (sf_fmJ L ys (d + 1) s42 (z47) (by omega) (by omega) (x3) (by omega) (by omega)) (fun z48 s49 hr => ?_)
        obtain ⟨rfl, z48p0, z48p1⟩ := hr
        refine ir_tls (pc' := 54) rfl rfl te_6 q15_l6k hT42 (by omega) (by omega) (by omega) (by omega) (fun s50 hT50 r50 o50 => ?_)
        have hF50 := fr_row hF42 r50 o50
        have e51 : s50.1 247 0 = ((w15_247_0 : Nat) : Int) := by rw [r50]; exact e43
        have e52 : s50.1 247 1 = ((w15_247_1 : Nat) : Int) := by rw [r50]; exact e44
        have e53 : s50.1 a1 1 = ((b38 : Nat) : Int) := by rw [r50]; exact e45
        have e54 : s50.1 a2 1 = ((b46 : Nat) : Int) := by rw [r50]; exact b46e
        refine ir_inc (pc' := 57) rfl rfl rfl rfl rfl (by omega) (by omega) ?_
        refine ir_goto (pc' := 15) rfl rfl ?_
        refine ir_w [(0, (2, ((247 : Nat) : Int))), (1, (2, ((a1 : Nat) : Int))), (2, (2, ((a2 : Nat) : Int))), (3, (1, x3)), (5, (2, ((q15_l5 : Nat) : Int))), (6, (2, ((q15_l6 : Nat) : Int))), (7, (0, (q15_l7 + 1)))] ⟨rfl, rfl, rfl, rfl, rfl, rfl, rfl, trivial⟩ ?_
        exact ih15 q15_l5 q15_l5k q15_l6 q15_l6k ((q15_l7 + 1)) (by omega) (by omega) s50 hT50 hF50 w15_247_0 w15_247_0k e51 w15_247_1 w15_247_1k e52 (by omega)
  refine ir_l (pc' := 1) rfl rfl rfl rfl rfl rfl ?_
  refine ir_tgr (pc' := 4) rfl rfl rfl tf_14_0 tsk_14 hT0 (fun b55 b55e b55k => ?_)
  refine ir_s (pc' := 6) rfl rfl rfl rfl rfl rfl ?_
  refine ir_l (pc' := 7) rfl rfl rfl rfl rfl rfl ?_
  refine ir_tgr (pc' := 10) rfl rfl rfl tf_14_1 tsk_14 hT0 (fun b56 b56e b56k => ?_)
  refine ir_s (pc' := 12) rfl rfl rfl rfl rfl rfl ?_
  refine ir_k (pc' := 13) (v := (0, 0)) rfl rfl rfl (fun _ => rfl) ?_
  refine ir_s (pc' := 15) rfl rfl rfl rfl rfl rfl ?_
  refine ir_w [(0, (2, ((247 : Nat) : Int))), (1, (2, ((a1 : Nat) : Int))), (2, (2, ((a2 : Nat) : Int))), (3, (1, x3)), (5, (2, ((b55 : Nat) : Int))), (6, (2, ((b56 : Nat) : Int))), (7, (0, 0))] ⟨rfl, rfl, rfl, rfl, rfl, rfl, rfl, trivial⟩ ?_
  exact J15 _ b55 b55k b56 b56k (0) (by omega) (by omega) s0 hT0 hF0 b55 b55k b55e b56 b56k b56e (Int.self_le_toNat _)
