/-! WALKS OF THE REFERENCE'S METHODS, by program -/
theorem rf_lookR (L : Nat) (ys : Nat → Int32) (d : Nat) (s0 : im_S) (hT0 : uI s0)  : icV gG rm_P L ys (d + 3) 66 [(2, ((582 : Nat) : Int))] s0 (fun s => uI s ∧ ur [(0, 2), (0, 3), (0, 4)] s0 s ∧ s0.1 582 4 ≤ s.1 582 4 ∧ s0.1 582 2 ≤ s.1 582 2) := by
  refine ic_startM (M := rm_p_X10_look) om_X10_look (Nat.le_of_ble_eq_true rfl) ?_
  refine ir_w [(0, (2, ((582 : Nat) : Int)))] ⟨rfl, trivial⟩ ?_
  have hF0 := ur_refl [(0, 2), (0, 3), (0, 4)] s0
  have J26 : ∀ (s_26 : im_S) (hT_26 : uI s_26) (hF_26 : ur [(0, 2), (0, 3), (0, 4)] s0 s_26) (w26_582_1 : Int) (w26_582_1l : 0 ≤ w26_582_1) (w26_582_1h : w26_582_1 ≤ 400) (w26_582_1e : s_26.1 582 1 = w26_582_1) (w26_582_2 : Int) (w26_582_2l : 0 ≤ w26_582_2) (w26_582_2h : w26_582_2 ≤ 3) (w26_582_2e : s_26.1 582 2 = w26_582_2) (w26_582_4 : Int) (w26_582_4l : 0 ≤ w26_582_4) (w26_582_4h : w26_582_4 ≤ 400) (w26_582_4e : s_26.1 582 4 = w26_582_4) (i26_0 : s0.1 582 4 ≤ w26_582_4) (i26_1 : s0.1 582 2 ≤ w26_582_2), ir gG rm_P L ys (d + 2) rm_p_X10_look (26, [], [], s_26) (fun r : im_Re => r.1 = none ∧ (uI r.2 ∧ ur [(0, 2), (0, 3), (0, 4)] s0 r.2 ∧ s0.1 582 4 ≤ r.2.1 582 4 ∧ s0.1 582 2 ≤ r.2.1 582 2)) := by
    intro s_26 hT_26 hF_26 w26_582_1 w26_582_1l w26_582_1h w26_582_1e w26_582_2 w26_582_2l w26_582_2h w26_582_2e w26_582_4 w26_582_4l w26_582_4h w26_582_4e i26_0 i26_1
    exact ir_vret rfl rfl ⟨rfl, hT_26, hF_26, (by first | omega | (dsimp only; omega)), (by first | omega | (dsimp only; omega))⟩
  obtain ⟨z1, z1e, z1l, z1h⟩ := uI_i uf_0_1 usk_0 hT0
  obtain ⟨z2, z2e, z2l, z2h⟩ := uI_i uf_0_2 usk_0 hT0
  obtain ⟨z3, z3e, z3l, z3h⟩ := uI_i uf_0_4 usk_0 hT0
  refine ir_l (pc' := 1) rfl rfl rfl rfl rfl rfl ?_
  refine ir_cVI (pc' := 4) rfl rfl rfl rfl rfl (Nat.le_of_ble_eq_true rfl) oo_X10_peek (hG_at usk_0) (rf_peekR L ys (d + 1) s0 hT0  ) (fun z4 s5 hr => ?_)
  obtain ⟨hT5, hG5, z4l, z4h, p5_0, p5_1⟩ := hr
  have hF5 := ur_trans hF0 hG5 (by decide)
  have e6 : s5.1 582 1 = z1 := (hG5.1 _ _ usk_0 1 (by decide)).trans z1e
  have e7 : s5.1 582 2 = z2 := (hG5.1 _ _ usk_0 2 (by decide)).trans z2e
  obtain ⟨z8, z8e, z8l, z8h⟩ := uI_i uf_0_4 usk_0 hT5
  refine ir_s (pc' := 5) rfl rfl rfl rfl rfl rfl ?_
  refine ir_l (pc' := 6) rfl rfl rfl rfl rfl rfl ?_
  refine ir_k (pc' := 7) (v := (0, (-1))) rfl rfl rfl (fun _ => rfl) ?_
  refine ir_c_eq (pt := 26) (pc' := 10) rfl rfl rfl (fun c9 => ?_) (fun c9 => ?_)
  · refine ir_w [] trivial ?_
    exact J26 s5 hT5 hF5 (z1) (by omega) (by omega) e6 (z2) (by omega) (by omega) e7 (z8) (by omega) (by omega) z8e (by omega) (by omega)
  · refine ir_l (pc' := 11) rfl rfl rfl rfl rfl rfl ?_
    refine ir_cSI (pc' := 14) rfl rfl rfl rfl rfl rfl (Nat.le_of_ble_eq_true rfl) (rf_isTokenR L ys d s5 hT5 (z4) (by omega) (by omega) ) (fun z10 s11 hr => ?_)
    obtain ⟨hT11, hG11, z10l, z10h⟩ := hr
    have hF11 := ur_trans hF5 hG11 (by decide)
    have e12 : s11.1 582 1 = z1 := (hG11.1 _ _ usk_0 1 (by decide)).trans e6
    have e13 : s11.1 582 2 = z2 := (hG11.1 _ _ usk_0 2 (by decide)).trans e7
    have e14 : s11.1 582 4 = z8 := (hG11.1 _ _ usk_0 4 (by decide)).trans z8e
    refine ir_z_ne (pt := 26) (pc' := 17) rfl rfl rfl (fun c15 => ?_) (fun c15 => ?_)
    · refine ir_w [] trivial ?_
      exact J26 s11 hT11 hF11 (z1) (by omega) (by omega) e12 (z2) (by omega) (by omega) e13 (z8) (by omega) (by omega) e14 (by omega) (by omega)
    · refine ir_l (pc' := 18) rfl rfl rfl rfl rfl rfl ?_
      refine ir_k (pc' := 19) (v := (0, 1)) rfl rfl rfl (fun _ => rfl) ?_
      refine ir_l (pc' := 20) rfl rfl rfl rfl rfl rfl ?_
      refine ir_getI (pc' := 23) rfl rfl rfl (hG_at usk_0) rfl (by decide) (by decide) e14 (by omega) (by omega) ?_
      refine ir_cVV (pc' := 26) rfl rfl rfl rfl rfl (Nat.le_of_ble_eq_true rfl) oo_X10_fail (hG_at usk_0) (rf_failR L ys (d + 1) s11 hT11 (1) (by omega) (by omega) (z8) (by omega) (by omega) ) (fun s17 hr => ?_)
      obtain ⟨hT17, hG17, p17_0, p17_1⟩ := hr
      have hF17 := ur_trans hF11 hG17 (by decide)
      have e18 : s17.1 582 1 = z1 := (hG17.1 _ _ usk_0 1 (by decide)).trans e12
      have e19 : s17.1 582 4 = z8 := (hG17.1 _ _ usk_0 4 (by decide)).trans e14
      obtain ⟨z20, z20e, z20l, z20h⟩ := uI_i uf_0_2 usk_0 hT17
      refine ir_w [] trivial ?_
      exact J26 s17 hT17 hF17 (z1) (by omega) (by omega) e18 (z20) (by omega) (by omega) z20e (z8) (by omega) (by omega) e19 (by omega) (by omega)
theorem rf_goodR (L : Nat) (ys : Nat → Int32) (d : Nat) (s0 : im_S) (hT0 : uI s0)  : icI gG rm_P L ys 0 (d + 1) 45 [(2, ((582 : Nat) : Int))] s0 (fun z s => uI s ∧ ur [] s0 s ∧ 0 ≤ z ∧ z ≤ 1 ∧ ((z = 0 ∧ 1 ≤ s.1 582 2) ∨ (z = 1 ∧ s.1 582 2 = 0))) := by
  refine ic_startM (M := rm_p_X10_good) om_X10_good (Nat.le_of_ble_eq_true rfl) ?_
  refine ir_w [(0, (2, ((582 : Nat) : Int)))] ⟨rfl, trivial⟩ ?_
  have hF0 := ur_refl [] s0
  have J12 : ∀ (q12_s0 : Int) (q12_s0l : 0 ≤ q12_s0) (q12_s0h : q12_s0 ≤ 1) (s_12 : im_S) (hT_12 : uI s_12) (hF_12 : ur [] s0 s_12) (w12_582_2 : Int) (w12_582_2l : 0 ≤ w12_582_2) (w12_582_2h : w12_582_2 ≤ 3) (w12_582_2e : s_12.1 582 2 = w12_582_2) (i12_0 : ((q12_s0 = 0 ∧ 1 ≤ w12_582_2) ∨ (q12_s0 = 1 ∧ w12_582_2 = 0))), ir gG rm_P L ys d rm_p_X10_good (12, [], [(0, q12_s0)], s_12) (fun r : im_Re => ∃ z, r.1 = some (0, z) ∧ (uI r.2 ∧ ur [] s0 r.2 ∧ 0 ≤ z ∧ z ≤ 1 ∧ ((z = 0 ∧ 1 ≤ r.2.1 582 2) ∨ (z = 1 ∧ r.2.1 582 2 = 0)))) := by
    intro q12_s0 q12_s0l q12_s0h s_12 hT_12 hF_12 w12_582_2 w12_582_2l w12_582_2h w12_582_2e i12_0
    exact ir_zret rfl rfl (by omega) ⟨_, rfl, hT_12, hF_12, by omega, by omega, (by first | omega | (dsimp only; omega))⟩
  refine ir_l (pc' := 1) rfl rfl rfl rfl rfl rfl ?_
  refine ir_ugi (pc' := 4) rfl rfl rfl uf_0_2 usk_0 hT0 (fun z1 z1e z1l z1h => ?_)
  refine ir_z_ne (pt := 11) (pc' := 7) rfl rfl rfl (fun c2 => ?_) (fun c2 => ?_)
  · refine ir_k (pc' := 12) (v := (0, 0)) rfl rfl rfl (fun _ => rfl) ?_
    refine ir_w [] trivial ?_
    exact J12 (0) (by omega) (by omega) s0 hT0 hF0 (z1) (by omega) (by omega) z1e (by omega)
  · refine ir_k (pc' := 8) (v := (0, 1)) rfl rfl rfl (fun _ => rfl) ?_
    refine ir_goto (pc' := 12) rfl rfl ?_
    refine ir_w [] trivial ?_
    exact J12 (1) (by omega) (by omega) s0 hT0 hF0 (z1) (by omega) (by omega) z1e (by omega)
theorem rf_numberR (L : Nat) (ys : Nat → Int32) (d : Nat) (s0 : im_S) (hT0 : uI s0)  : icI gG rm_P L ys 0 (d + 2) 73 [(2, ((582 : Nat) : Int))] s0 (fun z s => uI s ∧ ur [(0, 2), (0, 3), (0, 4)] s0 s ∧ -2147483648 ≤ z ∧ z ≤ 2147483647 ∧ s0.1 582 4 ≤ s.1 582 4 ∧ s0.1 582 2 ≤ s.1 582 2) := by
  refine ic_startM (M := rm_p_X10_number) om_X10_number (Nat.le_of_ble_eq_true rfl) ?_
  refine ir_w [(0, (2, ((582 : Nat) : Int)))] ⟨rfl, trivial⟩ ?_
  have hF0 := ur_refl [(0, 2), (0, 3), (0, 4)] s0
  have J89 : ∀ (q89_l1 : Int) (q89_l1l : -2147483648 ≤ q89_l1) (q89_l1h : q89_l1 ≤ 2147483647) (s_89 : im_S) (hT_89 : uI s_89) (hF_89 : ur [(0, 2), (0, 3), (0, 4)] s0 s_89) (w89_582_1 : Int) (w89_582_1l : 0 ≤ w89_582_1) (w89_582_1h : w89_582_1 ≤ 400) (w89_582_1e : s_89.1 582 1 = w89_582_1) (w89_582_2 : Int) (w89_582_2l : 0 ≤ w89_582_2) (w89_582_2h : w89_582_2 ≤ 3) (w89_582_2e : s_89.1 582 2 = w89_582_2) (w89_582_4 : Int) (w89_582_4l : 0 ≤ w89_582_4) (w89_582_4h : w89_582_4 ≤ 400) (w89_582_4e : s_89.1 582 4 = w89_582_4) (i89_0 : s0.1 582 4 ≤ w89_582_4) (i89_1 : s0.1 582 2 ≤ w89_582_2), ir gG rm_P L ys (d + 1) rm_p_X10_number (89, [(1, (0, q89_l1))], [], s_89) (fun r : im_Re => ∃ z, r.1 = some (0, z) ∧ (uI r.2 ∧ ur [(0, 2), (0, 3), (0, 4)] s0 r.2 ∧ -2147483648 ≤ z ∧ z ≤ 2147483647 ∧ s0.1 582 4 ≤ r.2.1 582 4 ∧ s0.1 582 2 ≤ r.2.1 582 2)) := by
    intro q89_l1 q89_l1l q89_l1h s_89 hT_89 hF_89 w89_582_1 w89_582_1l w89_582_1h w89_582_1e w89_582_2 w89_582_2l w89_582_2h w89_582_2e w89_582_4 w89_582_4l w89_582_4h w89_582_4e i89_0 i89_1
    refine ir_l (pc' := 90) rfl rfl rfl rfl rfl rfl ?_
    exact ir_iret rfl rfl ⟨_, rfl, hT_89, hF_89, by omega, by omega, (by first | omega | (dsimp only; omega)), (by first | omega | (dsimp only; omega))⟩
  have J4 : ∀ n : Nat, ∀ (q4_l1 : Int) (q4_l1l : -2147483648 ≤ q4_l1) (q4_l1h : q4_l1 ≤ 2147483647) (q4_l2 : Int) (q4_l2l : 0 ≤ q4_l2) (q4_l2h : q4_l2 ≤ 8) (s_4 : im_S) (hT_4 : uI s_4) (hF_4 : ur [(0, 2), (0, 3), (0, 4)] s0 s_4) (w4_582_1 : Int) (w4_582_1l : 0 ≤ w4_582_1) (w4_582_1h : w4_582_1 ≤ 400) (w4_582_1e : s_4.1 582 1 = w4_582_1) (w4_582_2 : Int) (w4_582_2l : 0 ≤ w4_582_2) (w4_582_2h : w4_582_2 ≤ 3) (w4_582_2e : s_4.1 582 2 = w4_582_2) (w4_582_4 : Int) (w4_582_4l : 0 ≤ w4_582_4) (w4_582_4h : w4_582_4 ≤ 400) (w4_582_4e : s_4.1 582 4 = w4_582_4) (i4_0 : (q4_l2 ≤ 6 ∨ 1 ≤ w4_582_2)) (i4_1 : s0.1 582 4 ≤ w4_582_4) (i4_2 : s0.1 582 2 ≤ w4_582_2), ((401 - w4_582_4) + (3 - w4_582_2) + 1) ≤ (n : Int) → ir gG rm_P L ys (d + 1) rm_p_X10_number (4, [(0, (2, ((582 : Nat) : Int))), (1, (0, q4_l1)), (2, (0, q4_l2))], [], s_4) (fun r : im_Re => ∃ z, r.1 = some (0, z) ∧ (uI r.2 ∧ ur [(0, 2), (0, 3), (0, 4)] s0 r.2 ∧ -2147483648 ≤ z ∧ z ≤ 2147483647 ∧ s0.1 582 4 ≤ r.2.1 582 4 ∧ s0.1 582 2 ≤ r.2.1 582 2)) := by
    intro n
    induction n with
    | zero => intro q4_l1 q4_l1l q4_l1h q4_l2 q4_l2l q4_l2h s_4 hT_4 hF_4 w4_582_1 w4_582_1l w4_582_1h w4_582_1e w4_582_2 w4_582_2l w4_582_2h w4_582_2e w4_582_4 w4_582_4l w4_582_4h w4_582_4e i4_0 i4_1 i4_2 hr; exfalso; omega
    | succ n ih4 =>
      intro q4_l1 q4_l1l q4_l1h q4_l2 q4_l2l q4_l2h s_4 hT_4 hF_4 w4_582_1 w4_582_1l w4_582_1h w4_582_1e w4_582_2 w4_582_2l w4_582_2h w4_582_2e w4_582_4 w4_582_4l w4_582_4h w4_582_4e i4_0 i4_1 i4_2 hr
      refine ir_l (pc' := 5) rfl rfl rfl rfl rfl rfl ?_
      refine ir_getI (pc' := 8) rfl rfl rfl (hG_at usk_0) rfl (by decide) (by decide) w4_582_4e (by omega) (by omega) ?_
      refine ir_l (pc' := 9) rfl rfl rfl rfl rfl rfl ?_
      refine ir_getI (pc' := 12) rfl rfl rfl (hG_at usk_0) rfl (by decide) (by decide) w4_582_1e (by omega) (by omega) ?_
      refine ir_c_ge (pt := 89) (pc' := 15) rfl rfl rfl (fun c1 => ?_) (fun c1 => ?_)
      · refine ir_w [(1, (0, q4_l1))] ⟨rfl, trivial⟩ ?_
        exact J89 (q4_l1) (by omega) (by omega) s_4 hT_4 hF_4 (w4_582_1) (by omega) (by omega) w4_582_1e (w4_582_2) (by omega) (by omega) w4_582_2e (w4_582_4) (by omega) (by omega) w4_582_4e (by omega) (by omega)
      · refine ir_l (pc' := 16) rfl rfl rfl rfl rfl rfl ?_
        refine ir_ugr (pc' := 19) rfl rfl rfl uf_0_0 usk_0 hT_4 (fun b2 b2e b2k => ?_)
        obtain rfl := usg_1 b2k
        refine ir_l (pc' := 20) rfl rfl rfl rfl rfl rfl ?_
        refine ir_getI (pc' := 23) rfl rfl rfl (hG_at usk_0) rfl (by decide) (by decide) w4_582_4e (by omega) (by omega) ?_
        refine ir_uia (pc' := 24) rfl rfl ue_1 (by decide) usk_1 hT_4 (by omega) (by omega) (fun z3 z3e z3l z3h => ?_)
        clear z3e
        refine ir_cSI (pc' := 27) rfl rfl rfl rfl rfl rfl (Nat.le_of_ble_eq_true rfl) (rf_isDigitR L ys d s_4 hT_4 (z3) (by omega) (by omega) ) (fun z4 s5 hr => ?_)
        obtain ⟨hT5, hG5, z4l, z4h⟩ := hr
        have hF5 := ur_trans hF_4 hG5 (by decide)
        have e6 : s5.1 582 1 = w4_582_1 := (hG5.1 _ _ usk_0 1 (by decide)).trans w4_582_1e
        have e7 : s5.1 582 2 = w4_582_2 := (hG5.1 _ _ usk_0 2 (by decide)).trans w4_582_2e
        have e8 : s5.1 582 4 = w4_582_4 := (hG5.1 _ _ usk_0 4 (by decide)).trans w4_582_4e
        have e9 : s5.1 582 0 = ((583 : Nat) : Int) := (hG5.1 _ _ usk_0 0 (by decide)).trans b2e
        refine ir_z_eq (pt := 89) (pc' := 30) rfl rfl rfl (fun c10 => ?_) (fun c10 => ?_)
        · refine ir_w [(1, (0, q4_l1))] ⟨rfl, trivial⟩ ?_
          exact J89 (q4_l1) (by omega) (by omega) s5 hT5 hF5 (w4_582_1) (by omega) (by omega) e6 (w4_582_2) (by omega) (by omega) e7 (w4_582_4) (by omega) (by omega) e8 (by omega) (by omega)
        · refine ir_l (pc' := 31) rfl rfl rfl rfl rfl rfl ?_
          refine ir_cVI (pc' := 34) rfl rfl rfl rfl rfl (Nat.le_of_ble_eq_true rfl) oo_X10_good (hG_at usk_0) (rf_goodR L ys d s5 hT5  ) (fun z11 s12 hr => ?_)
          obtain ⟨hT12, hG12, z11l, z11h, p12_0⟩ := hr
          have hF12 := ur_trans hF5 hG12 (by decide)
          have e13 : s12.1 582 1 = w4_582_1 := (hG12.1 _ _ usk_0 1 (by decide)).trans e6
          have e14 : s12.1 582 2 = w4_582_2 := (hG12.1 _ _ usk_0 2 (by decide)).trans e7
          have e15 : s12.1 582 4 = w4_582_4 := (hG12.1 _ _ usk_0 4 (by decide)).trans e8
          have e16 : s12.1 582 0 = ((583 : Nat) : Int) := (hG12.1 _ _ usk_0 0 (by decide)).trans e9
          refine ir_z_eq (pt := 89) (pc' := 37) rfl rfl rfl (fun c17 => ?_) (fun c17 => ?_)
          · refine ir_w [(1, (0, q4_l1))] ⟨rfl, trivial⟩ ?_
            exact J89 (q4_l1) (by omega) (by omega) s12 hT12 hF12 (w4_582_1) (by omega) (by omega) e13 (w4_582_2) (by omega) (by omega) e14 (w4_582_4) (by omega) (by omega) e15 (by omega) (by omega)
          · refine ir_inc (pc' := 40) rfl rfl rfl rfl rfl (by omega) (by omega) ?_
            refine ir_l (pc' := 41) rfl rfl rfl rfl rfl rfl ?_
            refine ir_k (pc' := 43) (v := (0, 7)) rfl rfl rfl (fun _ => rfl) ?_
            refine ir_c_ne (pt := 58) (pc' := 46) rfl rfl rfl (fun c18 => ?_) (fun c18 => ?_)
            · refine ir_k (pc' := 60) (v := (0, 10)) rfl rfl rfl (fun _ => rfl) ?_
              refine ir_l (pc' := 61) rfl rfl rfl rfl rfl rfl ?_
              refine ir_iiA (pc' := 62) rfl rfl rfl rfl (fun z19 z19l z19h => ?_)
              refine ir_l (pc' := 63) rfl rfl rfl rfl rfl rfl ?_
              refine ir_getR (pc' := 66) rfl rfl rfl (hG_at usk_0) rfl e16 ?_
              refine ir_l (pc' := 67) rfl rfl rfl rfl rfl rfl ?_
              refine ir_getI (pc' := 70) rfl rfl rfl (hG_at usk_0) rfl (by decide) (by decide) e15 (by omega) (by omega) ?_
              refine ir_uia (pc' := 71) rfl rfl ue_1 (by decide) usk_1 hT12 (by omega) (by omega) (fun z20 z20e z20l z20h => ?_)
              clear z20e
              refine ir_iiA (pc' := 72) rfl rfl rfl rfl (fun z21 z21l z21h => ?_)
              refine ir_k (pc' := 74) (v := (0, 48)) rfl rfl rfl (fun _ => rfl) ?_
              refine ir_iiA (pc' := 75) rfl rfl rfl rfl (fun z22 z22l z22h => ?_)
              refine ir_s (pc' := 76) rfl rfl rfl rfl rfl rfl ?_
              refine ir_l (pc' := 77) rfl rfl rfl rfl rfl rfl ?_
              refine ir_x (pc' := 78) rfl rfl rfl (fun _ => rfl) ?_
              refine ir_getI (pc' := 81) rfl rfl rfl (hG_at usk_0) rfl (by decide) (by decide) e15 (by omega) (by omega) ?_
              refine ir_k (pc' := 82) (v := (0, 1)) rfl rfl rfl (fun _ => rfl) ?_
              refine ir_add (pc' := 83) rfl rfl (by omega) (by omega) ?_
              refine ir_upi (pc' := 86) rfl rfl rfl uf_0_4 rfl usk_0 hT12 rfl (by omega) (by omega) (fun s23 hT23 e23 g23 r23 => ?_)
              have hF23 := ur_put (k := 0) hF12 (by decide) usk_0 g23 r23
              have e24 : s23.1 582 1 = w4_582_1 := (g23 582 1 (fun z => absurd z.2 (by decide))).trans e13
              have e25 : s23.1 582 2 = w4_582_2 := (g23 582 2 (fun z => absurd z.2 (by decide))).trans e14
              have e26 : s23.1 582 0 = ((583 : Nat) : Int) := (g23 582 0 (fun z => absurd z.2 (by decide))).trans e16
              refine ir_goto (pc' := 4) rfl rfl ?_
              refine ir_w [(0, (2, ((582 : Nat) : Int))), (1, (0, z22)), (2, (0, (q4_l2 + 1)))] ⟨rfl, rfl, rfl, trivial⟩ ?_
              exact ih4 (z22) (by omega) (by omega) ((q4_l2 + 1)) (by omega) (by omega) s23 hT23 hF23 (w4_582_1) (by omega) (by omega) e24 (w4_582_2) (by omega) (by omega) e25 ((w4_582_4 + 1)) (by omega) (by omega) e23 (by omega) (by omega) (by omega) (by omega)
            · refine ir_l (pc' := 47) rfl rfl rfl rfl rfl rfl ?_
              refine ir_k (pc' := 48) (v := (0, 1)) rfl rfl rfl (fun _ => rfl) ?_
              refine ir_l (pc' := 49) rfl rfl rfl rfl rfl rfl ?_
              refine ir_getI (pc' := 52) rfl rfl rfl (hG_at usk_0) rfl (by decide) (by decide) e15 (by omega) (by omega) ?_
              refine ir_cVV (pc' := 55) rfl rfl rfl rfl rfl (Nat.le_of_ble_eq_true rfl) oo_X10_fail (hG_at usk_0) (rf_failR L ys d s12 hT12 (1) (by omega) (by omega) (w4_582_4) (by omega) (by omega) ) (fun s28 hr => ?_)
              obtain ⟨hT28, hG28, p28_0, p28_1⟩ := hr
              have hF28 := ur_trans hF12 hG28 (by decide)
              have e29 : s28.1 582 1 = w4_582_1 := (hG28.1 _ _ usk_0 1 (by decide)).trans e13
              have e30 : s28.1 582 4 = w4_582_4 := (hG28.1 _ _ usk_0 4 (by decide)).trans e15
              have e31 : s28.1 582 0 = ((583 : Nat) : Int) := (hG28.1 _ _ usk_0 0 (by decide)).trans e16
              obtain ⟨z32, z32e, z32l, z32h⟩ := uI_i uf_0_2 usk_0 hT28
              refine ir_goto (pc' := 4) rfl rfl ?_
              refine ir_w [(0, (2, ((582 : Nat) : Int))), (1, (0, q4_l1)), (2, (0, (q4_l2 + 1)))] ⟨rfl, rfl, rfl, trivial⟩ ?_
              exact ih4 (q4_l1) (by omega) (by omega) ((q4_l2 + 1)) (by omega) (by omega) s28 hT28 hF28 (w4_582_1) (by omega) (by omega) e29 (z32) (by omega) (by omega) z32e (w4_582_4) (by omega) (by omega) e30 (by omega) (by omega) (by omega) (by omega)
  obtain ⟨z33, z33e, z33l, z33h⟩ := uI_i uf_0_1 usk_0 hT0
  obtain ⟨z34, z34e, z34l, z34h⟩ := uI_i uf_0_2 usk_0 hT0
  obtain ⟨z35, z35e, z35l, z35h⟩ := uI_i uf_0_4 usk_0 hT0
  refine ir_k (pc' := 1) (v := (0, 0)) rfl rfl rfl (fun _ => rfl) ?_
  refine ir_s (pc' := 2) rfl rfl rfl rfl rfl rfl ?_
  refine ir_k (pc' := 3) (v := (0, 0)) rfl rfl rfl (fun _ => rfl) ?_
  refine ir_s (pc' := 4) rfl rfl rfl rfl rfl rfl ?_
  refine ir_w [(0, (2, ((582 : Nat) : Int))), (1, (0, 0)), (2, (0, 0))] ⟨rfl, rfl, rfl, trivial⟩ ?_
  exact J4 _ (0) (by omega) (by omega) (0) (by omega) (by omega) s0 hT0 hF0 (z33) (by omega) (by omega) z33e (z34) (by omega) (by omega) z34e (z35) (by omega) (by omega) z35e (by omega) (by omega) (by omega) (Int.self_le_toNat _)
theorem rf_isFineR (L : Nat) (ys : Nat → Int32) (d : Nat) (s0 : im_S) (hT0 : uI s0) (x1 : Int) (x1l : -9223372036854775808 ≤ x1) (x1h : x1 ≤ 9223372036854775807) : icI gG rm_P L ys 0 (d + 1) 53 [(2, ((582 : Nat) : Int)), (1, x1)] s0 (fun z s => uI s ∧ ur [] s0 s ∧ 0 ≤ z ∧ z ≤ 1) := by
  refine ic_startM (M := rm_p_X10_isFine) om_X10_isFine (Nat.le_of_ble_eq_true rfl) ?_
  refine ir_w [(0, (2, ((582 : Nat) : Int))), (1, (1, x1))] ⟨rfl, rfl, trivial⟩ ?_
  have hF0 := ur_refl [] s0
  have J21 : ∀ (q21_s0 : Int) (q21_s0l : 0 ≤ q21_s0) (q21_s0h : q21_s0 ≤ 1) (s_21 : im_S) (hT_21 : uI s_21) (hF_21 : ur [] s0 s_21), ir gG rm_P L ys d rm_p_X10_isFine (21, [], [(0, q21_s0)], s_21) (fun r : im_Re => ∃ z, r.1 = some (0, z) ∧ (uI r.2 ∧ ur [] s0 r.2 ∧ 0 ≤ z ∧ z ≤ 1)) := by
    intro q21_s0 q21_s0l q21_s0h s_21 hT_21 hF_21
    exact ir_zret rfl rfl (by omega) ⟨_, rfl, hT_21, hF_21, by omega, by omega⟩
  have J20 : ∀ (s_20 : im_S) (hT_20 : uI s_20) (hF_20 : ur [] s0 s_20), ir gG rm_P L ys d rm_p_X10_isFine (20, [], [], s_20) (fun r : im_Re => ∃ z, r.1 = some (0, z) ∧ (uI r.2 ∧ ur [] s0 r.2 ∧ 0 ≤ z ∧ z ≤ 1)) := by
    intro s_20 hT_20 hF_20
    refine ir_k (pc' := 21) (v := (0, 0)) rfl rfl rfl (fun _ => rfl) ?_
    refine ir_w [] trivial ?_
    exact J21 (0) (by omega) (by omega) s_20 hT_20 hF_20
  refine ir_l (pc' := 1) rfl rfl rfl rfl rfl rfl ?_
  refine ir_k (pc' := 4) (v := (1, (-1000000000))) rfl rfl rfl (fun _ => rfl) ?_
  refine ir_lcmp (pc' := 5) rfl rfl (by omega) (by omega) (by omega) (by omega) (fun z1 z1c => ?_)
  refine ir_z_lt (pt := 20) (pc' := 8) rfl rfl rfl (fun c2 => ?_) (fun c2 => ?_)
  · refine ir_w [] trivial ?_
    exact J20 s0 hT0 hF0
  · refine ir_l (pc' := 9) rfl rfl rfl rfl rfl rfl ?_
    refine ir_k (pc' := 12) (v := (1, 1000000000)) rfl rfl rfl (fun _ => rfl) ?_
    refine ir_lcmp (pc' := 13) rfl rfl (by omega) (by omega) (by omega) (by omega) (fun z3 z3c => ?_)
    refine ir_z_gt (pt := 20) (pc' := 16) rfl rfl rfl (fun c4 => ?_) (fun c4 => ?_)
    · refine ir_w [] trivial ?_
      exact J20 s0 hT0 hF0
    · refine ir_k (pc' := 17) (v := (0, 1)) rfl rfl rfl (fun _ => rfl) ?_
      refine ir_goto (pc' := 21) rfl rfl ?_
      refine ir_w [] trivial ?_
      exact J21 (1) (by omega) (by omega) s0 hT0 hF0
theorem rf_multiplyR (L : Nat) (ys : Nat → Int32) (d : Nat) (s0 : im_S) (hT0 : uI s0) (x1 : Int) (x1l : -2 ≤ x1) (x1h : x1 ≤ 400) : icV gG rm_P L ys (d + 2) 71 [(2, ((582 : Nat) : Int)), (0, x1)] s0 (fun s => uI s ∧ ur [(0, 2), (0, 3), (8, 1000), (10, 1000)] s0 s ∧ s0.1 582 2 ≤ s.1 582 2) := by
  refine ic_startM (M := rm_p_X10_multiply) om_X10_multiply (Nat.le_of_ble_eq_true rfl) ?_
  refine ir_w [(0, (2, ((582 : Nat) : Int))), (1, (0, x1))] ⟨rfl, rfl, trivial⟩ ?_
  have hF0 := ur_refl [(0, 2), (0, 3), (8, 1000), (10, 1000)] s0
  have J202 : ∀ (s_202 : im_S) (hT_202 : uI s_202) (hF_202 : ur [(0, 2), (0, 3), (8, 1000), (10, 1000)] s0 s_202) (w202_582_2 : Int) (w202_582_2l : 0 ≤ w202_582_2) (w202_582_2h : w202_582_2 ≤ 3) (w202_582_2e : s_202.1 582 2 = w202_582_2) (i202_0 : s0.1 582 2 ≤ w202_582_2), ir gG rm_P L ys (d + 1) rm_p_X10_multiply (202, [], [], s_202) (fun r : im_Re => r.1 = none ∧ (uI r.2 ∧ ur [(0, 2), (0, 3), (8, 1000), (10, 1000)] s0 r.2 ∧ s0.1 582 2 ≤ r.2.1 582 2)) := by
    intro s_202 hT_202 hF_202 w202_582_2 w202_582_2l w202_582_2h w202_582_2e i202_0
    exact ir_vret rfl rfl ⟨rfl, hT_202, hF_202, (by first | omega | (dsimp only; omega))⟩
  have J144 : ∀ n : Nat, ∀ (q144_l2 : Int) (q144_l2l : 0 ≤ q144_l2) (q144_l2h : q144_l2 ≤ 9) (s_144 : im_S) (hT_144 : uI s_144) (hF_144 : ur [(0, 2), (0, 3), (8, 1000), (10, 1000)] s0 s_144) (w144_582_2 : Int) (w144_582_2l : 0 ≤ w144_582_2) (w144_582_2h : w144_582_2 ≤ 3) (w144_582_2e : s_144.1 582 2 = w144_582_2) (i144_0 : s0.1 582 2 ≤ w144_582_2), (9 + 1 - q144_l2) ≤ (n : Int) → ir gG rm_P L ys (d + 1) rm_p_X10_multiply (144, [(0, (2, ((582 : Nat) : Int))), (1, (0, x1)), (2, (0, q144_l2))], [], s_144) (fun r : im_Re => r.1 = none ∧ (uI r.2 ∧ ur [(0, 2), (0, 3), (8, 1000), (10, 1000)] s0 r.2 ∧ s0.1 582 2 ≤ r.2.1 582 2)) := by
    intro n
    induction n with
    | zero => intro q144_l2 q144_l2l q144_l2h s_144 hT_144 hF_144 w144_582_2 w144_582_2l w144_582_2h w144_582_2e i144_0 hr; exfalso; omega
    | succ n ih144 =>
      intro q144_l2 q144_l2l q144_l2h s_144 hT_144 hF_144 w144_582_2 w144_582_2l w144_582_2h w144_582_2e i144_0 hr
      have J176 : ∀ (f176_2h : q144_l2 ≤ 8) (s_176 : im_S) (hT_176 : uI s_176) (hF_176 : ur [(0, 2), (0, 3), (8, 1000), (10, 1000)] s0 s_176) (w176_582_2 : Int) (w176_582_2l : 0 ≤ w176_582_2) (w176_582_2h : w176_582_2 ≤ 3) (w176_582_2e : s_176.1 582 2 = w176_582_2) (w176_582_17e : s_176.1 582 17 = ((592 : Nat) : Int)) (i176_0 : s0.1 582 2 ≤ w176_582_2), ir gG rm_P L ys (d + 1) rm_p_X10_multiply (176, [(0, (2, ((582 : Nat) : Int))), (1, (0, x1)), (2, (0, q144_l2))], [], s_176) (fun r : im_Re => r.1 = none ∧ (uI r.2 ∧ ur [(0, 2), (0, 3), (8, 1000), (10, 1000)] s0 r.2 ∧ s0.1 582 2 ≤ r.2.1 582 2)) := by
        intro f176_2h s_176 hT_176 hF_176 w176_582_2 w176_582_2l w176_582_2h w176_582_2e w176_582_17e i176_0
        refine ir_l (pc' := 177) rfl rfl rfl rfl rfl rfl ?_
        refine ir_ugr (pc' := 180) rfl rfl rfl uf_0_15 usk_0 hT_176 (fun b1 b1e b1k => ?_)
        obtain rfl := usg_8 b1k
        refine ir_k (pc' := 182) (v := (0, 9)) rfl rfl rfl (fun _ => rfl) ?_
        refine ir_l (pc' := 183) rfl rfl rfl rfl rfl rfl ?_
        refine ir_ugi (pc' := 186) rfl rfl rfl uf_0_21 usk_0 hT_176 (fun z2 z2e z2l z2h => ?_)
        refine ir_mul (pc' := 187) rfl rfl (by omega) (by omega) ?_
        refine ir_l (pc' := 188) rfl rfl rfl rfl rfl rfl ?_
        refine ir_add (pc' := 189) rfl rfl (by omega) (by omega) ?_
        refine ir_l (pc' := 190) rfl rfl rfl rfl rfl rfl ?_
        refine ir_getR (pc' := 193) rfl rfl rfl (hG_at usk_0) rfl w176_582_17e ?_
        refine ir_l (pc' := 194) rfl rfl rfl rfl rfl rfl ?_
        refine ir_ula (pc' := 195) rfl rfl ue_10 (by decide) usk_10 hT_176 (by omega) (by omega) (fun z3 z3e z3l z3h => ?_)
        clear z3e
        refine ir_uls (pc' := 196) rfl rfl ue_8 usk_8 hT_176 (by omega) (by omega) (by omega) (by omega) (fun s4 hT4 r4 o4 => ?_)
        have hF4 := ur_row (k := 8) hF_176 (by decide) usk_8 r4 o4
        have e5 : s4.1 582 17 = ((592 : Nat) : Int) := by rw [r4]; exact w176_582_17e
        have e6 : s4.1 582 2 = w176_582_2 := by rw [r4]; exact w176_582_2e
        have e7 : s4.1 582 15 = ((590 : Nat) : Int) := by rw [r4]; exact b1e
        have e8 : s4.1 582 21 = z2 := by rw [r4]; exact z2e
        refine ir_inc (pc' := 199) rfl rfl rfl rfl rfl (by omega) (by omega) ?_
        refine ir_goto (pc' := 144) rfl rfl ?_
        refine ir_w [(0, (2, ((582 : Nat) : Int))), (1, (0, x1)), (2, (0, (q144_l2 + 1)))] ⟨rfl, rfl, rfl, trivial⟩ ?_
        exact ih144 ((q144_l2 + 1)) (by omega) (by omega) s4 hT4 hF4 (w176_582_2) (by omega) (by omega) e6 (by omega) (by omega)
      refine ir_l (pc' := 145) rfl rfl rfl rfl rfl rfl ?_
      refine ir_k (pc' := 147) (v := (0, 9)) rfl rfl rfl (fun _ => rfl) ?_
      refine ir_c_ge (pt := 202) (pc' := 150) rfl rfl rfl (fun c9 => ?_) (fun c9 => ?_)
      · refine ir_w [] trivial ?_
        exact J202 s_144 hT_144 hF_144 (w144_582_2) (by omega) (by omega) w144_582_2e (by omega)
      · refine ir_l (pc' := 151) rfl rfl rfl rfl rfl rfl ?_
        refine ir_cVI (pc' := 154) rfl rfl rfl rfl rfl (Nat.le_of_ble_eq_true rfl) oo_X10_good (hG_at usk_0) (rf_goodR L ys d s_144 hT_144  ) (fun z10 s11 hr => ?_)
        obtain ⟨hT11, hG11, z10l, z10h, p11_0⟩ := hr
        have hF11 := ur_trans hF_144 hG11 (by decide)
        have e12 : s11.1 582 2 = w144_582_2 := (hG11.1 _ _ usk_0 2 (by decide)).trans w144_582_2e
        refine ir_z_eq (pt := 202) (pc' := 157) rfl rfl rfl (fun c13 => ?_) (fun c13 => ?_)
        · refine ir_w [] trivial ?_
          exact J202 s11 hT11 hF11 (w144_582_2) (by omega) (by omega) e12 (by omega)
        · refine ir_l (pc' := 158) rfl rfl rfl rfl rfl rfl ?_
          refine ir_l (pc' := 159) rfl rfl rfl rfl rfl rfl ?_
          refine ir_ugr (pc' := 162) rfl rfl rfl uf_0_17 usk_0 hT11 (fun b14 b14e b14k => ?_)
          obtain rfl := usg_10 b14k
          refine ir_l (pc' := 163) rfl rfl rfl rfl rfl rfl ?_
          refine ir_ula (pc' := 164) rfl rfl ue_10 (by decide) usk_10 hT11 (by omega) (by omega) (fun z15 z15e z15l z15h => ?_)
          clear z15e
          refine ir_cVI (pc' := 167) rfl rfl rfl rfl rfl (Nat.le_of_ble_eq_true rfl) oo_X10_isFine (hG_at usk_0) (rf_isFineR L ys d s11 hT11 (z15) (by omega) (by omega) ) (fun z16 s17 hr => ?_)
          obtain ⟨hT17, hG17, z16l, z16h⟩ := hr
          have hF17 := ur_trans hF11 hG17 (by decide)
          have e18 : s17.1 582 2 = w144_582_2 := (hG17.1 _ _ usk_0 2 (by decide)).trans e12
          have e19 : s17.1 582 17 = ((592 : Nat) : Int) := (hG17.1 _ _ usk_0 17 (by decide)).trans b14e
          refine ir_z_ne (pt := 176) (pc' := 170) rfl rfl rfl (fun c20 => ?_) (fun c20 => ?_)
          · refine ir_w [(0, (2, ((582 : Nat) : Int))), (1, (0, x1)), (2, (0, q144_l2))] ⟨rfl, rfl, rfl, trivial⟩ ?_
            exact J176 (by omega) s17 hT17 hF17 (w144_582_2) (by omega) (by omega) e18 e19 (by omega)
          · refine ir_l (pc' := 171) rfl rfl rfl rfl rfl rfl ?_
            refine ir_k (pc' := 172) (v := (0, 3)) rfl rfl rfl (fun _ => rfl) ?_
            refine ir_l (pc' := 173) rfl rfl rfl rfl rfl rfl ?_
            refine ir_cVV (pc' := 176) rfl rfl rfl rfl rfl (Nat.le_of_ble_eq_true rfl) oo_X10_fail (hG_at usk_0) (rf_failR L ys d s17 hT17 (3) (by omega) (by omega) (x1) (by omega) (by omega) ) (fun s22 hr => ?_)
            obtain ⟨hT22, hG22, p22_0, p22_1⟩ := hr
            have hF22 := ur_trans hF17 hG22 (by decide)
            have e23 : s22.1 582 17 = ((592 : Nat) : Int) := (hG22.1 _ _ usk_0 17 (by decide)).trans e19
            obtain ⟨z24, z24e, z24l, z24h⟩ := uI_i uf_0_2 usk_0 hT22
            refine ir_w [(0, (2, ((582 : Nat) : Int))), (1, (0, x1)), (2, (0, q144_l2))] ⟨rfl, rfl, rfl, trivial⟩ ?_
            exact J176 (by omega) s22 hT22 hF22 (z24) (by omega) (by omega) z24e e23 (by omega)
  have J23 : ∀ n : Nat, ∀ (q23_l2 : Int) (q23_l2l : 0 ≤ q23_l2) (q23_l2h : q23_l2 ≤ 9) (s_23 : im_S) (hT_23 : uI s_23) (hF_23 : ur [(0, 2), (0, 3), (8, 1000), (10, 1000)] s0 s_23) (w23_582_2 : Int) (w23_582_2l : 0 ≤ w23_582_2) (w23_582_2h : w23_582_2 ≤ 3) (w23_582_2e : s_23.1 582 2 = w23_582_2) (i23_0 : s0.1 582 2 ≤ w23_582_2), (9 + 1 - q23_l2) ≤ (n : Int) → ir gG rm_P L ys (d + 1) rm_p_X10_multiply (23, [(0, (2, ((582 : Nat) : Int))), (1, (0, x1)), (2, (0, q23_l2))], [], s_23) (fun r : im_Re => r.1 = none ∧ (uI r.2 ∧ ur [(0, 2), (0, 3), (8, 1000), (10, 1000)] s0 r.2 ∧ s0.1 582 2 ≤ r.2.1 582 2)) := by
    intro n
    induction n with
    | zero => intro q23_l2 q23_l2l q23_l2h s_23 hT_23 hF_23 w23_582_2 w23_582_2l w23_582_2h w23_582_2e i23_0 hr; exfalso; omega
    | succ n ih23 =>
      intro q23_l2 q23_l2l q23_l2h s_23 hT_23 hF_23 w23_582_2 w23_582_2l w23_582_2h w23_582_2e i23_0 hr
      have J31 : ∀ n : Nat, ∀ (q31_l3 : Int) (q31_l3l : 0 ≤ q31_l3) (q31_l3h : q31_l3 ≤ 9) (f31_2h : q23_l2 ≤ 8) (s_31 : im_S) (hT_31 : uI s_31) (hF_31 : ur [(0, 2), (0, 3), (8, 1000), (10, 1000)] s0 s_31) (w31_582_2 : Int) (w31_582_2l : 0 ≤ w31_582_2) (w31_582_2h : w31_582_2 ≤ 3) (w31_582_2e : s_31.1 582 2 = w31_582_2) (i31_0 : s0.1 582 2 ≤ w31_582_2), (9 + 1 - q31_l3) ≤ (n : Int) → ir gG rm_P L ys (d + 1) rm_p_X10_multiply (31, [(0, (2, ((582 : Nat) : Int))), (1, (0, x1)), (2, (0, q23_l2)), (3, (0, q31_l3))], [], s_31) (fun r : im_Re => r.1 = none ∧ (uI r.2 ∧ ur [(0, 2), (0, 3), (8, 1000), (10, 1000)] s0 r.2 ∧ s0.1 582 2 ≤ r.2.1 582 2)) := by
        intro n
        induction n with
        | zero => intro q31_l3 q31_l3l q31_l3h f31_2h s_31 hT_31 hF_31 w31_582_2 w31_582_2l w31_582_2h w31_582_2e i31_0 hr; exfalso; omega
        | succ n ih31 =>
          intro q31_l3 q31_l3l q31_l3h f31_2h s_31 hT_31 hF_31 w31_582_2 w31_582_2l w31_582_2h w31_582_2e i31_0 hr
          have J130 : ∀ (f130_3h : q31_l3 ≤ 8) (s_130 : im_S) (hT_130 : uI s_130) (hF_130 : ur [(0, 2), (0, 3), (8, 1000), (10, 1000)] s0 s_130) (w130_582_2 : Int) (w130_582_2l : 0 ≤ w130_582_2) (w130_582_2h : w130_582_2 ≤ 3) (w130_582_2e : s_130.1 582 2 = w130_582_2) (w130_582_15e : s_130.1 582 15 = ((590 : Nat) : Int)) (w130_582_16e : s_130.1 582 16 = ((591 : Nat) : Int)) (w130_582_21 : Int) (w130_582_21l : 0 ≤ w130_582_21) (w130_582_21h : w130_582_21 ≤ 10) (w130_582_21e : s_130.1 582 21 = w130_582_21) (i130_0 : s0.1 582 2 ≤ w130_582_2), ir gG rm_P L ys (d + 1) rm_p_X10_multiply (130, [(0, (2, ((582 : Nat) : Int))), (1, (0, x1)), (2, (0, q23_l2)), (3, (0, q31_l3))], [], s_130) (fun r : im_Re => r.1 = none ∧ (uI r.2 ∧ ur [(0, 2), (0, 3), (8, 1000), (10, 1000)] s0 r.2 ∧ s0.1 582 2 ≤ r.2.1 582 2)) := by
            intro f130_3h s_130 hT_130 hF_130 w130_582_2 w130_582_2l w130_582_2h w130_582_2e w130_582_15e w130_582_16e w130_582_21 w130_582_21l w130_582_21h w130_582_21e i130_0
            refine ir_inc (pc' := 133) rfl rfl rfl rfl rfl (by omega) (by omega) ?_
            refine ir_goto (pc' := 31) rfl rfl ?_
            refine ir_w [(0, (2, ((582 : Nat) : Int))), (1, (0, x1)), (2, (0, q23_l2)), (3, (0, (q31_l3 + 1)))] ⟨rfl, rfl, rfl, rfl, trivial⟩ ?_
            exact ih31 ((q31_l3 + 1)) (by omega) (by omega) (by omega) s_130 hT_130 hF_130 (w130_582_2) (by omega) (by omega) w130_582_2e (by omega) (by omega)
          have J100 : ∀ (q100_l4 : Int) (q100_l4l : -9223372036854775808 ≤ q100_l4) (q100_l4h : q100_l4 ≤ 9223372036854775807) (q100_l6 : Int) (q100_l6l : -9223372036854775808 ≤ q100_l6) (q100_l6h : q100_l6 ≤ 9223372036854775807) (f100_3h : q31_l3 ≤ 8) (s_100 : im_S) (hT_100 : uI s_100) (hF_100 : ur [(0, 2), (0, 3), (8, 1000), (10, 1000)] s0 s_100) (w100_582_2 : Int) (w100_582_2l : 0 ≤ w100_582_2) (w100_582_2h : w100_582_2 ≤ 3) (w100_582_2e : s_100.1 582 2 = w100_582_2) (w100_582_15e : s_100.1 582 15 = ((590 : Nat) : Int)) (w100_582_16e : s_100.1 582 16 = ((591 : Nat) : Int)) (w100_582_21 : Int) (w100_582_21l : 0 ≤ w100_582_21) (w100_582_21h : w100_582_21 ≤ 10) (w100_582_21e : s_100.1 582 21 = w100_582_21) (i100_0 : (q100_l4 = 0 ∨ q100_l6 = 0 ∨ q23_l2 + q31_l3 ≤ 8)) (i100_1 : s0.1 582 2 ≤ w100_582_2), ir gG rm_P L ys (d + 1) rm_p_X10_multiply (100, [(0, (2, ((582 : Nat) : Int))), (1, (0, x1)), (2, (0, q23_l2)), (3, (0, q31_l3)), (4, (1, q100_l4)), (6, (1, q100_l6))], [], s_100) (fun r : im_Re => r.1 = none ∧ (uI r.2 ∧ ur [(0, 2), (0, 3), (8, 1000), (10, 1000)] s0 r.2 ∧ s0.1 582 2 ≤ r.2.1 582 2)) := by
            intro q100_l4 q100_l4l q100_l4h q100_l6 q100_l6l q100_l6h f100_3h s_100 hT_100 hF_100 w100_582_2 w100_582_2l w100_582_2h w100_582_2e w100_582_15e w100_582_16e w100_582_21 w100_582_21l w100_582_21h w100_582_21e i100_0 i100_1
            refine ir_l (pc' := 102) rfl rfl rfl rfl rfl rfl ?_
            refine ir_k (pc' := 103) (v := (1, 0)) rfl rfl rfl (fun _ => rfl) ?_
            refine ir_lcmp (pc' := 104) rfl rfl (by omega) (by omega) (by omega) (by omega) (fun z25 z25c => ?_)
            refine ir_z_eq (pt := 130) (pc' := 107) rfl rfl rfl (fun c26 => ?_) (fun c26 => ?_)
            · refine ir_w [(0, (2, ((582 : Nat) : Int))), (1, (0, x1)), (2, (0, q23_l2)), (3, (0, q31_l3))] ⟨rfl, rfl, rfl, rfl, trivial⟩ ?_
              exact J130 (by omega) s_100 hT_100 hF_100 (w100_582_2) (by omega) (by omega) w100_582_2e w100_582_15e w100_582_16e (w100_582_21) (by omega) (by omega) w100_582_21e (by omega)
            · refine ir_l (pc' := 109) rfl rfl rfl rfl rfl rfl ?_
              refine ir_k (pc' := 110) (v := (1, 0)) rfl rfl rfl (fun _ => rfl) ?_
              refine ir_lcmp (pc' := 111) rfl rfl (by omega) (by omega) (by omega) (by omega) (fun z27 z27c => ?_)
              refine ir_z_eq (pt := 130) (pc' := 114) rfl rfl rfl (fun c28 => ?_) (fun c28 => ?_)
              · refine ir_w [(0, (2, ((582 : Nat) : Int))), (1, (0, x1)), (2, (0, q23_l2)), (3, (0, q31_l3))] ⟨rfl, rfl, rfl, rfl, trivial⟩ ?_
                exact J130 (by omega) s_100 hT_100 hF_100 (w100_582_2) (by omega) (by omega) w100_582_2e w100_582_15e w100_582_16e (w100_582_21) (by omega) (by omega) w100_582_21e (by omega)
              · refine ir_l (pc' := 115) rfl rfl rfl rfl rfl rfl ?_
                refine ir_ugr (pc' := 118) rfl rfl rfl uf_0_17 usk_0 hT_100 (fun b29 b29e b29k => ?_)
                obtain rfl := usg_10 b29k
                refine ir_l (pc' := 119) rfl rfl rfl rfl rfl rfl ?_
                refine ir_l (pc' := 120) rfl rfl rfl rfl rfl rfl ?_
                refine ir_add (pc' := 121) rfl rfl (by omega) (by omega) ?_
                refine ir_x (pc' := 122) rfl rfl rfl (fun _ => rfl) ?_
                refine ir_ula (pc' := 123) rfl rfl ue_10 (by decide) usk_10 hT_100 (by omega) (by omega) (fun z30 z30e z30l z30h => ?_)
                clear z30e
                refine ir_l (pc' := 125) rfl rfl rfl rfl rfl rfl ?_
                refine ir_l (pc' := 127) rfl rfl rfl rfl rfl rfl ?_
                refine ir_jjA (pc' := 128) rfl rfl rfl rfl (fun z31 z31l z31h => ?_)
                refine ir_jjA (pc' := 129) rfl rfl rfl rfl (fun z32 z32l z32h => ?_)
                refine ir_uls (pc' := 130) rfl rfl ue_10 usk_10 hT_100 (by omega) (by omega) (by omega) (by omega) (fun s33 hT33 r33 o33 => ?_)
                have hF33 := ur_row (k := 10) hF_100 (by decide) usk_10 r33 o33
                have e34 : s33.1 582 2 = w100_582_2 := by rw [r33]; exact w100_582_2e
                have e35 : s33.1 582 15 = ((590 : Nat) : Int) := by rw [r33]; exact w100_582_15e
                have e36 : s33.1 582 21 = w100_582_21 := by rw [r33]; exact w100_582_21e
                have e37 : s33.1 582 16 = ((591 : Nat) : Int) := by rw [r33]; exact w100_582_16e
                have e38 : s33.1 582 17 = ((592 : Nat) : Int) := by rw [r33]; exact b29e
                refine ir_w [(0, (2, ((582 : Nat) : Int))), (1, (0, x1)), (2, (0, q23_l2)), (3, (0, q31_l3))] ⟨rfl, rfl, rfl, rfl, trivial⟩ ?_
                exact J130 (by omega) s33 hT33 hF33 (w100_582_2) (by omega) (by omega) e34 e35 e37 (w100_582_21) (by omega) (by omega) e36 (by omega)
          refine ir_l (pc' := 32) rfl rfl rfl rfl rfl rfl ?_
          refine ir_k (pc' := 34) (v := (0, 9)) rfl rfl rfl (fun _ => rfl) ?_
          refine ir_c_ge (pt := 136) (pc' := 37) rfl rfl rfl (fun c39 => ?_) (fun c39 => ?_)
          · refine ir_inc (pc' := 139) rfl rfl rfl rfl rfl (by omega) (by omega) ?_
            refine ir_goto (pc' := 23) rfl rfl ?_
            refine ir_w [(0, (2, ((582 : Nat) : Int))), (1, (0, x1)), (2, (0, (q23_l2 + 1)))] ⟨rfl, rfl, rfl, trivial⟩ ?_
            exact ih23 ((q23_l2 + 1)) (by omega) (by omega) s_31 hT_31 hF_31 (w31_582_2) (by omega) (by omega) w31_582_2e (by omega) (by omega)
          · refine ir_l (pc' := 38) rfl rfl rfl rfl rfl rfl ?_
            refine ir_ugr (pc' := 41) rfl rfl rfl uf_0_15 usk_0 hT_31 (fun b40 b40e b40k => ?_)
            obtain rfl := usg_8 b40k
            refine ir_k (pc' := 43) (v := (0, 9)) rfl rfl rfl (fun _ => rfl) ?_
            refine ir_l (pc' := 44) rfl rfl rfl rfl rfl rfl ?_
            refine ir_ugi (pc' := 47) rfl rfl rfl uf_0_21 usk_0 hT_31 (fun z41 z41e z41l z41h => ?_)
            refine ir_mul (pc' := 48) rfl rfl (by omega) (by omega) ?_
            refine ir_l (pc' := 49) rfl rfl rfl rfl rfl rfl ?_
            refine ir_add (pc' := 50) rfl rfl (by omega) (by omega) ?_
            refine ir_ula (pc' := 51) rfl rfl ue_8 (by decide) usk_8 hT_31 (by omega) (by omega) (fun z42 z42e z42l z42h => ?_)
            clear z42e
            refine ir_s2 (pc' := 53) rfl rfl rfl rfl rfl rfl ?_
            refine ir_l (pc' := 54) rfl rfl rfl rfl rfl rfl ?_
            refine ir_ugr (pc' := 57) rfl rfl rfl uf_0_16 usk_0 hT_31 (fun b43 b43e b43k => ?_)
            obtain rfl := usg_9 b43k
            refine ir_k (pc' := 59) (v := (0, 9)) rfl rfl rfl (fun _ => rfl) ?_
            refine ir_l (pc' := 60) rfl rfl rfl rfl rfl rfl ?_
            refine ir_getI (pc' := 63) rfl rfl rfl (hG_at usk_0) rfl (by decide) (by decide) z41e (by omega) (by omega) ?_
            refine ir_mul (pc' := 64) rfl rfl (by omega) (by omega) ?_
            refine ir_l (pc' := 65) rfl rfl rfl rfl rfl rfl ?_
            refine ir_add (pc' := 66) rfl rfl (by omega) (by omega) ?_
            refine ir_ula (pc' := 67) rfl rfl ue_9 (by decide) usk_9 hT_31 (by omega) (by omega) (fun z44 z44e z44l z44h => ?_)
            clear z44e
            refine ir_s2 (pc' := 69) rfl rfl rfl rfl rfl rfl ?_
            refine ir_l (pc' := 71) rfl rfl rfl rfl rfl rfl ?_
            refine ir_k (pc' := 72) (v := (1, 0)) rfl rfl rfl (fun _ => rfl) ?_
            refine ir_lcmp (pc' := 73) rfl rfl (by omega) (by omega) (by omega) (by omega) (fun z45 z45c => ?_)
            refine ir_z_eq (pt := 100) (pc' := 76) rfl rfl rfl (fun c46 => ?_) (fun c46 => ?_)
            · refine ir_w [(0, (2, ((582 : Nat) : Int))), (1, (0, x1)), (2, (0, q23_l2)), (3, (0, q31_l3)), (4, (1, z42)), (6, (1, z44))] ⟨rfl, rfl, rfl, rfl, rfl, rfl, trivial⟩ ?_
              exact J100 (z42) (by omega) (by omega) (z44) (by omega) (by omega) (by omega) s_31 hT_31 hF_31 (w31_582_2) (by omega) (by omega) w31_582_2e b40e b43e (z41) (by omega) (by omega) z41e (by omega) (by omega)
            · refine ir_l (pc' := 78) rfl rfl rfl rfl rfl rfl ?_
              refine ir_k (pc' := 79) (v := (1, 0)) rfl rfl rfl (fun _ => rfl) ?_
              refine ir_lcmp (pc' := 80) rfl rfl (by omega) (by omega) (by omega) (by omega) (fun z47 z47c => ?_)
              refine ir_z_eq (pt := 100) (pc' := 83) rfl rfl rfl (fun c48 => ?_) (fun c48 => ?_)
              · refine ir_w [(0, (2, ((582 : Nat) : Int))), (1, (0, x1)), (2, (0, q23_l2)), (3, (0, q31_l3)), (4, (1, z42)), (6, (1, z44))] ⟨rfl, rfl, rfl, rfl, rfl, rfl, trivial⟩ ?_
                exact J100 (z42) (by omega) (by omega) (z44) (by omega) (by omega) (by omega) s_31 hT_31 hF_31 (w31_582_2) (by omega) (by omega) w31_582_2e b40e b43e (z41) (by omega) (by omega) z41e (by omega) (by omega)
              · refine ir_l (pc' := 84) rfl rfl rfl rfl rfl rfl ?_
                refine ir_l (pc' := 85) rfl rfl rfl rfl rfl rfl ?_
                refine ir_add (pc' := 86) rfl rfl (by omega) (by omega) ?_
                refine ir_k (pc' := 88) (v := (0, 9)) rfl rfl rfl (fun _ => rfl) ?_
                refine ir_c_lt (pt := 100) (pc' := 91) rfl rfl rfl (fun c49 => ?_) (fun c49 => ?_)
                · refine ir_w [(0, (2, ((582 : Nat) : Int))), (1, (0, x1)), (2, (0, q23_l2)), (3, (0, q31_l3)), (4, (1, z42)), (6, (1, z44))] ⟨rfl, rfl, rfl, rfl, rfl, rfl, trivial⟩ ?_
                  exact J100 (z42) (by omega) (by omega) (z44) (by omega) (by omega) (by omega) s_31 hT_31 hF_31 (w31_582_2) (by omega) (by omega) w31_582_2e b40e b43e (z41) (by omega) (by omega) z41e (by omega) (by omega)
                · refine ir_l (pc' := 92) rfl rfl rfl rfl rfl rfl ?_
                  refine ir_k (pc' := 93) (v := (0, 3)) rfl rfl rfl (fun _ => rfl) ?_
                  refine ir_l (pc' := 94) rfl rfl rfl rfl rfl rfl ?_
                  refine ir_cVV (pc' := 97) rfl rfl rfl rfl rfl (Nat.le_of_ble_eq_true rfl) oo_X10_fail (hG_at usk_0) (rf_failR L ys d s_31 hT_31 (3) (by omega) (by omega) (x1) (by omega) (by omega) ) (fun s51 hr => ?_)
                  obtain ⟨hT51, hG51, p51_0, p51_1⟩ := hr
                  have hF51 := ur_trans hF_31 hG51 (by decide)
                  have e52 : s51.1 582 15 = ((590 : Nat) : Int) := (hG51.1 _ _ usk_0 15 (by decide)).trans b40e
                  have e53 : s51.1 582 21 = z41 := (hG51.1 _ _ usk_0 21 (by decide)).trans z41e
                  have e54 : s51.1 582 16 = ((591 : Nat) : Int) := (hG51.1 _ _ usk_0 16 (by decide)).trans b43e
                  obtain ⟨z55, z55e, z55l, z55h⟩ := uI_i uf_0_2 usk_0 hT51
                  refine ir_goto (pc' := 130) rfl rfl ?_
                  refine ir_w [(0, (2, ((582 : Nat) : Int))), (1, (0, x1)), (2, (0, q23_l2)), (3, (0, q31_l3))] ⟨rfl, rfl, rfl, rfl, trivial⟩ ?_
                  exact J130 (by omega) s51 hT51 hF51 (z55) (by omega) (by omega) z55e e52 e54 (z41) (by omega) (by omega) e53 (by omega)
      refine ir_l (pc' := 24) rfl rfl rfl rfl rfl rfl ?_
      refine ir_k (pc' := 26) (v := (0, 9)) rfl rfl rfl (fun _ => rfl) ?_
      refine ir_c_ge (pt := 142) (pc' := 29) rfl rfl rfl (fun c56 => ?_) (fun c56 => ?_)
      · refine ir_k (pc' := 143) (v := (0, 0)) rfl rfl rfl (fun _ => rfl) ?_
        refine ir_s (pc' := 144) rfl rfl rfl rfl rfl rfl ?_
        refine ir_w [(0, (2, ((582 : Nat) : Int))), (1, (0, x1)), (2, (0, 0))] ⟨rfl, rfl, rfl, trivial⟩ ?_
        exact J144 _ (0) (by omega) (by omega) s_23 hT_23 hF_23 (w23_582_2) (by omega) (by omega) w23_582_2e (by omega) (Int.self_le_toNat _)
      · refine ir_k (pc' := 30) (v := (0, 0)) rfl rfl rfl (fun _ => rfl) ?_
        refine ir_s (pc' := 31) rfl rfl rfl rfl rfl rfl ?_
        refine ir_w [(0, (2, ((582 : Nat) : Int))), (1, (0, x1)), (2, (0, q23_l2)), (3, (0, 0))] ⟨rfl, rfl, rfl, rfl, trivial⟩ ?_
        exact J31 _ (0) (by omega) (by omega) (by omega) s_23 hT_23 hF_23 (w23_582_2) (by omega) (by omega) w23_582_2e (by omega) (Int.self_le_toNat _)
  have J2 : ∀ n : Nat, ∀ (q2_l2 : Int) (q2_l2l : 0 ≤ q2_l2) (q2_l2h : q2_l2 ≤ 9) (s_2 : im_S) (hT_2 : uI s_2) (hF_2 : ur [(0, 2), (0, 3), (8, 1000), (10, 1000)] s0 s_2) (w2_582_2 : Int) (w2_582_2l : 0 ≤ w2_582_2) (w2_582_2h : w2_582_2 ≤ 3) (w2_582_2e : s_2.1 582 2 = w2_582_2) (i2_0 : s0.1 582 2 ≤ w2_582_2), (9 + 1 - q2_l2) ≤ (n : Int) → ir gG rm_P L ys (d + 1) rm_p_X10_multiply (2, [(0, (2, ((582 : Nat) : Int))), (1, (0, x1)), (2, (0, q2_l2))], [], s_2) (fun r : im_Re => r.1 = none ∧ (uI r.2 ∧ ur [(0, 2), (0, 3), (8, 1000), (10, 1000)] s0 r.2 ∧ s0.1 582 2 ≤ r.2.1 582 2)) := by
    intro n
    induction n with
    | zero => intro q2_l2 q2_l2l q2_l2h s_2 hT_2 hF_2 w2_582_2 w2_582_2l w2_582_2h w2_582_2e i2_0 hr; exfalso; omega
    | succ n ih2 =>
      intro q2_l2 q2_l2l q2_l2h s_2 hT_2 hF_2 w2_582_2 w2_582_2l w2_582_2h w2_582_2e i2_0 hr
      refine ir_l (pc' := 3) rfl rfl rfl rfl rfl rfl ?_
      refine ir_k (pc' := 5) (v := (0, 9)) rfl rfl rfl (fun _ => rfl) ?_
      refine ir_c_ge (pt := 21) (pc' := 8) rfl rfl rfl (fun c57 => ?_) (fun c57 => ?_)
      · refine ir_k (pc' := 22) (v := (0, 0)) rfl rfl rfl (fun _ => rfl) ?_
        refine ir_s (pc' := 23) rfl rfl rfl rfl rfl rfl ?_
        refine ir_w [(0, (2, ((582 : Nat) : Int))), (1, (0, x1)), (2, (0, 0))] ⟨rfl, rfl, rfl, trivial⟩ ?_
        exact J23 _ (0) (by omega) (by omega) s_2 hT_2 hF_2 (w2_582_2) (by omega) (by omega) w2_582_2e (by omega) (Int.self_le_toNat _)
      · refine ir_l (pc' := 9) rfl rfl rfl rfl rfl rfl ?_
        refine ir_ugr (pc' := 12) rfl rfl rfl uf_0_17 usk_0 hT_2 (fun b58 b58e b58k => ?_)
        obtain rfl := usg_10 b58k
        refine ir_l (pc' := 13) rfl rfl rfl rfl rfl rfl ?_
        refine ir_k (pc' := 14) (v := (1, 0)) rfl rfl rfl (fun _ => rfl) ?_
        refine ir_uls (pc' := 15) rfl rfl ue_10 usk_10 hT_2 (by omega) (by omega) (by omega) (by omega) (fun s59 hT59 r59 o59 => ?_)
        have hF59 := ur_row (k := 10) hF_2 (by decide) usk_10 r59 o59
        have e60 : s59.1 582 2 = w2_582_2 := by rw [r59]; exact w2_582_2e
        have e61 : s59.1 582 17 = ((592 : Nat) : Int) := by rw [r59]; exact b58e
        refine ir_inc (pc' := 18) rfl rfl rfl rfl rfl (by omega) (by omega) ?_
        refine ir_goto (pc' := 2) rfl rfl ?_
        refine ir_w [(0, (2, ((582 : Nat) : Int))), (1, (0, x1)), (2, (0, (q2_l2 + 1)))] ⟨rfl, rfl, rfl, trivial⟩ ?_
        exact ih2 ((q2_l2 + 1)) (by omega) (by omega) s59 hT59 hF59 (w2_582_2) (by omega) (by omega) e60 (by omega) (by omega)
  obtain ⟨z62, z62e, z62l, z62h⟩ := uI_i uf_0_2 usk_0 hT0
  refine ir_k (pc' := 1) (v := (0, 0)) rfl rfl rfl (fun _ => rfl) ?_
  refine ir_s (pc' := 2) rfl rfl rfl rfl rfl rfl ?_
  refine ir_w [(0, (2, ((582 : Nat) : Int))), (1, (0, x1)), (2, (0, 0))] ⟨rfl, rfl, rfl, trivial⟩ ?_
  exact J2 _ (0) (by omega) (by omega) s0 hT0 hF0 (z62) (by omega) (by omega) z62e (by omega) (Int.self_le_toNat _)
theorem rf_raiseR (L : Nat) (ys : Nat → Int32) (d : Nat) (s0 : im_S) (hT0 : uI s0) (x1 : Int) (x1l : -2147483648 ≤ x1) (x1h : x1 ≤ 2147483647) (x2 : Int) (x2l : -2 ≤ x2) (x2h : x2 ≤ 400) : icV gG rm_P L ys (d + 3) 81 [(2, ((582 : Nat) : Int)), (0, x1), (0, x2)] s0 (fun s => uI s ∧ ur [(0, 2), (0, 3), (8, 1000), (9, 1000), (10, 1000), (14, 1000)] s0 s ∧ s0.1 582 2 ≤ s.1 582 2) := by
  refine ic_startM (M := rm_p_X10_raise) om_X10_raise (Nat.le_of_ble_eq_true rfl) ?_
  refine ir_w [(0, (2, ((582 : Nat) : Int))), (1, (0, x1)), (2, (0, x2))] ⟨rfl, rfl, rfl, trivial⟩ ?_
  have hF0 := ur_refl [(0, 2), (0, 3), (8, 1000), (9, 1000), (10, 1000), (14, 1000)] s0
  have J192 : ∀ n : Nat, ∀ (q192_l3 : Int) (q192_l3l : 0 ≤ q192_l3) (q192_l3h : q192_l3 ≤ 90) (q192_l7 : Int) (q192_l7l : 0 ≤ q192_l7) (q192_l7h : q192_l7 ≤ 9) (s_192 : im_S) (hT_192 : uI s_192) (hF_192 : ur [(0, 2), (0, 3), (8, 1000), (9, 1000), (10, 1000), (14, 1000)] s0 s_192) (w192_582_2 : Int) (w192_582_2l : 0 ≤ w192_582_2) (w192_582_2h : w192_582_2 ≤ 3) (w192_582_2e : s_192.1 582 2 = w192_582_2) (w192_582_21 : Int) (w192_582_21l : 0 ≤ w192_582_21) (w192_582_21h : w192_582_21 ≤ 10) (w192_582_21e : s_192.1 582 21 = w192_582_21) (i192_0 : s0.1 582 2 ≤ w192_582_2), (9 + 1 - q192_l7) ≤ (n : Int) → ir gG rm_P L ys (d + 2) rm_p_X10_raise (192, [(0, (2, ((582 : Nat) : Int))), (3, (0, q192_l3)), (7, (0, q192_l7))], [], s_192) (fun r : im_Re => r.1 = none ∧ (uI r.2 ∧ ur [(0, 2), (0, 3), (8, 1000), (9, 1000), (10, 1000), (14, 1000)] s0 r.2 ∧ s0.1 582 2 ≤ r.2.1 582 2)) := by
    intro n
    induction n with
    | zero => intro q192_l3 q192_l3l q192_l3h q192_l7 q192_l7l q192_l7h s_192 hT_192 hF_192 w192_582_2 w192_582_2l w192_582_2h w192_582_2e w192_582_21 w192_582_21l w192_582_21h w192_582_21e i192_0 hr; exfalso; omega
    | succ n ih192 =>
      intro q192_l3 q192_l3l q192_l3h q192_l7 q192_l7l q192_l7h s_192 hT_192 hF_192 w192_582_2 w192_582_2l w192_582_2h w192_582_2e w192_582_21 w192_582_21l w192_582_21h w192_582_21e i192_0 hr
      refine ir_l (pc' := 194) rfl rfl rfl rfl rfl rfl ?_
      refine ir_k (pc' := 196) (v := (0, 9)) rfl rfl rfl (fun _ => rfl) ?_
      refine ir_c_ge (pt := 239) (pc' := 199) rfl rfl rfl (fun c1 => ?_) (fun c1 => ?_)
      · exact ir_vret rfl rfl ⟨rfl, hT_192, hF_192, (by first | omega | (dsimp only; omega))⟩
      · refine ir_l (pc' := 200) rfl rfl rfl rfl rfl rfl ?_
        refine ir_ugr (pc' := 203) rfl rfl rfl uf_0_16 usk_0 hT_192 (fun b2 b2e b2k => ?_)
        obtain rfl := usg_9 b2k
        refine ir_l (pc' := 204) rfl rfl rfl rfl rfl rfl ?_
        refine ir_l (pc' := 206) rfl rfl rfl rfl rfl rfl ?_
        refine ir_add (pc' := 207) rfl rfl (by omega) (by omega) ?_
        refine ir_l (pc' := 208) rfl rfl rfl rfl rfl rfl ?_
        refine ir_ugr (pc' := 211) rfl rfl rfl uf_0_15 usk_0 hT_192 (fun b3 b3e b3k => ?_)
        obtain rfl := usg_8 b3k
        refine ir_l (pc' := 212) rfl rfl rfl rfl rfl rfl ?_
        refine ir_l (pc' := 214) rfl rfl rfl rfl rfl rfl ?_
        refine ir_add (pc' := 215) rfl rfl (by omega) (by omega) ?_
        refine ir_ula (pc' := 216) rfl rfl ue_8 (by decide) usk_8 hT_192 (by omega) (by omega) (fun z4 z4e z4l z4h => ?_)
        clear z4e
        refine ir_uls (pc' := 217) rfl rfl ue_9 usk_9 hT_192 (by omega) (by omega) (by omega) (by omega) (fun s5 hT5 r5 o5 => ?_)
        have hF5 := ur_row (k := 9) hF_192 (by decide) usk_9 r5 o5
        have e6 : s5.1 582 2 = w192_582_2 := by rw [r5]; exact w192_582_2e
        have e7 : s5.1 582 21 = w192_582_21 := by rw [r5]; exact w192_582_21e
        have e8 : s5.1 582 16 = ((591 : Nat) : Int) := by rw [r5]; exact b2e
        have e9 : s5.1 582 15 = ((590 : Nat) : Int) := by rw [r5]; exact b3e
        refine ir_l (pc' := 218) rfl rfl rfl rfl rfl rfl ?_
        refine ir_getR (pc' := 221) rfl rfl rfl (hG_at usk_0) rfl e9 ?_
        refine ir_l (pc' := 222) rfl rfl rfl rfl rfl rfl ?_
        refine ir_l (pc' := 224) rfl rfl rfl rfl rfl rfl ?_
        refine ir_add (pc' := 225) rfl rfl (by omega) (by omega) ?_
        refine ir_l (pc' := 226) rfl rfl rfl rfl rfl rfl ?_
        refine ir_ugr (pc' := 229) rfl rfl rfl uf_0_22 usk_0 hT5 (fun b10 b10e b10k => ?_)
        obtain rfl := usg_14 b10k
        refine ir_l (pc' := 231) rfl rfl rfl rfl rfl rfl ?_
        refine ir_ula (pc' := 232) rfl rfl ue_14 (by decide) usk_14 hT5 (by omega) (by omega) (fun z11 z11e z11l z11h => ?_)
        clear z11e
        refine ir_uls (pc' := 233) rfl rfl ue_8 usk_8 hT5 (by omega) (by omega) (by omega) (by omega) (fun s12 hT12 r12 o12 => ?_)
        have hF12 := ur_row (k := 8) hF5 (by decide) usk_8 r12 o12
        have e13 : s12.1 582 2 = w192_582_2 := by rw [r12]; exact e6
        have e14 : s12.1 582 21 = w192_582_21 := by rw [r12]; exact e7
        have e15 : s12.1 582 16 = ((591 : Nat) : Int) := by rw [r12]; exact e8
        have e16 : s12.1 582 15 = ((590 : Nat) : Int) := by rw [r12]; exact e9
        have e17 : s12.1 582 22 = ((596 : Nat) : Int) := by rw [r12]; exact b10e
        refine ir_inc (pc' := 236) rfl rfl rfl rfl rfl (by omega) (by omega) ?_
        refine ir_goto (pc' := 192) rfl rfl ?_
        refine ir_w [(0, (2, ((582 : Nat) : Int))), (3, (0, q192_l3)), (7, (0, (q192_l7 + 1)))] ⟨rfl, rfl, rfl, trivial⟩ ?_
        exact ih192 (q192_l3) (by omega) (by omega) ((q192_l7 + 1)) (by omega) (by omega) s12 hT12 hF12 (w192_582_2) (by omega) (by omega) e13 (w192_582_21) (by omega) (by omega) e14 (by omega) (by omega)
  have J189 : ∀ (q189_l3 : Int) (q189_l3l : 0 ≤ q189_l3) (q189_l3h : q189_l3 ≤ 90) (s_189 : im_S) (hT_189 : uI s_189) (hF_189 : ur [(0, 2), (0, 3), (8, 1000), (9, 1000), (10, 1000), (14, 1000)] s0 s_189) (w189_582_2 : Int) (w189_582_2l : 0 ≤ w189_582_2) (w189_582_2h : w189_582_2 ≤ 3) (w189_582_2e : s_189.1 582 2 = w189_582_2) (w189_582_21 : Int) (w189_582_21l : 0 ≤ w189_582_21) (w189_582_21h : w189_582_21 ≤ 10) (w189_582_21e : s_189.1 582 21 = w189_582_21) (i189_0 : s0.1 582 2 ≤ w189_582_2), ir gG rm_P L ys (d + 2) rm_p_X10_raise (189, [(0, (2, ((582 : Nat) : Int))), (3, (0, q189_l3))], [], s_189) (fun r : im_Re => r.1 = none ∧ (uI r.2 ∧ ur [(0, 2), (0, 3), (8, 1000), (9, 1000), (10, 1000), (14, 1000)] s0 r.2 ∧ s0.1 582 2 ≤ r.2.1 582 2)) := by
    intro q189_l3 q189_l3l q189_l3h s_189 hT_189 hF_189 w189_582_2 w189_582_2l w189_582_2h w189_582_2e w189_582_21 w189_582_21l w189_582_21h w189_582_21e i189_0
    refine ir_k (pc' := 190) (v := (0, 0)) rfl rfl rfl (fun _ => rfl) ?_
    refine ir_s (pc' := 192) rfl rfl rfl rfl rfl rfl ?_
    refine ir_w [(0, (2, ((582 : Nat) : Int))), (3, (0, q189_l3)), (7, (0, 0))] ⟨rfl, rfl, rfl, trivial⟩ ?_
    exact J192 _ (q189_l3) (by omega) (by omega) (0) (by omega) (by omega) s_189 hT_189 hF_189 (w189_582_2) (by omega) (by omega) w189_582_2e (w189_582_21) (by omega) (by omega) w189_582_21e (by omega) (Int.self_le_toNat _)
  have J164 : ∀ n : Nat, ∀ (q164_l3 : Int) (q164_l3l : 0 ≤ q164_l3) (q164_l3h : q164_l3 ≤ 90) (q164_l6 : Int) (q164_l6l : -2147483648 ≤ q164_l6) (q164_l6h : q164_l6 ≤ 2147483647) (q164_l7 : Int) (q164_l7l : 0 ≤ q164_l7) (q164_l7h : q164_l7 ≤ 2147483647) (s_164 : im_S) (hT_164 : uI s_164) (hF_164 : ur [(0, 2), (0, 3), (8, 1000), (9, 1000), (10, 1000), (14, 1000)] s0 s_164) (w164_582_2 : Int) (w164_582_2l : 0 ≤ w164_582_2) (w164_582_2h : w164_582_2 ≤ 3) (w164_582_2e : s_164.1 582 2 = w164_582_2) (w164_582_21 : Int) (w164_582_21l : 0 ≤ w164_582_21) (w164_582_21h : w164_582_21 ≤ 10) (w164_582_21e : s_164.1 582 21 = w164_582_21) (i164_0 : s0.1 582 2 ≤ w164_582_2), (2147483647 + 1 - q164_l7) ≤ (n : Int) → ir gG rm_P L ys (d + 2) rm_p_X10_raise (164, [(0, (2, ((582 : Nat) : Int))), (2, (0, x2)), (3, (0, q164_l3)), (6, (0, q164_l6)), (7, (0, q164_l7))], [], s_164) (fun r : im_Re => r.1 = none ∧ (uI r.2 ∧ ur [(0, 2), (0, 3), (8, 1000), (9, 1000), (10, 1000), (14, 1000)] s0 r.2 ∧ s0.1 582 2 ≤ r.2.1 582 2)) := by
    intro n
    induction n with
    | zero => intro q164_l3 q164_l3l q164_l3h q164_l6 q164_l6l q164_l6h q164_l7 q164_l7l q164_l7h s_164 hT_164 hF_164 w164_582_2 w164_582_2l w164_582_2h w164_582_2e w164_582_21 w164_582_21l w164_582_21h w164_582_21e i164_0 hr; exfalso; omega
    | succ n ih164 =>
      intro q164_l3 q164_l3l q164_l3h q164_l6 q164_l6l q164_l6h q164_l7 q164_l7l q164_l7h s_164 hT_164 hF_164 w164_582_2 w164_582_2l w164_582_2h w164_582_2e w164_582_21 w164_582_21l w164_582_21h w164_582_21e i164_0 hr
      refine ir_l (pc' := 166) rfl rfl rfl rfl rfl rfl ?_
      refine ir_l (pc' := 168) rfl rfl rfl rfl rfl rfl ?_
      refine ir_c_ge (pt := 189) (pc' := 171) rfl rfl rfl (fun c18 => ?_) (fun c18 => ?_)
      · refine ir_w [(0, (2, ((582 : Nat) : Int))), (3, (0, q164_l3))] ⟨rfl, rfl, trivial⟩ ?_
        exact J189 (q164_l3) (by omega) (by omega) s_164 hT_164 hF_164 (w164_582_2) (by omega) (by omega) w164_582_2e (w164_582_21) (by omega) (by omega) w164_582_21e (by omega)
      · refine ir_l (pc' := 172) rfl rfl rfl rfl rfl rfl ?_
        refine ir_cVI (pc' := 175) rfl rfl rfl rfl rfl (Nat.le_of_ble_eq_true rfl) oo_X10_good (hG_at usk_0) (rf_goodR L ys (d + 1) s_164 hT_164  ) (fun z19 s20 hr => ?_)
        obtain ⟨hT20, hG20, z19l, z19h, p20_0⟩ := hr
        have hF20 := ur_trans hF_164 hG20 (by decide)
        have e21 : s20.1 582 2 = w164_582_2 := (hG20.1 _ _ usk_0 2 (by decide)).trans w164_582_2e
        have e22 : s20.1 582 21 = w164_582_21 := (hG20.1 _ _ usk_0 21 (by decide)).trans w164_582_21e
        refine ir_z_eq (pt := 189) (pc' := 178) rfl rfl rfl (fun c23 => ?_) (fun c23 => ?_)
        · refine ir_w [(0, (2, ((582 : Nat) : Int))), (3, (0, q164_l3))] ⟨rfl, rfl, trivial⟩ ?_
          exact J189 (q164_l3) (by omega) (by omega) s20 hT20 hF20 (w164_582_2) (by omega) (by omega) e21 (w164_582_21) (by omega) (by omega) e22 (by omega)
        · refine ir_l (pc' := 179) rfl rfl rfl rfl rfl rfl ?_
          refine ir_l (pc' := 180) rfl rfl rfl rfl rfl rfl ?_
          refine ir_cVV (pc' := 183) rfl rfl rfl rfl rfl (Nat.le_of_ble_eq_true rfl) oo_X10_multiply (hG_at usk_0) (rf_multiplyR L ys d s20 hT20 (x2) (by omega) (by omega) ) (fun s25 hr => ?_)
          obtain ⟨hT25, hG25, p25_0⟩ := hr
          have hF25 := ur_trans hF20 hG25 (by decide)
          have e26 : s25.1 582 21 = w164_582_21 := (hG25.1 _ _ usk_0 21 (by decide)).trans e22
          obtain ⟨z27, z27e, z27l, z27h⟩ := uI_i uf_0_2 usk_0 hT25
          refine ir_inc (pc' := 186) rfl rfl rfl rfl rfl (by omega) (by omega) ?_
          refine ir_goto (pc' := 164) rfl rfl ?_
          refine ir_w [(0, (2, ((582 : Nat) : Int))), (2, (0, x2)), (3, (0, q164_l3)), (6, (0, q164_l6)), (7, (0, (q164_l7 + 1)))] ⟨rfl, rfl, rfl, rfl, rfl, trivial⟩ ?_
          exact ih164 (q164_l3) (by omega) (by omega) (q164_l6) (by omega) (by omega) ((q164_l7 + 1)) (by omega) (by omega) s25 hT25 hF25 (z27) (by omega) (by omega) z27e (w164_582_21) (by omega) (by omega) e26 (by omega) (by omega)
  have J113 : ∀ n : Nat, ∀ (q113_l3 : Int) (q113_l3l : 0 ≤ q113_l3) (q113_l3h : q113_l3 ≤ 90) (q113_l6 : Int) (q113_l6l : -2147483648 ≤ q113_l6) (q113_l6h : q113_l6 ≤ 2147483647) (q113_l7 : Int) (q113_l7l : 0 ≤ q113_l7) (q113_l7h : q113_l7 ≤ 9) (s_113 : im_S) (hT_113 : uI s_113) (hF_113 : ur [(0, 2), (0, 3), (8, 1000), (9, 1000), (10, 1000), (14, 1000)] s0 s_113) (w113_582_2 : Int) (w113_582_2l : 0 ≤ w113_582_2) (w113_582_2h : w113_582_2 ≤ 3) (w113_582_2e : s_113.1 582 2 = w113_582_2) (w113_582_21 : Int) (w113_582_21l : 0 ≤ w113_582_21) (w113_582_21h : w113_582_21 ≤ 10) (w113_582_21e : s_113.1 582 21 = w113_582_21) (i113_0 : s0.1 582 2 ≤ w113_582_2), (9 + 1 - q113_l7) ≤ (n : Int) → ir gG rm_P L ys (d + 2) rm_p_X10_raise (113, [(0, (2, ((582 : Nat) : Int))), (2, (0, x2)), (3, (0, q113_l3)), (6, (0, q113_l6)), (7, (0, q113_l7))], [], s_113) (fun r : im_Re => r.1 = none ∧ (uI r.2 ∧ ur [(0, 2), (0, 3), (8, 1000), (9, 1000), (10, 1000), (14, 1000)] s0 r.2 ∧ s0.1 582 2 ≤ r.2.1 582 2)) := by
    intro n
    induction n with
    | zero => intro q113_l3 q113_l3l q113_l3h q113_l6 q113_l6l q113_l6h q113_l7 q113_l7l q113_l7h s_113 hT_113 hF_113 w113_582_2 w113_582_2l w113_582_2h w113_582_2e w113_582_21 w113_582_21l w113_582_21h w113_582_21e i113_0 hr; exfalso; omega
    | succ n ih113 =>
      intro q113_l3 q113_l3l q113_l3h q113_l6 q113_l6l q113_l6h q113_l7 q113_l7l q113_l7h s_113 hT_113 hF_113 w113_582_2 w113_582_2l w113_582_2h w113_582_2e w113_582_21 w113_582_21l w113_582_21h w113_582_21e i113_0 hr
      have J154 : ∀ (q154_s1 : Int) (q154_s1l : 0 ≤ q154_s1) (q154_s1h : q154_s1 ≤ 98) (q154_s2 : Int) (q154_s2l : 0 ≤ q154_s2) (q154_s2h : q154_s2 ≤ 1) (f154_7h : q113_l7 ≤ 8) (s_154 : im_S) (hT_154 : uI s_154) (hF_154 : ur [(0, 2), (0, 3), (8, 1000), (9, 1000), (10, 1000), (14, 1000)] s0 s_154) (w154_582_2 : Int) (w154_582_2l : 0 ≤ w154_582_2) (w154_582_2h : w154_582_2 ≤ 3) (w154_582_2e : s_154.1 582 2 = w154_582_2) (w154_582_15e : s_154.1 582 15 = ((590 : Nat) : Int)) (w154_582_21 : Int) (w154_582_21l : 0 ≤ w154_582_21) (w154_582_21h : w154_582_21 ≤ 10) (w154_582_21e : s_154.1 582 21 = w154_582_21) (w154_582_22e : s_154.1 582 22 = ((596 : Nat) : Int)) (i154_0 : s0.1 582 2 ≤ w154_582_2), ir gG rm_P L ys (d + 2) rm_p_X10_raise (154, [(0, (2, ((582 : Nat) : Int))), (2, (0, x2)), (3, (0, q113_l3)), (6, (0, q113_l6)), (7, (0, q113_l7))], [(1, q154_s2), (0, q154_s1), (2, ((590 : Nat) : Int))], s_154) (fun r : im_Re => r.1 = none ∧ (uI r.2 ∧ ur [(0, 2), (0, 3), (8, 1000), (9, 1000), (10, 1000), (14, 1000)] s0 r.2 ∧ s0.1 582 2 ≤ r.2.1 582 2)) := by
        intro q154_s1 q154_s1l q154_s1h q154_s2 q154_s2l q154_s2h f154_7h s_154 hT_154 hF_154 w154_582_2 w154_582_2l w154_582_2h w154_582_2e w154_582_15e w154_582_21 w154_582_21l w154_582_21h w154_582_21e w154_582_22e i154_0
        refine ir_uls (pc' := 155) rfl rfl ue_8 usk_8 hT_154 (by omega) (by omega) (by omega) (by omega) (fun s28 hT28 r28 o28 => ?_)
        have hF28 := ur_row (k := 8) hF_154 (by decide) usk_8 r28 o28
        have e29 : s28.1 582 2 = w154_582_2 := by rw [r28]; exact w154_582_2e
        have e30 : s28.1 582 21 = w154_582_21 := by rw [r28]; exact w154_582_21e
        have e31 : s28.1 582 22 = ((596 : Nat) : Int) := by rw [r28]; exact w154_582_22e
        have e32 : s28.1 582 15 = ((590 : Nat) : Int) := by rw [r28]; exact w154_582_15e
        refine ir_inc (pc' := 158) rfl rfl rfl rfl rfl (by omega) (by omega) ?_
        refine ir_goto (pc' := 113) rfl rfl ?_
        refine ir_w [(0, (2, ((582 : Nat) : Int))), (2, (0, x2)), (3, (0, q113_l3)), (6, (0, q113_l6)), (7, (0, (q113_l7 + 1)))] ⟨rfl, rfl, rfl, rfl, rfl, trivial⟩ ?_
        exact ih113 (q113_l3) (by omega) (by omega) (q113_l6) (by omega) (by omega) ((q113_l7 + 1)) (by omega) (by omega) s28 hT28 hF28 (w154_582_2) (by omega) (by omega) e29 (w154_582_21) (by omega) (by omega) e30 (by omega) (by omega)
      refine ir_l (pc' := 115) rfl rfl rfl rfl rfl rfl ?_
      refine ir_k (pc' := 117) (v := (0, 9)) rfl rfl rfl (fun _ => rfl) ?_
      refine ir_c_ge (pt := 161) (pc' := 120) rfl rfl rfl (fun c33 => ?_) (fun c33 => ?_)
      · refine ir_k (pc' := 162) (v := (0, 0)) rfl rfl rfl (fun _ => rfl) ?_
        refine ir_s (pc' := 164) rfl rfl rfl rfl rfl rfl ?_
        refine ir_w [(0, (2, ((582 : Nat) : Int))), (2, (0, x2)), (3, (0, q113_l3)), (6, (0, q113_l6)), (7, (0, 0))] ⟨rfl, rfl, rfl, rfl, rfl, trivial⟩ ?_
        exact J164 _ (q113_l3) (by omega) (by omega) (q113_l6) (by omega) (by omega) (0) (by omega) (by omega) s_113 hT_113 hF_113 (w113_582_2) (by omega) (by omega) w113_582_2e (w113_582_21) (by omega) (by omega) w113_582_21e (by omega) (Int.self_le_toNat _)
      · refine ir_l (pc' := 121) rfl rfl rfl rfl rfl rfl ?_
        refine ir_ugr (pc' := 124) rfl rfl rfl uf_0_22 usk_0 hT_113 (fun b34 b34e b34k => ?_)
        obtain rfl := usg_14 b34k
        refine ir_l (pc' := 126) rfl rfl rfl rfl rfl rfl ?_
        refine ir_l (pc' := 127) rfl rfl rfl rfl rfl rfl ?_
        refine ir_ugr (pc' := 130) rfl rfl rfl uf_0_15 usk_0 hT_113 (fun b35 b35e b35k => ?_)
        obtain rfl := usg_8 b35k
        refine ir_l (pc' := 131) rfl rfl rfl rfl rfl rfl ?_
        refine ir_l (pc' := 133) rfl rfl rfl rfl rfl rfl ?_
        refine ir_add (pc' := 134) rfl rfl (by omega) (by omega) ?_
        refine ir_ula (pc' := 135) rfl rfl ue_8 (by decide) usk_8 hT_113 (by omega) (by omega) (fun z36 z36e z36l z36h => ?_)
        clear z36e
        refine ir_uls (pc' := 136) rfl rfl ue_14 usk_14 hT_113 (by omega) (by omega) (by omega) (by omega) (fun s37 hT37 r37 o37 => ?_)
        have hF37 := ur_row (k := 14) hF_113 (by decide) usk_14 r37 o37
        have e38 : s37.1 582 2 = w113_582_2 := by rw [r37]; exact w113_582_2e
        have e39 : s37.1 582 21 = w113_582_21 := by rw [r37]; exact w113_582_21e
        have e40 : s37.1 582 22 = ((596 : Nat) : Int) := by rw [r37]; exact b34e
        have e41 : s37.1 582 15 = ((590 : Nat) : Int) := by rw [r37]; exact b35e
        refine ir_l (pc' := 137) rfl rfl rfl rfl rfl rfl ?_
        refine ir_getR (pc' := 140) rfl rfl rfl (hG_at usk_0) rfl e41 ?_
        refine ir_l (pc' := 141) rfl rfl rfl rfl rfl rfl ?_
        refine ir_l (pc' := 143) rfl rfl rfl rfl rfl rfl ?_
        refine ir_add (pc' := 144) rfl rfl (by omega) (by omega) ?_
        refine ir_l (pc' := 146) rfl rfl rfl rfl rfl rfl ?_
        refine ir_z_ne (pt := 153) (pc' := 149) rfl rfl rfl (fun c42 => ?_) (fun c42 => ?_)
        · refine ir_k (pc' := 154) (v := (1, 0)) rfl rfl rfl (fun _ => rfl) ?_
          refine ir_w [(0, (2, ((582 : Nat) : Int))), (2, (0, x2)), (3, (0, q113_l3)), (6, (0, q113_l6)), (7, (0, q113_l7))] ⟨rfl, rfl, rfl, rfl, rfl, trivial⟩ ?_
          exact J154 ((q113_l3 + q113_l7)) (by omega) (by omega) (0) (by omega) (by omega) (by omega) s37 hT37 hF37 (w113_582_2) (by omega) (by omega) e38 e41 (w113_582_21) (by omega) (by omega) e39 e40 (by omega)
        · refine ir_k (pc' := 150) (v := (1, 1)) rfl rfl rfl (fun _ => rfl) ?_
          refine ir_goto (pc' := 154) rfl rfl ?_
          refine ir_w [(0, (2, ((582 : Nat) : Int))), (2, (0, x2)), (3, (0, q113_l3)), (6, (0, q113_l6)), (7, (0, q113_l7))] ⟨rfl, rfl, rfl, rfl, rfl, trivial⟩ ?_
          exact J154 ((q113_l3 + q113_l7)) (by omega) (by omega) (1) (by omega) (by omega) (by omega) s37 hT37 hF37 (w113_582_2) (by omega) (by omega) e38 e41 (w113_582_21) (by omega) (by omega) e39 e40 (by omega)
  have J108 : ∀ (q108_l3 : Int) (q108_l3l : 0 ≤ q108_l3) (q108_l3h : q108_l3 ≤ 90) (q108_s0 : Int) (q108_s0l : -2147483648 ≤ q108_s0) (q108_s0h : q108_s0 ≤ 2147483647) (s_108 : im_S) (hT_108 : uI s_108) (hF_108 : ur [(0, 2), (0, 3), (8, 1000), (9, 1000), (10, 1000), (14, 1000)] s0 s_108) (w108_582_2 : Int) (w108_582_2l : 0 ≤ w108_582_2) (w108_582_2h : w108_582_2 ≤ 3) (w108_582_2e : s_108.1 582 2 = w108_582_2) (w108_582_21 : Int) (w108_582_21l : 0 ≤ w108_582_21) (w108_582_21h : w108_582_21 ≤ 10) (w108_582_21e : s_108.1 582 21 = w108_582_21) (i108_0 : s0.1 582 2 ≤ w108_582_2), ir gG rm_P L ys (d + 2) rm_p_X10_raise (108, [(0, (2, ((582 : Nat) : Int))), (2, (0, x2)), (3, (0, q108_l3))], [(0, q108_s0)], s_108) (fun r : im_Re => r.1 = none ∧ (uI r.2 ∧ ur [(0, 2), (0, 3), (8, 1000), (9, 1000), (10, 1000), (14, 1000)] s0 r.2 ∧ s0.1 582 2 ≤ r.2.1 582 2)) := by
    intro q108_l3 q108_l3l q108_l3h q108_s0 q108_s0l q108_s0h s_108 hT_108 hF_108 w108_582_2 w108_582_2l w108_582_2h w108_582_2e w108_582_21 w108_582_21l w108_582_21h w108_582_21e i108_0
    refine ir_s (pc' := 110) rfl rfl rfl rfl rfl rfl ?_
    refine ir_k (pc' := 111) (v := (0, 0)) rfl rfl rfl (fun _ => rfl) ?_
    refine ir_s (pc' := 113) rfl rfl rfl rfl rfl rfl ?_
    refine ir_w [(0, (2, ((582 : Nat) : Int))), (2, (0, x2)), (3, (0, q108_l3)), (6, (0, q108_s0)), (7, (0, 0))] ⟨rfl, rfl, rfl, rfl, rfl, trivial⟩ ?_
    exact J113 _ (q108_l3) (by omega) (by omega) (q108_s0) (by omega) (by omega) (0) (by omega) (by omega) s_108 hT_108 hF_108 (w108_582_2) (by omega) (by omega) w108_582_2e (w108_582_21) (by omega) (by omega) w108_582_21e (by omega) (Int.self_le_toNat _)
  have J107 : ∀ (q107_l3 : Int) (q107_l3l : 0 ≤ q107_l3) (q107_l3h : q107_l3 ≤ 90) (s_107 : im_S) (hT_107 : uI s_107) (hF_107 : ur [(0, 2), (0, 3), (8, 1000), (9, 1000), (10, 1000), (14, 1000)] s0 s_107) (w107_582_2 : Int) (w107_582_2l : 0 ≤ w107_582_2) (w107_582_2h : w107_582_2 ≤ 3) (w107_582_2e : s_107.1 582 2 = w107_582_2) (w107_582_21 : Int) (w107_582_21l : 0 ≤ w107_582_21) (w107_582_21h : w107_582_21 ≤ 10) (w107_582_21e : s_107.1 582 21 = w107_582_21) (i107_0 : s0.1 582 2 ≤ w107_582_2), ir gG rm_P L ys (d + 2) rm_p_X10_raise (107, [(0, (2, ((582 : Nat) : Int))), (1, (0, x1)), (2, (0, x2)), (3, (0, q107_l3))], [], s_107) (fun r : im_Re => r.1 = none ∧ (uI r.2 ∧ ur [(0, 2), (0, 3), (8, 1000), (9, 1000), (10, 1000), (14, 1000)] s0 r.2 ∧ s0.1 582 2 ≤ r.2.1 582 2)) := by
    intro q107_l3 q107_l3l q107_l3h s_107 hT_107 hF_107 w107_582_2 w107_582_2l w107_582_2h w107_582_2e w107_582_21 w107_582_21l w107_582_21h w107_582_21e i107_0
    refine ir_l (pc' := 108) rfl rfl rfl rfl rfl rfl ?_
    refine ir_w [(0, (2, ((582 : Nat) : Int))), (2, (0, x2)), (3, (0, q107_l3))] ⟨rfl, rfl, rfl, trivial⟩ ?_
    exact J108 (q107_l3) (by omega) (by omega) (x1) (by omega) (by omega) s_107 hT_107 hF_107 (w107_582_2) (by omega) (by omega) w107_582_2e (w107_582_21) (by omega) (by omega) w107_582_21e (by omega)
  have J87 : ∀ (q87_l3 : Int) (q87_l3l : 0 ≤ q87_l3) (q87_l3h : q87_l3 ≤ 90) (q87_s0 : Int) (q87_s0l : 0 ≤ q87_s0) (q87_s0h : q87_s0 ≤ 1) (s_87 : im_S) (hT_87 : uI s_87) (hF_87 : ur [(0, 2), (0, 3), (8, 1000), (9, 1000), (10, 1000), (14, 1000)] s0 s_87) (w87_582_2 : Int) (w87_582_2l : 0 ≤ w87_582_2) (w87_582_2h : w87_582_2 ≤ 3) (w87_582_2e : s_87.1 582 2 = w87_582_2) (w87_582_21 : Int) (w87_582_21l : 0 ≤ w87_582_21) (w87_582_21h : w87_582_21 ≤ 10) (w87_582_21e : s_87.1 582 21 = w87_582_21) (i87_0 : s0.1 582 2 ≤ w87_582_2), ir gG rm_P L ys (d + 2) rm_p_X10_raise (87, [(0, (2, ((582 : Nat) : Int))), (1, (0, x1)), (2, (0, x2)), (3, (0, q87_l3))], [(0, q87_s0)], s_87) (fun r : im_Re => r.1 = none ∧ (uI r.2 ∧ ur [(0, 2), (0, 3), (8, 1000), (9, 1000), (10, 1000), (14, 1000)] s0 r.2 ∧ s0.1 582 2 ≤ r.2.1 582 2)) := by
    intro q87_l3 q87_l3l q87_l3h q87_s0 q87_s0l q87_s0h s_87 hT_87 hF_87 w87_582_2 w87_582_2l w87_582_2h w87_582_2e w87_582_21 w87_582_21l w87_582_21h w87_582_21e i87_0
    refine ir_s (pc' := 89) rfl rfl rfl rfl rfl rfl ?_
    refine ir_l (pc' := 91) rfl rfl rfl rfl rfl rfl ?_
    refine ir_z_eq (pt := 107) (pc' := 94) rfl rfl rfl (fun c43 => ?_) (fun c43 => ?_)
    · refine ir_w [(0, (2, ((582 : Nat) : Int))), (1, (0, x1)), (2, (0, x2)), (3, (0, q87_l3))] ⟨rfl, rfl, rfl, rfl, trivial⟩ ?_
      exact J107 (q87_l3) (by omega) (by omega) s_87 hT_87 hF_87 (w87_582_2) (by omega) (by omega) w87_582_2e (w87_582_21) (by omega) (by omega) w87_582_21e (by omega)
    · refine ir_l (pc' := 95) rfl rfl rfl rfl rfl rfl ?_
      refine ir_k (pc' := 96) (v := (0, 2)) rfl rfl rfl (fun _ => rfl) ?_
      refine ir_c_le (pt := 107) (pc' := 99) rfl rfl rfl (fun c44 => ?_) (fun c44 => ?_)
      · refine ir_w [(0, (2, ((582 : Nat) : Int))), (1, (0, x1)), (2, (0, x2)), (3, (0, q87_l3))] ⟨rfl, rfl, rfl, rfl, trivial⟩ ?_
        exact J107 (q87_l3) (by omega) (by omega) s_87 hT_87 hF_87 (w87_582_2) (by omega) (by omega) w87_582_2e (w87_582_21) (by omega) (by omega) w87_582_21e (by omega)
      · refine ir_k (pc' := 100) (v := (0, 2)) rfl rfl rfl (fun _ => rfl) ?_
        refine ir_l (pc' := 101) rfl rfl rfl rfl rfl rfl ?_
        refine ir_k (pc' := 102) (v := (0, 2)) rfl rfl rfl (fun _ => rfl) ?_
        refine ir_remN (pc' := 103) rfl rfl (by omega) (by omega) (by omega) (by omega) ?_
        refine ir_add (pc' := 104) rfl rfl (by omega) (by omega) ?_
        refine ir_goto (pc' := 108) rfl rfl ?_
        refine ir_w [(0, (2, ((582 : Nat) : Int))), (2, (0, x2)), (3, (0, q87_l3))] ⟨rfl, rfl, rfl, trivial⟩ ?_
        exact J108 (q87_l3) (by omega) (by omega) ((2 + (x1 % 2))) (by omega) (by omega) s_87 hT_87 hF_87 (w87_582_2) (by omega) (by omega) w87_582_2e (w87_582_21) (by omega) (by omega) w87_582_21e (by omega)
  have J86 : ∀ (q86_l3 : Int) (q86_l3l : 0 ≤ q86_l3) (q86_l3h : q86_l3 ≤ 90) (s_86 : im_S) (hT_86 : uI s_86) (hF_86 : ur [(0, 2), (0, 3), (8, 1000), (9, 1000), (10, 1000), (14, 1000)] s0 s_86) (w86_582_2 : Int) (w86_582_2l : 0 ≤ w86_582_2) (w86_582_2h : w86_582_2 ≤ 3) (w86_582_2e : s_86.1 582 2 = w86_582_2) (w86_582_21 : Int) (w86_582_21l : 0 ≤ w86_582_21) (w86_582_21h : w86_582_21 ≤ 10) (w86_582_21e : s_86.1 582 21 = w86_582_21) (i86_0 : s0.1 582 2 ≤ w86_582_2), ir gG rm_P L ys (d + 2) rm_p_X10_raise (86, [(0, (2, ((582 : Nat) : Int))), (1, (0, x1)), (2, (0, x2)), (3, (0, q86_l3))], [], s_86) (fun r : im_Re => r.1 = none ∧ (uI r.2 ∧ ur [(0, 2), (0, 3), (8, 1000), (9, 1000), (10, 1000), (14, 1000)] s0 r.2 ∧ s0.1 582 2 ≤ r.2.1 582 2)) := by
    intro q86_l3 q86_l3l q86_l3h s_86 hT_86 hF_86 w86_582_2 w86_582_2l w86_582_2h w86_582_2e w86_582_21 w86_582_21l w86_582_21h w86_582_21e i86_0
    refine ir_k (pc' := 87) (v := (0, 0)) rfl rfl rfl (fun _ => rfl) ?_
    refine ir_w [(0, (2, ((582 : Nat) : Int))), (1, (0, x1)), (2, (0, x2)), (3, (0, q86_l3))] ⟨rfl, rfl, rfl, rfl, trivial⟩ ?_
    exact J87 (q86_l3) (by omega) (by omega) (0) (by omega) (by omega) s_86 hT_86 hF_86 (w86_582_2) (by omega) (by omega) w86_582_2e (w86_582_21) (by omega) (by omega) w86_582_21e (by omega)
  have J14 : ∀ n : Nat, ∀ (q14_l3 : Int) (q14_l3l : 0 ≤ q14_l3) (q14_l3h : q14_l3 ≤ 90) (q14_l4 : Int) (q14_l4l : 0 ≤ q14_l4) (q14_l4h : q14_l4 ≤ 1) (q14_l5 : Int) (q14_l5l : 1 ≤ q14_l5) (q14_l5h : q14_l5 ≤ 9) (s_14 : im_S) (hT_14 : uI s_14) (hF_14 : ur [(0, 2), (0, 3), (8, 1000), (9, 1000), (10, 1000), (14, 1000)] s0 s_14) (w14_582_2 : Int) (w14_582_2l : 0 ≤ w14_582_2) (w14_582_2h : w14_582_2 ≤ 3) (w14_582_2e : s_14.1 582 2 = w14_582_2) (w14_582_21 : Int) (w14_582_21l : 0 ≤ w14_582_21) (w14_582_21h : w14_582_21 ≤ 10) (w14_582_21e : s_14.1 582 21 = w14_582_21) (i14_0 : s0.1 582 2 ≤ w14_582_2), (9 + 1 - q14_l5) ≤ (n : Int) → ir gG rm_P L ys (d + 2) rm_p_X10_raise (14, [(0, (2, ((582 : Nat) : Int))), (1, (0, x1)), (2, (0, x2)), (3, (0, q14_l3)), (4, (0, q14_l4)), (5, (0, q14_l5))], [], s_14) (fun r : im_Re => r.1 = none ∧ (uI r.2 ∧ ur [(0, 2), (0, 3), (8, 1000), (9, 1000), (10, 1000), (14, 1000)] s0 r.2 ∧ s0.1 582 2 ≤ r.2.1 582 2)) := by
    intro n
    induction n with
    | zero => intro q14_l3 q14_l3l q14_l3h q14_l4 q14_l4l q14_l4h q14_l5 q14_l5l q14_l5h s_14 hT_14 hF_14 w14_582_2 w14_582_2l w14_582_2h w14_582_2e w14_582_21 w14_582_21l w14_582_21h w14_582_21e i14_0 hr; exfalso; omega
    | succ n ih14 =>
      intro q14_l3 q14_l3l q14_l3h q14_l4 q14_l4l q14_l4h q14_l5 q14_l5l q14_l5h s_14 hT_14 hF_14 w14_582_2 w14_582_2l w14_582_2h w14_582_2e w14_582_21 w14_582_21l w14_582_21h w14_582_21e i14_0 hr
      have J45 : ∀ (q45_s0 : Int) (q45_s0l : 0 ≤ q45_s0) (q45_s0h : q45_s0 ≤ 1) (f45_5h : q14_l5 ≤ 8) (s_45 : im_S) (hT_45 : uI s_45) (hF_45 : ur [(0, 2), (0, 3), (8, 1000), (9, 1000), (10, 1000), (14, 1000)] s0 s_45) (w45_582_2 : Int) (w45_582_2l : 0 ≤ w45_582_2) (w45_582_2h : w45_582_2 ≤ 3) (w45_582_2e : s_45.1 582 2 = w45_582_2) (w45_582_21 : Int) (w45_582_21l : 0 ≤ w45_582_21) (w45_582_21h : w45_582_21 ≤ 10) (w45_582_21e : s_45.1 582 21 = w45_582_21) (i45_0 : s0.1 582 2 ≤ w45_582_2), ir gG rm_P L ys (d + 2) rm_p_X10_raise (45, [(0, (2, ((582 : Nat) : Int))), (1, (0, x1)), (2, (0, x2)), (3, (0, q14_l3)), (5, (0, q14_l5))], [(0, q45_s0)], s_45) (fun r : im_Re => r.1 = none ∧ (uI r.2 ∧ ur [(0, 2), (0, 3), (8, 1000), (9, 1000), (10, 1000), (14, 1000)] s0 r.2 ∧ s0.1 582 2 ≤ r.2.1 582 2)) := by
        intro q45_s0 q45_s0l q45_s0h f45_5h s_45 hT_45 hF_45 w45_582_2 w45_582_2l w45_582_2h w45_582_2e w45_582_21 w45_582_21l w45_582_21h w45_582_21e i45_0
        refine ir_s (pc' := 47) rfl rfl rfl rfl rfl rfl ?_
        refine ir_inc (pc' := 50) rfl rfl rfl rfl rfl (by omega) (by omega) ?_
        refine ir_goto (pc' := 14) rfl rfl ?_
        refine ir_w [(0, (2, ((582 : Nat) : Int))), (1, (0, x1)), (2, (0, x2)), (3, (0, q14_l3)), (4, (0, q45_s0)), (5, (0, (q14_l5 + 1)))] ⟨rfl, rfl, rfl, rfl, rfl, rfl, trivial⟩ ?_
        exact ih14 (q14_l3) (by omega) (by omega) (q45_s0) (by omega) (by omega) ((q14_l5 + 1)) (by omega) (by omega) s_45 hT_45 hF_45 (w45_582_2) (by omega) (by omega) w45_582_2e (w45_582_21) (by omega) (by omega) w45_582_21e (by omega) (by omega)
      have J44 : ∀ (f44_5h : q14_l5 ≤ 8) (s_44 : im_S) (hT_44 : uI s_44) (hF_44 : ur [(0, 2), (0, 3), (8, 1000), (9, 1000), (10, 1000), (14, 1000)] s0 s_44) (w44_582_2 : Int) (w44_582_2l : 0 ≤ w44_582_2) (w44_582_2h : w44_582_2 ≤ 3) (w44_582_2e : s_44.1 582 2 = w44_582_2) (w44_582_21 : Int) (w44_582_21l : 0 ≤ w44_582_21) (w44_582_21h : w44_582_21 ≤ 10) (w44_582_21e : s_44.1 582 21 = w44_582_21) (i44_0 : s0.1 582 2 ≤ w44_582_2), ir gG rm_P L ys (d + 2) rm_p_X10_raise (44, [(0, (2, ((582 : Nat) : Int))), (1, (0, x1)), (2, (0, x2)), (3, (0, q14_l3)), (5, (0, q14_l5))], [], s_44) (fun r : im_Re => r.1 = none ∧ (uI r.2 ∧ ur [(0, 2), (0, 3), (8, 1000), (9, 1000), (10, 1000), (14, 1000)] s0 r.2 ∧ s0.1 582 2 ≤ r.2.1 582 2)) := by
        intro f44_5h s_44 hT_44 hF_44 w44_582_2 w44_582_2l w44_582_2h w44_582_2e w44_582_21 w44_582_21l w44_582_21h w44_582_21e i44_0
        refine ir_k (pc' := 45) (v := (0, 0)) rfl rfl rfl (fun _ => rfl) ?_
        refine ir_w [(0, (2, ((582 : Nat) : Int))), (1, (0, x1)), (2, (0, x2)), (3, (0, q14_l3)), (5, (0, q14_l5))] ⟨rfl, rfl, rfl, rfl, rfl, trivial⟩ ?_
        exact J45 (0) (by omega) (by omega) (by omega) s_44 hT_44 hF_44 (w44_582_2) (by omega) (by omega) w44_582_2e (w44_582_21) (by omega) (by omega) w44_582_21e (by omega)
      refine ir_l (pc' := 16) rfl rfl rfl rfl rfl rfl ?_
      refine ir_k (pc' := 18) (v := (0, 9)) rfl rfl rfl (fun _ => rfl) ?_
      refine ir_c_ge (pt := 53) (pc' := 21) rfl rfl rfl (fun c45 => ?_) (fun c45 => ?_)
      · refine ir_l (pc' := 55) rfl rfl rfl rfl rfl rfl ?_
        refine ir_z_eq (pt := 86) (pc' := 58) rfl rfl rfl (fun c46 => ?_) (fun c46 => ?_)
        · refine ir_w [(0, (2, ((582 : Nat) : Int))), (1, (0, x1)), (2, (0, x2)), (3, (0, q14_l3))] ⟨rfl, rfl, rfl, rfl, trivial⟩ ?_
          exact J86 (q14_l3) (by omega) (by omega) s_14 hT_14 hF_14 (w14_582_2) (by omega) (by omega) w14_582_2e (w14_582_21) (by omega) (by omega) w14_582_21e (by omega)
        · refine ir_l (pc' := 59) rfl rfl rfl rfl rfl rfl ?_
          refine ir_ugr (pc' := 62) rfl rfl rfl uf_0_16 usk_0 hT_14 (fun b47 b47e b47k => ?_)
          obtain rfl := usg_9 b47k
          refine ir_l (pc' := 63) rfl rfl rfl rfl rfl rfl ?_
          refine ir_ula (pc' := 64) rfl rfl ue_9 (by decide) usk_9 hT_14 (by omega) (by omega) (fun z48 z48e z48l z48h => ?_)
          clear z48e
          refine ir_k (pc' := 67) (v := (1, (-1))) rfl rfl rfl (fun _ => rfl) ?_
          refine ir_lcmp (pc' := 68) rfl rfl (by omega) (by omega) (by omega) (by omega) (fun z49 z49c => ?_)
          refine ir_z_lt (pt := 86) (pc' := 71) rfl rfl rfl (fun c50 => ?_) (fun c50 => ?_)
          · refine ir_w [(0, (2, ((582 : Nat) : Int))), (1, (0, x1)), (2, (0, x2)), (3, (0, q14_l3))] ⟨rfl, rfl, rfl, rfl, trivial⟩ ?_
            exact J86 (q14_l3) (by omega) (by omega) s_14 hT_14 hF_14 (w14_582_2) (by omega) (by omega) w14_582_2e (w14_582_21) (by omega) (by omega) w14_582_21e (by omega)
          · refine ir_l (pc' := 72) rfl rfl rfl rfl rfl rfl ?_
            refine ir_getR (pc' := 75) rfl rfl rfl (hG_at usk_0) rfl b47e ?_
            refine ir_l (pc' := 76) rfl rfl rfl rfl rfl rfl ?_
            refine ir_ula (pc' := 77) rfl rfl ue_9 (by decide) usk_9 hT_14 (by omega) (by omega) (fun z51 z51e z51l z51h => ?_)
            clear z51e
            refine ir_k (pc' := 78) (v := (1, 1)) rfl rfl rfl (fun _ => rfl) ?_
            refine ir_lcmp (pc' := 79) rfl rfl (by omega) (by omega) (by omega) (by omega) (fun z52 z52c => ?_)
            refine ir_z_gt (pt := 86) (pc' := 82) rfl rfl rfl (fun c53 => ?_) (fun c53 => ?_)
            · refine ir_w [(0, (2, ((582 : Nat) : Int))), (1, (0, x1)), (2, (0, x2)), (3, (0, q14_l3))] ⟨rfl, rfl, rfl, rfl, trivial⟩ ?_
              exact J86 (q14_l3) (by omega) (by omega) s_14 hT_14 hF_14 (w14_582_2) (by omega) (by omega) w14_582_2e (w14_582_21) (by omega) (by omega) w14_582_21e (by omega)
            · refine ir_k (pc' := 83) (v := (0, 1)) rfl rfl rfl (fun _ => rfl) ?_
              refine ir_goto (pc' := 87) rfl rfl ?_
              refine ir_w [(0, (2, ((582 : Nat) : Int))), (1, (0, x1)), (2, (0, x2)), (3, (0, q14_l3))] ⟨rfl, rfl, rfl, rfl, trivial⟩ ?_
              exact J87 (q14_l3) (by omega) (by omega) (1) (by omega) (by omega) s_14 hT_14 hF_14 (w14_582_2) (by omega) (by omega) w14_582_2e (w14_582_21) (by omega) (by omega) w14_582_21e (by omega)
      · refine ir_l (pc' := 23) rfl rfl rfl rfl rfl rfl ?_
        refine ir_z_eq (pt := 44) (pc' := 26) rfl rfl rfl (fun c54 => ?_) (fun c54 => ?_)
        · refine ir_w [(0, (2, ((582 : Nat) : Int))), (1, (0, x1)), (2, (0, x2)), (3, (0, q14_l3)), (5, (0, q14_l5))] ⟨rfl, rfl, rfl, rfl, rfl, trivial⟩ ?_
          exact J44 (by omega) s_14 hT_14 hF_14 (w14_582_2) (by omega) (by omega) w14_582_2e (w14_582_21) (by omega) (by omega) w14_582_21e (by omega)
        · refine ir_l (pc' := 27) rfl rfl rfl rfl rfl rfl ?_
          refine ir_ugr (pc' := 30) rfl rfl rfl uf_0_16 usk_0 hT_14 (fun b55 b55e b55k => ?_)
          obtain rfl := usg_9 b55k
          refine ir_l (pc' := 31) rfl rfl rfl rfl rfl rfl ?_
          refine ir_l (pc' := 33) rfl rfl rfl rfl rfl rfl ?_
          refine ir_add (pc' := 34) rfl rfl (by omega) (by omega) ?_
          refine ir_ula (pc' := 35) rfl rfl ue_9 (by decide) usk_9 hT_14 (by omega) (by omega) (fun z56 z56e z56l z56h => ?_)
          clear z56e
          refine ir_k (pc' := 36) (v := (1, 0)) rfl rfl rfl (fun _ => rfl) ?_
          refine ir_lcmp (pc' := 37) rfl rfl (by omega) (by omega) (by omega) (by omega) (fun z57 z57c => ?_)
          refine ir_z_ne (pt := 44) (pc' := 40) rfl rfl rfl (fun c58 => ?_) (fun c58 => ?_)
          · refine ir_w [(0, (2, ((582 : Nat) : Int))), (1, (0, x1)), (2, (0, x2)), (3, (0, q14_l3)), (5, (0, q14_l5))] ⟨rfl, rfl, rfl, rfl, rfl, trivial⟩ ?_
            exact J44 (by omega) s_14 hT_14 hF_14 (w14_582_2) (by omega) (by omega) w14_582_2e (w14_582_21) (by omega) (by omega) w14_582_21e (by omega)
          · refine ir_k (pc' := 41) (v := (0, 1)) rfl rfl rfl (fun _ => rfl) ?_
            refine ir_goto (pc' := 45) rfl rfl ?_
            refine ir_w [(0, (2, ((582 : Nat) : Int))), (1, (0, x1)), (2, (0, x2)), (3, (0, q14_l3)), (5, (0, q14_l5))] ⟨rfl, rfl, rfl, rfl, rfl, trivial⟩ ?_
            exact J45 (1) (by omega) (by omega) (by omega) s_14 hT_14 hF_14 (w14_582_2) (by omega) (by omega) w14_582_2e (w14_582_21) (by omega) (by omega) w14_582_21e (by omega)
  obtain ⟨z59, z59e, z59l, z59h⟩ := uI_i uf_0_2 usk_0 hT0
  refine ir_k (pc' := 2) (v := (0, 9)) rfl rfl rfl (fun _ => rfl) ?_
  refine ir_l (pc' := 3) rfl rfl rfl rfl rfl rfl ?_
  refine ir_ugi (pc' := 6) rfl rfl rfl uf_0_21 usk_0 hT0 (fun z60 z60e z60l z60h => ?_)
  refine ir_mul (pc' := 7) rfl rfl (by omega) (by omega) ?_
  refine ir_s (pc' := 8) rfl rfl rfl rfl rfl rfl ?_
  refine ir_k (pc' := 9) (v := (0, 1)) rfl rfl rfl (fun _ => rfl) ?_
  refine ir_s (pc' := 11) rfl rfl rfl rfl rfl rfl ?_
  refine ir_k (pc' := 12) (v := (0, 1)) rfl rfl rfl (fun _ => rfl) ?_
  refine ir_s (pc' := 14) rfl rfl rfl rfl rfl rfl ?_
  refine ir_w [(0, (2, ((582 : Nat) : Int))), (1, (0, x1)), (2, (0, x2)), (3, (0, (9 * z60))), (4, (0, 1)), (5, (0, 1))] ⟨rfl, rfl, rfl, rfl, rfl, rfl, trivial⟩ ?_
  exact J14 _ ((9 * z60)) (by omega) (by omega) (1) (by omega) (by omega) (1) (by omega) (by omega) s0 hT0 hF0 (z59) (by omega) (by omega) z59e (z60) (by omega) (by omega) z60e (by omega) (Int.self_le_toNat _)
