/-! WALKS OF THE REFERENCE'S METHODS, by program -/
theorem rf_isAtomR (L : Nat) (ys : Nat → Int32) (d : Nat) (s0 : im_S) (hT0 : uI s0) (x1 : Int) (x1l : -2147483648 ≤ x1) (x1h : x1 ≤ 2147483647) : icI gG rm_P L ys 0 (d + 1) 49 [(2, ((582 : Nat) : Int)), (0, x1)] s0 (fun z s => uI s ∧ ur [] s0 s ∧ 0 ≤ z ∧ z ≤ 1 ∧ (z = 0 ∨ (0 ≤ x1 ∧ x1 ≤ 9))) := by
  refine ic_startM (M := rm_p_X10_isAtom) om_X10_isAtom (Nat.le_of_ble_eq_true rfl) ?_
  refine ir_w [(0, (2, ((582 : Nat) : Int))), (1, (0, x1))] ⟨rfl, rfl, trivial⟩ ?_
  have hF0 := ur_refl [] s0
  have J24 : ∀ (q24_s0 : Int) (q24_s0l : 0 ≤ q24_s0) (q24_s0h : q24_s0 ≤ 1) (s_24 : im_S) (hT_24 : uI s_24) (hF_24 : ur [] s0 s_24) (w24_582_5 : Int) (w24_582_5l : 0 ≤ w24_582_5) (w24_582_5h : w24_582_5 ≤ 1) (w24_582_5e : s_24.1 582 5 = w24_582_5) (i24_0 : (q24_s0 = 0 ∨ (0 ≤ x1 ∧ x1 ≤ 9))), ir gG rm_P L ys d rm_p_X10_isAtom (24, [], [(0, q24_s0)], s_24) (fun r : im_Re => ∃ z, r.1 = some (0, z) ∧ (uI r.2 ∧ ur [] s0 r.2 ∧ 0 ≤ z ∧ z ≤ 1 ∧ (z = 0 ∨ (0 ≤ x1 ∧ x1 ≤ 9)))) := by
    intro q24_s0 q24_s0l q24_s0h s_24 hT_24 hF_24 w24_582_5 w24_582_5l w24_582_5h w24_582_5e i24_0
    exact ir_zret rfl rfl (by omega) ⟨_, rfl, hT_24, hF_24, by omega, by omega, (by first | omega | (dsimp only; omega))⟩
  have J23 : ∀ (s_23 : im_S) (hT_23 : uI s_23) (hF_23 : ur [] s0 s_23) (w23_582_5 : Int) (w23_582_5l : 0 ≤ w23_582_5) (w23_582_5h : w23_582_5 ≤ 1) (w23_582_5e : s_23.1 582 5 = w23_582_5), ir gG rm_P L ys d rm_p_X10_isAtom (23, [], [], s_23) (fun r : im_Re => ∃ z, r.1 = some (0, z) ∧ (uI r.2 ∧ ur [] s0 r.2 ∧ 0 ≤ z ∧ z ≤ 1 ∧ (z = 0 ∨ (0 ≤ x1 ∧ x1 ≤ 9)))) := by
    intro s_23 hT_23 hF_23 w23_582_5 w23_582_5l w23_582_5h w23_582_5e
    refine ir_k (pc' := 24) (v := (0, 0)) rfl rfl rfl (fun _ => rfl) ?_
    refine ir_w [] trivial ?_
    exact J24 (0) (by omega) (by omega) s_23 hT_23 hF_23 (w23_582_5) (by omega) (by omega) w23_582_5e (by omega)
  refine ir_l (pc' := 1) rfl rfl rfl rfl rfl rfl ?_
  refine ir_ugi (pc' := 4) rfl rfl rfl uf_0_5 usk_0 hT0 (fun z1 z1e z1l z1h => ?_)
  refine ir_z_eq (pt := 23) (pc' := 7) rfl rfl rfl (fun c2 => ?_) (fun c2 => ?_)
  · refine ir_w [] trivial ?_
    exact J23 s0 hT0 hF0 (z1) (by omega) (by omega) z1e
  · refine ir_l (pc' := 8) rfl rfl rfl rfl rfl rfl ?_
    refine ir_z_lt (pt := 23) (pc' := 11) rfl rfl rfl (fun c3 => ?_) (fun c3 => ?_)
    · refine ir_w [] trivial ?_
      exact J23 s0 hT0 hF0 (z1) (by omega) (by omega) z1e
    · refine ir_l (pc' := 12) rfl rfl rfl rfl rfl rfl ?_
      refine ir_l (pc' := 13) rfl rfl rfl rfl rfl rfl ?_
      refine ir_ugi (pc' := 16) rfl rfl rfl uf_0_6 usk_0 hT0 (fun z4 z4e z4l z4h => ?_)
      refine ir_c_ge (pt := 23) (pc' := 19) rfl rfl rfl (fun c5 => ?_) (fun c5 => ?_)
      · refine ir_w [] trivial ?_
        exact J23 s0 hT0 hF0 (z1) (by omega) (by omega) z1e
      · refine ir_k (pc' := 20) (v := (0, 1)) rfl rfl rfl (fun _ => rfl) ?_
        refine ir_goto (pc' := 24) rfl rfl ?_
        refine ir_w [] trivial ?_
        exact J24 (1) (by omega) (by omega) s0 hT0 hF0 (z1) (by omega) (by omega) z1e (by omega)
theorem rf_peekR (L : Nat) (ys : Nat → Int32) (d : Nat) (s0 : im_S) (hT0 : uI s0)  : icI gG rm_P L ys 0 (d + 1) 76 [(2, ((582 : Nat) : Int))] s0 (fun z s => uI s ∧ ur [(0, 4)] s0 s ∧ -1 ≤ z ∧ z ≤ 126 ∧ (z = -1 ∨ s.1 582 4 < s.1 582 1) ∧ s0.1 582 4 ≤ s.1 582 4) := by
  refine ic_startM (M := rm_p_X10_peek) om_X10_peek (Nat.le_of_ble_eq_true rfl) ?_
  refine ir_w [(0, (2, ((582 : Nat) : Int)))] ⟨rfl, trivial⟩ ?_
  have hF0 := ur_refl [(0, 4)] s0
  have J62 : ∀ (q62_s0 : Int) (q62_s0l : -1 ≤ q62_s0) (q62_s0h : q62_s0 ≤ 126) (s_62 : im_S) (hT_62 : uI s_62) (hF_62 : ur [(0, 4)] s0 s_62) (w62_582_1 : Int) (w62_582_1l : 0 ≤ w62_582_1) (w62_582_1h : w62_582_1 ≤ 400) (w62_582_1e : s_62.1 582 1 = w62_582_1) (w62_582_4 : Int) (w62_582_4l : 0 ≤ w62_582_4) (w62_582_4h : w62_582_4 ≤ 400) (w62_582_4e : s_62.1 582 4 = w62_582_4) (i62_0 : (q62_s0 = -1 ∨ w62_582_4 < w62_582_1)) (i62_1 : s0.1 582 4 ≤ w62_582_4), ir gG rm_P L ys d rm_p_X10_peek (62, [], [(0, q62_s0)], s_62) (fun r : im_Re => ∃ z, r.1 = some (0, z) ∧ (uI r.2 ∧ ur [(0, 4)] s0 r.2 ∧ -1 ≤ z ∧ z ≤ 126 ∧ (z = -1 ∨ r.2.1 582 4 < r.2.1 582 1) ∧ s0.1 582 4 ≤ r.2.1 582 4)) := by
    intro q62_s0 q62_s0l q62_s0h s_62 hT_62 hF_62 w62_582_1 w62_582_1l w62_582_1h w62_582_1e w62_582_4 w62_582_4l w62_582_4h w62_582_4e i62_0 i62_1
    exact ir_iret rfl rfl ⟨_, rfl, hT_62, hF_62, by omega, by omega, (by first | omega | (dsimp only; omega)), (by first | omega | (dsimp only; omega))⟩
  have J38 : ∀ (s_38 : im_S) (hT_38 : uI s_38) (hF_38 : ur [(0, 4)] s0 s_38) (w38_582_1 : Int) (w38_582_1l : 0 ≤ w38_582_1) (w38_582_1h : w38_582_1 ≤ 400) (w38_582_1e : s_38.1 582 1 = w38_582_1) (w38_582_4 : Int) (w38_582_4l : 0 ≤ w38_582_4) (w38_582_4h : w38_582_4 ≤ 400) (w38_582_4e : s_38.1 582 4 = w38_582_4) (i38_0 : s0.1 582 4 ≤ w38_582_4), ir gG rm_P L ys d rm_p_X10_peek (38, [(0, (2, ((582 : Nat) : Int)))], [], s_38) (fun r : im_Re => ∃ z, r.1 = some (0, z) ∧ (uI r.2 ∧ ur [(0, 4)] s0 r.2 ∧ -1 ≤ z ∧ z ≤ 126 ∧ (z = -1 ∨ r.2.1 582 4 < r.2.1 582 1) ∧ s0.1 582 4 ≤ r.2.1 582 4)) := by
    intro s_38 hT_38 hF_38 w38_582_1 w38_582_1l w38_582_1h w38_582_1e w38_582_4 w38_582_4l w38_582_4h w38_582_4e i38_0
    refine ir_l (pc' := 39) rfl rfl rfl rfl rfl rfl ?_
    refine ir_getI (pc' := 42) rfl rfl rfl (hG_at usk_0) rfl (by decide) (by decide) w38_582_4e (by omega) (by omega) ?_
    refine ir_l (pc' := 43) rfl rfl rfl rfl rfl rfl ?_
    refine ir_getI (pc' := 46) rfl rfl rfl (hG_at usk_0) rfl (by decide) (by decide) w38_582_1e (by omega) (by omega) ?_
    refine ir_c_ge (pt := 61) (pc' := 49) rfl rfl rfl (fun c1 => ?_) (fun c1 => ?_)
    · refine ir_k (pc' := 62) (v := (0, (-1))) rfl rfl rfl (fun _ => rfl) ?_
      refine ir_w [] trivial ?_
      exact J62 ((-1)) (by omega) (by omega) s_38 hT_38 hF_38 (w38_582_1) (by omega) (by omega) w38_582_1e (w38_582_4) (by omega) (by omega) w38_582_4e (by omega) (by omega)
    · refine ir_l (pc' := 50) rfl rfl rfl rfl rfl rfl ?_
      refine ir_ugr (pc' := 53) rfl rfl rfl uf_0_0 usk_0 hT_38 (fun b2 b2e b2k => ?_)
      obtain rfl := usg_1 b2k
      refine ir_l (pc' := 54) rfl rfl rfl rfl rfl rfl ?_
      refine ir_getI (pc' := 57) rfl rfl rfl (hG_at usk_0) rfl (by decide) (by decide) w38_582_4e (by omega) (by omega) ?_
      refine ir_uia (pc' := 58) rfl rfl ue_1 (by decide) usk_1 hT_38 (by omega) (by omega) (fun z3 z3e z3l z3h => ?_)
      clear z3e
      refine ir_goto (pc' := 62) rfl rfl ?_
      refine ir_w [] trivial ?_
      exact J62 (z3) (by omega) (by omega) s_38 hT_38 hF_38 (w38_582_1) (by omega) (by omega) w38_582_1e (w38_582_4) (by omega) (by omega) w38_582_4e (by omega) (by omega)
  have J0 : ∀ n : Nat, ∀ (s_0 : im_S) (hT_0 : uI s_0) (hF_0 : ur [(0, 4)] s0 s_0) (w0_582_1 : Int) (w0_582_1l : 0 ≤ w0_582_1) (w0_582_1h : w0_582_1 ≤ 400) (w0_582_1e : s_0.1 582 1 = w0_582_1) (w0_582_4 : Int) (w0_582_4l : 0 ≤ w0_582_4) (w0_582_4h : w0_582_4 ≤ 400) (w0_582_4e : s_0.1 582 4 = w0_582_4) (i0_0 : s0.1 582 4 ≤ w0_582_4), (401 - w0_582_4) ≤ (n : Int) → ir gG rm_P L ys d rm_p_X10_peek (0, [(0, (2, ((582 : Nat) : Int)))], [], s_0) (fun r : im_Re => ∃ z, r.1 = some (0, z) ∧ (uI r.2 ∧ ur [(0, 4)] s0 r.2 ∧ -1 ≤ z ∧ z ≤ 126 ∧ (z = -1 ∨ r.2.1 582 4 < r.2.1 582 1) ∧ s0.1 582 4 ≤ r.2.1 582 4)) := by
    intro n
    induction n with
    | zero => intro s_0 hT_0 hF_0 w0_582_1 w0_582_1l w0_582_1h w0_582_1e w0_582_4 w0_582_4l w0_582_4h w0_582_4e i0_0 hr; exfalso; omega
    | succ n ih0 =>
      intro s_0 hT_0 hF_0 w0_582_1 w0_582_1l w0_582_1h w0_582_1e w0_582_4 w0_582_4l w0_582_4h w0_582_4e i0_0 hr
      refine ir_l (pc' := 1) rfl rfl rfl rfl rfl rfl ?_
      refine ir_getI (pc' := 4) rfl rfl rfl (hG_at usk_0) rfl (by decide) (by decide) w0_582_4e (by omega) (by omega) ?_
      refine ir_l (pc' := 5) rfl rfl rfl rfl rfl rfl ?_
      refine ir_getI (pc' := 8) rfl rfl rfl (hG_at usk_0) rfl (by decide) (by decide) w0_582_1e (by omega) (by omega) ?_
      refine ir_c_ge (pt := 38) (pc' := 11) rfl rfl rfl (fun c4 => ?_) (fun c4 => ?_)
      · refine ir_w [(0, (2, ((582 : Nat) : Int)))] ⟨rfl, trivial⟩ ?_
        exact J38 s_0 hT_0 hF_0 (w0_582_1) (by omega) (by omega) w0_582_1e (w0_582_4) (by omega) (by omega) w0_582_4e (by omega)
      · refine ir_l (pc' := 12) rfl rfl rfl rfl rfl rfl ?_
        refine ir_ugr (pc' := 15) rfl rfl rfl uf_0_0 usk_0 hT_0 (fun b5 b5e b5k => ?_)
        obtain rfl := usg_1 b5k
        refine ir_l (pc' := 16) rfl rfl rfl rfl rfl rfl ?_
        refine ir_getI (pc' := 19) rfl rfl rfl (hG_at usk_0) rfl (by decide) (by decide) w0_582_4e (by omega) (by omega) ?_
        refine ir_uia (pc' := 20) rfl rfl ue_1 (by decide) usk_1 hT_0 (by omega) (by omega) (fun z6 z6e z6l z6h => ?_)
        clear z6e
        refine ir_k (pc' := 22) (v := (0, 32)) rfl rfl rfl (fun _ => rfl) ?_
        refine ir_c_ne (pt := 38) (pc' := 25) rfl rfl rfl (fun c7 => ?_) (fun c7 => ?_)
        · refine ir_w [(0, (2, ((582 : Nat) : Int)))] ⟨rfl, trivial⟩ ?_
          exact J38 s_0 hT_0 hF_0 (w0_582_1) (by omega) (by omega) w0_582_1e (w0_582_4) (by omega) (by omega) w0_582_4e (by omega)
        · refine ir_l (pc' := 26) rfl rfl rfl rfl rfl rfl ?_
          refine ir_x (pc' := 27) rfl rfl rfl (fun _ => rfl) ?_
          refine ir_getI (pc' := 30) rfl rfl rfl (hG_at usk_0) rfl (by decide) (by decide) w0_582_4e (by omega) (by omega) ?_
          refine ir_k (pc' := 31) (v := (0, 1)) rfl rfl rfl (fun _ => rfl) ?_
          refine ir_add (pc' := 32) rfl rfl (by omega) (by omega) ?_
          refine ir_upi (pc' := 35) rfl rfl rfl uf_0_4 rfl usk_0 hT_0 rfl (by omega) (by omega) (fun s8 hT8 e8 g8 r8 => ?_)
          have hF8 := ur_put (k := 0) hF_0 (by decide) usk_0 g8 r8
          have e9 : s8.1 582 1 = w0_582_1 := (g8 582 1 (fun z => absurd z.2 (by decide))).trans w0_582_1e
          have e10 : s8.1 582 0 = ((583 : Nat) : Int) := (g8 582 0 (fun z => absurd z.2 (by decide))).trans b5e
          refine ir_goto (pc' := 0) rfl rfl ?_
          refine ir_w [(0, (2, ((582 : Nat) : Int)))] ⟨rfl, trivial⟩ ?_
          exact ih0 s8 hT8 hF8 (w0_582_1) (by omega) (by omega) e9 ((w0_582_4 + 1)) (by omega) (by omega) e8 (by omega) (by omega)
  obtain ⟨z11, z11e, z11l, z11h⟩ := uI_i uf_0_1 usk_0 hT0
  obtain ⟨z12, z12e, z12l, z12h⟩ := uI_i uf_0_4 usk_0 hT0
  refine ir_w [(0, (2, ((582 : Nat) : Int)))] ⟨rfl, trivial⟩ ?_
  exact J0 _ s0 hT0 hF0 (z11) (by omega) (by omega) z11e (z12) (by omega) (by omega) z12e (by omega) (Int.self_le_toNat _)
theorem rf_beginSumR (L : Nat) (ys : Nat → Int32) (d : Nat) (s0 : im_S) (hT0 : uI s0)  : icV gG rm_P L ys (d + 2) 12 [(2, ((582 : Nat) : Int))] s0 (fun s => uI s ∧ ur [(0, 4), (7, 1000), (11, 1000), (12, 1000), (13, 1000)] s0 s ∧ s0.1 582 4 ≤ s.1 582 4 ∧ s0.1 582 2 ≤ s.1 582 2) := by
  refine ic_startM (M := rm_p_X10_beginSum) om_X10_beginSum (Nat.le_of_ble_eq_true rfl) ?_
  refine ir_w [(0, (2, ((582 : Nat) : Int)))] ⟨rfl, trivial⟩ ?_
  have hF0 := ur_refl [(0, 4), (7, 1000), (11, 1000), (12, 1000), (13, 1000)] s0
  have J88 : ∀ (s_88 : im_S) (hT_88 : uI s_88) (hF_88 : ur [(0, 4), (7, 1000), (11, 1000), (12, 1000), (13, 1000)] s0 s_88) (w88_582_1 : Int) (w88_582_1l : 0 ≤ w88_582_1) (w88_582_1h : w88_582_1 ≤ 400) (w88_582_1e : s_88.1 582 1 = w88_582_1) (w88_582_2 : Int) (w88_582_2l : 0 ≤ w88_582_2) (w88_582_2h : w88_582_2 ≤ 3) (w88_582_2e : s_88.1 582 2 = w88_582_2) (w88_582_4 : Int) (w88_582_4l : 0 ≤ w88_582_4) (w88_582_4h : w88_582_4 ≤ 400) (w88_582_4e : s_88.1 582 4 = w88_582_4) (w88_582_18e : s_88.1 582 18 = ((593 : Nat) : Int)) (w88_582_19e : s_88.1 582 19 = ((594 : Nat) : Int)) (w88_582_20e : s_88.1 582 20 = ((595 : Nat) : Int)) (w88_582_21 : Int) (w88_582_21l : 0 ≤ w88_582_21) (w88_582_21h : w88_582_21 ≤ 10) (w88_582_21e : s_88.1 582 21 = w88_582_21) (i88_0 : s0.1 582 4 ≤ w88_582_4) (i88_1 : s0.1 582 2 ≤ w88_582_2), ir gG rm_P L ys (d + 1) rm_p_X10_beginSum (88, [], [], s_88) (fun r : im_Re => r.1 = none ∧ (uI r.2 ∧ ur [(0, 4), (7, 1000), (11, 1000), (12, 1000), (13, 1000)] s0 r.2 ∧ s0.1 582 4 ≤ r.2.1 582 4 ∧ s0.1 582 2 ≤ r.2.1 582 2)) := by
    intro s_88 hT_88 hF_88 w88_582_1 w88_582_1l w88_582_1h w88_582_1e w88_582_2 w88_582_2l w88_582_2h w88_582_2e w88_582_4 w88_582_4l w88_582_4h w88_582_4e w88_582_18e w88_582_19e w88_582_20e w88_582_21 w88_582_21l w88_582_21h w88_582_21e i88_0 i88_1
    exact ir_vret rfl rfl ⟨rfl, hT_88, hF_88, (by first | omega | (dsimp only; omega)), (by first | omega | (dsimp only; omega))⟩
  have J2 : ∀ n : Nat, ∀ (q2_l1 : Int) (q2_l1l : 0 ≤ q2_l1) (q2_l1h : q2_l1 ≤ 9) (s_2 : im_S) (hT_2 : uI s_2) (hF_2 : ur [(0, 4), (7, 1000), (11, 1000), (12, 1000), (13, 1000)] s0 s_2) (w2_582_1 : Int) (w2_582_1l : 0 ≤ w2_582_1) (w2_582_1h : w2_582_1 ≤ 400) (w2_582_1e : s_2.1 582 1 = w2_582_1) (w2_582_2 : Int) (w2_582_2l : 0 ≤ w2_582_2) (w2_582_2h : w2_582_2 ≤ 3) (w2_582_2e : s_2.1 582 2 = w2_582_2) (w2_582_4 : Int) (w2_582_4l : 0 ≤ w2_582_4) (w2_582_4h : w2_582_4 ≤ 400) (w2_582_4e : s_2.1 582 4 = w2_582_4) (i2_0 : s0.1 582 4 ≤ w2_582_4) (i2_1 : s0.1 582 2 ≤ w2_582_2), (9 + 1 - q2_l1) ≤ (n : Int) → ir gG rm_P L ys (d + 1) rm_p_X10_beginSum (2, [(0, (2, ((582 : Nat) : Int))), (1, (0, q2_l1))], [], s_2) (fun r : im_Re => r.1 = none ∧ (uI r.2 ∧ ur [(0, 4), (7, 1000), (11, 1000), (12, 1000), (13, 1000)] s0 r.2 ∧ s0.1 582 4 ≤ r.2.1 582 4 ∧ s0.1 582 2 ≤ r.2.1 582 2)) := by
    intro n
    induction n with
    | zero => intro q2_l1 q2_l1l q2_l1h s_2 hT_2 hF_2 w2_582_1 w2_582_1l w2_582_1h w2_582_1e w2_582_2 w2_582_2l w2_582_2h w2_582_2e w2_582_4 w2_582_4l w2_582_4h w2_582_4e i2_0 i2_1 hr; exfalso; omega
    | succ n ih2 =>
      intro q2_l1 q2_l1l q2_l1h s_2 hT_2 hF_2 w2_582_1 w2_582_1l w2_582_1h w2_582_1e w2_582_2 w2_582_2l w2_582_2h w2_582_2e w2_582_4 w2_582_4l w2_582_4h w2_582_4e i2_0 i2_1 hr
      refine ir_l (pc' := 3) rfl rfl rfl rfl rfl rfl ?_
      refine ir_k (pc' := 5) (v := (0, 9)) rfl rfl rfl (fun _ => rfl) ?_
      refine ir_c_ge (pt := 29) (pc' := 8) rfl rfl rfl (fun c1 => ?_) (fun c1 => ?_)
      · refine ir_l (pc' := 30) rfl rfl rfl rfl rfl rfl ?_
        refine ir_ugr (pc' := 33) rfl rfl rfl uf_0_18 usk_0 hT_2 (fun b2 b2e b2k => ?_)
        obtain rfl := usg_11 b2k
        refine ir_l (pc' := 34) rfl rfl rfl rfl rfl rfl ?_
        refine ir_ugi (pc' := 37) rfl rfl rfl uf_0_21 usk_0 hT_2 (fun z3 z3e z3l z3h => ?_)
        refine ir_k (pc' := 38) (v := (0, 1)) rfl rfl rfl (fun _ => rfl) ?_
        refine ir_uis (pc' := 39) rfl rfl rfl rfl ue_11 usk_11 hT_2 (by omega) (by omega) (rfl) (by omega) (by omega) (fun s4 hT4 r4 o4 => ?_)
        have hF4 := ur_row (k := 11) hF_2 (by decide) usk_11 r4 o4
        have e5 : s4.1 582 1 = w2_582_1 := by rw [r4]; exact w2_582_1e
        have e6 : s4.1 582 2 = w2_582_2 := by rw [r4]; exact w2_582_2e
        have e7 : s4.1 582 4 = w2_582_4 := by rw [r4]; exact w2_582_4e
        have e8 : s4.1 582 18 = ((593 : Nat) : Int) := by rw [r4]; exact b2e
        have e9 : s4.1 582 21 = z3 := by rw [r4]; exact z3e
        refine ir_l (pc' := 40) rfl rfl rfl rfl rfl rfl ?_
        refine ir_ugr (pc' := 43) rfl rfl rfl uf_0_19 usk_0 hT4 (fun b10 b10e b10k => ?_)
        obtain rfl := usg_12 b10k
        refine ir_l (pc' := 44) rfl rfl rfl rfl rfl rfl ?_
        refine ir_getI (pc' := 47) rfl rfl rfl (hG_at usk_0) rfl (by decide) (by decide) e9 (by omega) (by omega) ?_
        refine ir_k (pc' := 48) (v := (0, (-1))) rfl rfl rfl (fun _ => rfl) ?_
        refine ir_uis (pc' := 49) rfl rfl rfl rfl ue_12 usk_12 hT4 (by omega) (by omega) (rfl) (by omega) (by omega) (fun s11 hT11 r11 o11 => ?_)
        have hF11 := ur_row (k := 12) hF4 (by decide) usk_12 r11 o11
        have e12 : s11.1 582 1 = w2_582_1 := by rw [r11]; exact e5
        have e13 : s11.1 582 2 = w2_582_2 := by rw [r11]; exact e6
        have e14 : s11.1 582 4 = w2_582_4 := by rw [r11]; exact e7
        have e15 : s11.1 582 18 = ((593 : Nat) : Int) := by rw [r11]; exact e8
        have e16 : s11.1 582 21 = z3 := by rw [r11]; exact e9
        have e17 : s11.1 582 19 = ((594 : Nat) : Int) := by rw [r11]; exact b10e
        refine ir_l (pc' := 50) rfl rfl rfl rfl rfl rfl ?_
        refine ir_ugr (pc' := 53) rfl rfl rfl uf_0_20 usk_0 hT11 (fun b18 b18e b18k => ?_)
        obtain rfl := usg_13 b18k
        refine ir_l (pc' := 54) rfl rfl rfl rfl rfl rfl ?_
        refine ir_getI (pc' := 57) rfl rfl rfl (hG_at usk_0) rfl (by decide) (by decide) e16 (by omega) (by omega) ?_
        refine ir_k (pc' := 58) (v := (0, (-1))) rfl rfl rfl (fun _ => rfl) ?_
        refine ir_uis (pc' := 59) rfl rfl rfl rfl ue_13 usk_13 hT11 (by omega) (by omega) (rfl) (by omega) (by omega) (fun s19 hT19 r19 o19 => ?_)
        have hF19 := ur_row (k := 13) hF11 (by decide) usk_13 r19 o19
        have e20 : s19.1 582 1 = w2_582_1 := by rw [r19]; exact e12
        have e21 : s19.1 582 2 = w2_582_2 := by rw [r19]; exact e13
        have e22 : s19.1 582 4 = w2_582_4 := by rw [r19]; exact e14
        have e23 : s19.1 582 18 = ((593 : Nat) : Int) := by rw [r19]; exact e15
        have e24 : s19.1 582 21 = z3 := by rw [r19]; exact e16
        have e25 : s19.1 582 19 = ((594 : Nat) : Int) := by rw [r19]; exact e17
        have e26 : s19.1 582 20 = ((595 : Nat) : Int) := by rw [r19]; exact b18e
        refine ir_l (pc' := 60) rfl rfl rfl rfl rfl rfl ?_
        refine ir_cVI (pc' := 63) rfl rfl rfl rfl rfl (Nat.le_of_ble_eq_true rfl) oo_X10_peek (hG_at usk_0) (rf_peekR L ys d s19 hT19  ) (fun z27 s28 hr => ?_)
        obtain ⟨hT28, hG28, z27l, z27h, p28_0, p28_1⟩ := hr
        have hF28 := ur_trans hF19 hG28 (by decide)
        have e29 : s28.1 582 1 = w2_582_1 := (hG28.1 _ _ usk_0 1 (by decide)).trans e20
        have e30 : s28.1 582 2 = w2_582_2 := (hG28.1 _ _ usk_0 2 (by decide)).trans e21
        have e31 : s28.1 582 18 = ((593 : Nat) : Int) := (hG28.1 _ _ usk_0 18 (by decide)).trans e23
        have e32 : s28.1 582 21 = z3 := (hG28.1 _ _ usk_0 21 (by decide)).trans e24
        have e33 : s28.1 582 19 = ((594 : Nat) : Int) := (hG28.1 _ _ usk_0 19 (by decide)).trans e25
        have e34 : s28.1 582 20 = ((595 : Nat) : Int) := (hG28.1 _ _ usk_0 20 (by decide)).trans e26
        obtain ⟨z35, z35e, z35l, z35h⟩ := uI_i uf_0_4 usk_0 hT28
        refine ir_k (pc' := 65) (v := (0, 45)) rfl rfl rfl (fun _ => rfl) ?_
        refine ir_c_ne (pt := 88) (pc' := 68) rfl rfl rfl (fun c36 => ?_) (fun c36 => ?_)
        · refine ir_w [] trivial ?_
          exact J88 s28 hT28 hF28 (w2_582_1) (by omega) (by omega) e29 (w2_582_2) (by omega) (by omega) e30 (z35) (by omega) (by omega) z35e e31 e33 e34 (z3) (by omega) (by omega) e32 (by omega) (by omega)
        · refine ir_l (pc' := 69) rfl rfl rfl rfl rfl rfl ?_
          refine ir_getR (pc' := 72) rfl rfl rfl (hG_at usk_0) rfl e31 ?_
          refine ir_l (pc' := 73) rfl rfl rfl rfl rfl rfl ?_
          refine ir_getI (pc' := 76) rfl rfl rfl (hG_at usk_0) rfl (by decide) (by decide) e32 (by omega) (by omega) ?_
          refine ir_k (pc' := 77) (v := (0, (-1))) rfl rfl rfl (fun _ => rfl) ?_
          refine ir_uis (pc' := 78) rfl rfl rfl rfl ue_11 usk_11 hT28 (by omega) (by omega) (rfl) (by omega) (by omega) (fun s37 hT37 r37 o37 => ?_)
          have hF37 := ur_row (k := 11) hF28 (by decide) usk_11 r37 o37
          have e38 : s37.1 582 1 = w2_582_1 := by rw [r37]; exact e29
          have e39 : s37.1 582 2 = w2_582_2 := by rw [r37]; exact e30
          have e40 : s37.1 582 18 = ((593 : Nat) : Int) := by rw [r37]; exact e31
          have e41 : s37.1 582 21 = z3 := by rw [r37]; exact e32
          have e42 : s37.1 582 19 = ((594 : Nat) : Int) := by rw [r37]; exact e33
          have e43 : s37.1 582 20 = ((595 : Nat) : Int) := by rw [r37]; exact e34
          have e44 : s37.1 582 4 = z35 := by rw [r37]; exact z35e
          refine ir_l (pc' := 79) rfl rfl rfl rfl rfl rfl ?_
          refine ir_x (pc' := 80) rfl rfl rfl (fun _ => rfl) ?_
          refine ir_getI (pc' := 83) rfl rfl rfl (hG_at usk_0) rfl (by decide) (by decide) e44 (by omega) (by omega) ?_
          refine ir_k (pc' := 84) (v := (0, 1)) rfl rfl rfl (fun _ => rfl) ?_
          refine ir_add (pc' := 85) rfl rfl (by omega) (by omega) ?_
          refine ir_upi (pc' := 88) rfl rfl rfl uf_0_4 rfl usk_0 hT37 rfl (by omega) (by omega) (fun s45 hT45 e45 g45 r45 => ?_)
          have hF45 := ur_put (k := 0) hF37 (by decide) usk_0 g45 r45
          have e46 : s45.1 582 1 = w2_582_1 := (g45 582 1 (fun z => absurd z.2 (by decide))).trans e38
          have e47 : s45.1 582 2 = w2_582_2 := (g45 582 2 (fun z => absurd z.2 (by decide))).trans e39
          have e48 : s45.1 582 18 = ((593 : Nat) : Int) := (g45 582 18 (fun z => absurd z.2 (by decide))).trans e40
          have e49 : s45.1 582 21 = z3 := (g45 582 21 (fun z => absurd z.2 (by decide))).trans e41
          have e50 : s45.1 582 19 = ((594 : Nat) : Int) := (g45 582 19 (fun z => absurd z.2 (by decide))).trans e42
          have e51 : s45.1 582 20 = ((595 : Nat) : Int) := (g45 582 20 (fun z => absurd z.2 (by decide))).trans e43
          refine ir_w [] trivial ?_
          exact J88 s45 hT45 hF45 (w2_582_1) (by omega) (by omega) e46 (w2_582_2) (by omega) (by omega) e47 ((z35 + 1)) (by omega) (by omega) e45 e48 e50 e51 (z3) (by omega) (by omega) e49 (by omega) (by omega)
      · refine ir_l (pc' := 9) rfl rfl rfl rfl rfl rfl ?_
        refine ir_ugr (pc' := 12) rfl rfl rfl uf_0_14 usk_0 hT_2 (fun b52 b52e b52k => ?_)
        obtain rfl := usg_7 b52k
        refine ir_k (pc' := 14) (v := (0, 9)) rfl rfl rfl (fun _ => rfl) ?_
        refine ir_l (pc' := 15) rfl rfl rfl rfl rfl rfl ?_
        refine ir_ugi (pc' := 18) rfl rfl rfl uf_0_21 usk_0 hT_2 (fun z53 z53e z53l z53h => ?_)
        refine ir_mul (pc' := 19) rfl rfl (by omega) (by omega) ?_
        refine ir_l (pc' := 20) rfl rfl rfl rfl rfl rfl ?_
        refine ir_add (pc' := 21) rfl rfl (by omega) (by omega) ?_
        refine ir_k (pc' := 22) (v := (1, 0)) rfl rfl rfl (fun _ => rfl) ?_
        refine ir_uls (pc' := 23) rfl rfl ue_7 usk_7 hT_2 (by omega) (by omega) (by omega) (by omega) (fun s54 hT54 r54 o54 => ?_)
        have hF54 := ur_row (k := 7) hF_2 (by decide) usk_7 r54 o54
        have e55 : s54.1 582 1 = w2_582_1 := by rw [r54]; exact w2_582_1e
        have e56 : s54.1 582 2 = w2_582_2 := by rw [r54]; exact w2_582_2e
        have e57 : s54.1 582 4 = w2_582_4 := by rw [r54]; exact w2_582_4e
        have e58 : s54.1 582 14 = ((589 : Nat) : Int) := by rw [r54]; exact b52e
        have e59 : s54.1 582 21 = z53 := by rw [r54]; exact z53e
        refine ir_inc (pc' := 26) rfl rfl rfl rfl rfl (by omega) (by omega) ?_
        refine ir_goto (pc' := 2) rfl rfl ?_
        refine ir_w [(0, (2, ((582 : Nat) : Int))), (1, (0, (q2_l1 + 1)))] ⟨rfl, rfl, trivial⟩ ?_
        exact ih2 ((q2_l1 + 1)) (by omega) (by omega) s54 hT54 hF54 (w2_582_1) (by omega) (by omega) e55 (w2_582_2) (by omega) (by omega) e56 (w2_582_4) (by omega) (by omega) e57 (by omega) (by omega) (by omega)
  obtain ⟨z60, z60e, z60l, z60h⟩ := uI_i uf_0_1 usk_0 hT0
  obtain ⟨z61, z61e, z61l, z61h⟩ := uI_i uf_0_2 usk_0 hT0
  obtain ⟨z62, z62e, z62l, z62h⟩ := uI_i uf_0_4 usk_0 hT0
  refine ir_k (pc' := 1) (v := (0, 0)) rfl rfl rfl (fun _ => rfl) ?_
  refine ir_s (pc' := 2) rfl rfl rfl rfl rfl rfl ?_
  refine ir_w [(0, (2, ((582 : Nat) : Int))), (1, (0, 0))] ⟨rfl, rfl, trivial⟩ ?_
  exact J2 _ (0) (by omega) (by omega) s0 hT0 hF0 (z60) (by omega) (by omega) z60e (z61) (by omega) (by omega) z61e (z62) (by omega) (by omega) z62e (by omega) (by omega) (Int.self_le_toNat _)
theorem rf_isDigitR (L : Nat) (ys : Nat → Int32) (d : Nat) (s0 : im_S) (hT0 : uI s0) (x0 : Int) (x0l : -2147483648 ≤ x0) (x0h : x0 ≤ 2147483647) : icI gG rm_P L ys 0 (d + 1) 52 [(0, x0)] s0 (fun z s => uI s ∧ ur [] s0 s ∧ 0 ≤ z ∧ z ≤ 1) := by
  refine ic_startM (M := rm_p_X10_isDigit) om_X10_isDigit (Nat.le_of_ble_eq_true rfl) ?_
  refine ir_w [(0, (0, x0))] ⟨rfl, trivial⟩ ?_
  have hF0 := ur_refl [] s0
  have J17 : ∀ (q17_s0 : Int) (q17_s0l : 0 ≤ q17_s0) (q17_s0h : q17_s0 ≤ 1) (s_17 : im_S) (hT_17 : uI s_17) (hF_17 : ur [] s0 s_17), ir gG rm_P L ys d rm_p_X10_isDigit (17, [], [(0, q17_s0)], s_17) (fun r : im_Re => ∃ z, r.1 = some (0, z) ∧ (uI r.2 ∧ ur [] s0 r.2 ∧ 0 ≤ z ∧ z ≤ 1)) := by
    intro q17_s0 q17_s0l q17_s0h s_17 hT_17 hF_17
    exact ir_zret rfl rfl (by omega) ⟨_, rfl, hT_17, hF_17, by omega, by omega⟩
  have J16 : ∀ (s_16 : im_S) (hT_16 : uI s_16) (hF_16 : ur [] s0 s_16), ir gG rm_P L ys d rm_p_X10_isDigit (16, [], [], s_16) (fun r : im_Re => ∃ z, r.1 = some (0, z) ∧ (uI r.2 ∧ ur [] s0 r.2 ∧ 0 ≤ z ∧ z ≤ 1)) := by
    intro s_16 hT_16 hF_16
    refine ir_k (pc' := 17) (v := (0, 0)) rfl rfl rfl (fun _ => rfl) ?_
    refine ir_w [] trivial ?_
    exact J17 (0) (by omega) (by omega) s_16 hT_16 hF_16
  refine ir_l (pc' := 1) rfl rfl rfl rfl rfl rfl ?_
  refine ir_k (pc' := 3) (v := (0, 48)) rfl rfl rfl (fun _ => rfl) ?_
  refine ir_c_lt (pt := 16) (pc' := 6) rfl rfl rfl (fun c1 => ?_) (fun c1 => ?_)
  · refine ir_w [] trivial ?_
    exact J16 s0 hT0 hF0
  · refine ir_l (pc' := 7) rfl rfl rfl rfl rfl rfl ?_
    refine ir_k (pc' := 9) (v := (0, 57)) rfl rfl rfl (fun _ => rfl) ?_
    refine ir_c_gt (pt := 16) (pc' := 12) rfl rfl rfl (fun c2 => ?_) (fun c2 => ?_)
    · refine ir_w [] trivial ?_
      exact J16 s0 hT0 hF0
    · refine ir_k (pc' := 13) (v := (0, 1)) rfl rfl rfl (fun _ => rfl) ?_
      refine ir_goto (pc' := 17) rfl rfl ?_
      refine ir_w [] trivial ?_
      exact J17 (1) (by omega) (by omega) s0 hT0 hF0
theorem rf_isTokenR (L : Nat) (ys : Nat → Int32) (d : Nat) (s0 : im_S) (hT0 : uI s0) (x0 : Int) (x0l : -2147483648 ≤ x0) (x0h : x0 ≤ 2147483647) : icI gG rm_P L ys 0 (d + 2) 58 [(0, x0)] s0 (fun z s => uI s ∧ ur [] s0 s ∧ 0 ≤ z ∧ z ≤ 1) := by
  refine ic_startM (M := rm_p_X10_isToken) om_X10_isToken (Nat.le_of_ble_eq_true rfl) ?_
  refine ir_w [(0, (0, x0))] ⟨rfl, trivial⟩ ?_
  have hF0 := ur_refl [] s0
  have J102 : ∀ (q102_s0 : Int) (q102_s0l : 0 ≤ q102_s0) (q102_s0h : q102_s0 ≤ 1) (s_102 : im_S) (hT_102 : uI s_102) (hF_102 : ur [] s0 s_102), ir gG rm_P L ys (d + 1) rm_p_X10_isToken (102, [], [(0, q102_s0)], s_102) (fun r : im_Re => ∃ z, r.1 = some (0, z) ∧ (uI r.2 ∧ ur [] s0 r.2 ∧ 0 ≤ z ∧ z ≤ 1)) := by
    intro q102_s0 q102_s0l q102_s0h s_102 hT_102 hF_102
    exact ir_zret rfl rfl (by omega) ⟨_, rfl, hT_102, hF_102, by omega, by omega⟩
  have J97 : ∀ (s_97 : im_S) (hT_97 : uI s_97) (hF_97 : ur [] s0 s_97), ir gG rm_P L ys (d + 1) rm_p_X10_isToken (97, [], [], s_97) (fun r : im_Re => ∃ z, r.1 = some (0, z) ∧ (uI r.2 ∧ ur [] s0 r.2 ∧ 0 ≤ z ∧ z ≤ 1)) := by
    intro s_97 hT_97 hF_97
    refine ir_k (pc' := 98) (v := (0, 1)) rfl rfl rfl (fun _ => rfl) ?_
    refine ir_goto (pc' := 102) rfl rfl ?_
    refine ir_w [] trivial ?_
    exact J102 (1) (by omega) (by omega) s_97 hT_97 hF_97
  refine ir_l (pc' := 1) rfl rfl rfl rfl rfl rfl ?_
  refine ir_cSI (pc' := 4) rfl rfl rfl rfl rfl rfl (Nat.le_of_ble_eq_true rfl) (rf_isDigitR L ys d s0 hT0 (x0) (by omega) (by omega) ) (fun z1 s2 hr => ?_)
  obtain ⟨hT2, hG2, z1l, z1h⟩ := hr
  have hF2 := ur_trans hF0 hG2 (by decide)
  refine ir_z_ne (pt := 97) (pc' := 7) rfl rfl rfl (fun c3 => ?_) (fun c3 => ?_)
  · refine ir_w [] trivial ?_
    exact J97 s2 hT2 hF2
  · refine ir_l (pc' := 8) rfl rfl rfl rfl rfl rfl ?_
    refine ir_k (pc' := 10) (v := (0, 124)) rfl rfl rfl (fun _ => rfl) ?_
    refine ir_c_eq (pt := 97) (pc' := 13) rfl rfl rfl (fun c4 => ?_) (fun c4 => ?_)
    · refine ir_w [] trivial ?_
      exact J97 s2 hT2 hF2
    · refine ir_l (pc' := 14) rfl rfl rfl rfl rfl rfl ?_
      refine ir_k (pc' := 16) (v := (0, 38)) rfl rfl rfl (fun _ => rfl) ?_
      refine ir_c_eq (pt := 97) (pc' := 19) rfl rfl rfl (fun c5 => ?_) (fun c5 => ?_)
      · refine ir_w [] trivial ?_
        exact J97 s2 hT2 hF2
      · refine ir_l (pc' := 20) rfl rfl rfl rfl rfl rfl ?_
        refine ir_k (pc' := 22) (v := (0, 126)) rfl rfl rfl (fun _ => rfl) ?_
        refine ir_c_eq (pt := 97) (pc' := 25) rfl rfl rfl (fun c6 => ?_) (fun c6 => ?_)
        · refine ir_w [] trivial ?_
          exact J97 s2 hT2 hF2
        · refine ir_l (pc' := 26) rfl rfl rfl rfl rfl rfl ?_
          refine ir_k (pc' := 28) (v := (0, 91)) rfl rfl rfl (fun _ => rfl) ?_
          refine ir_c_eq (pt := 97) (pc' := 31) rfl rfl rfl (fun c7 => ?_) (fun c7 => ?_)
          · refine ir_w [] trivial ?_
            exact J97 s2 hT2 hF2
          · refine ir_l (pc' := 32) rfl rfl rfl rfl rfl rfl ?_
            refine ir_k (pc' := 34) (v := (0, 93)) rfl rfl rfl (fun _ => rfl) ?_
            refine ir_c_eq (pt := 97) (pc' := 37) rfl rfl rfl (fun c8 => ?_) (fun c8 => ?_)
            · refine ir_w [] trivial ?_
              exact J97 s2 hT2 hF2
            · refine ir_l (pc' := 38) rfl rfl rfl rfl rfl rfl ?_
              refine ir_k (pc' := 40) (v := (0, 61)) rfl rfl rfl (fun _ => rfl) ?_
              refine ir_c_eq (pt := 97) (pc' := 43) rfl rfl rfl (fun c9 => ?_) (fun c9 => ?_)
              · refine ir_w [] trivial ?_
                exact J97 s2 hT2 hF2
              · refine ir_l (pc' := 44) rfl rfl rfl rfl rfl rfl ?_
                refine ir_k (pc' := 46) (v := (0, 60)) rfl rfl rfl (fun _ => rfl) ?_
                refine ir_c_eq (pt := 97) (pc' := 49) rfl rfl rfl (fun c10 => ?_) (fun c10 => ?_)
                · refine ir_w [] trivial ?_
                  exact J97 s2 hT2 hF2
                · refine ir_l (pc' := 50) rfl rfl rfl rfl rfl rfl ?_
                  refine ir_k (pc' := 52) (v := (0, 62)) rfl rfl rfl (fun _ => rfl) ?_
                  refine ir_c_eq (pt := 97) (pc' := 55) rfl rfl rfl (fun c11 => ?_) (fun c11 => ?_)
                  · refine ir_w [] trivial ?_
                    exact J97 s2 hT2 hF2
                  · refine ir_l (pc' := 56) rfl rfl rfl rfl rfl rfl ?_
                    refine ir_k (pc' := 58) (v := (0, 45)) rfl rfl rfl (fun _ => rfl) ?_
                    refine ir_c_eq (pt := 97) (pc' := 61) rfl rfl rfl (fun c12 => ?_) (fun c12 => ?_)
                    · refine ir_w [] trivial ?_
                      exact J97 s2 hT2 hF2
                    · refine ir_l (pc' := 62) rfl rfl rfl rfl rfl rfl ?_
                      refine ir_k (pc' := 64) (v := (0, 43)) rfl rfl rfl (fun _ => rfl) ?_
                      refine ir_c_eq (pt := 97) (pc' := 67) rfl rfl rfl (fun c13 => ?_) (fun c13 => ?_)
                      · refine ir_w [] trivial ?_
                        exact J97 s2 hT2 hF2
                      · refine ir_l (pc' := 68) rfl rfl rfl rfl rfl rfl ?_
                        refine ir_k (pc' := 70) (v := (0, 42)) rfl rfl rfl (fun _ => rfl) ?_
                        refine ir_c_eq (pt := 97) (pc' := 73) rfl rfl rfl (fun c14 => ?_) (fun c14 => ?_)
                        · refine ir_w [] trivial ?_
                          exact J97 s2 hT2 hF2
                        · refine ir_l (pc' := 74) rfl rfl rfl rfl rfl rfl ?_
                          refine ir_k (pc' := 76) (v := (0, 94)) rfl rfl rfl (fun _ => rfl) ?_
                          refine ir_c_eq (pt := 97) (pc' := 79) rfl rfl rfl (fun c15 => ?_) (fun c15 => ?_)
                          · refine ir_w [] trivial ?_
                            exact J97 s2 hT2 hF2
                          · refine ir_l (pc' := 80) rfl rfl rfl rfl rfl rfl ?_
                            refine ir_k (pc' := 82) (v := (0, 120)) rfl rfl rfl (fun _ => rfl) ?_
                            refine ir_c_eq (pt := 97) (pc' := 85) rfl rfl rfl (fun c16 => ?_) (fun c16 => ?_)
                            · refine ir_w [] trivial ?_
                              exact J97 s2 hT2 hF2
                            · refine ir_l (pc' := 86) rfl rfl rfl rfl rfl rfl ?_
                              refine ir_k (pc' := 88) (v := (0, 40)) rfl rfl rfl (fun _ => rfl) ?_
                              refine ir_c_eq (pt := 97) (pc' := 91) rfl rfl rfl (fun c17 => ?_) (fun c17 => ?_)
                              · refine ir_w [] trivial ?_
                                exact J97 s2 hT2 hF2
                              · refine ir_l (pc' := 92) rfl rfl rfl rfl rfl rfl ?_
                                refine ir_k (pc' := 94) (v := (0, 41)) rfl rfl rfl (fun _ => rfl) ?_
                                refine ir_c_ne (pt := 101) (pc' := 97) rfl rfl rfl (fun c18 => ?_) (fun c18 => ?_)
                                · refine ir_k (pc' := 102) (v := (0, 0)) rfl rfl rfl (fun _ => rfl) ?_
                                  refine ir_w [] trivial ?_
                                  exact J102 (0) (by omega) (by omega) s2 hT2 hF2
                                · refine ir_w [] trivial ?_
                                  exact J97 s2 hT2 hF2
theorem rf_failR (L : Nat) (ys : Nat → Int32) (d : Nat) (s0 : im_S) (hT0 : uI s0) (x1 : Int) (x1l : 1 ≤ x1) (x1h : x1 ≤ 3) (x2 : Int) (x2l : -2 ≤ x2) (x2h : x2 ≤ 400) : icV gG rm_P L ys (d + 1) 35 [(2, ((582 : Nat) : Int)), (0, x1), (0, x2)] s0 (fun s => uI s ∧ ur [(0, 2), (0, 3)] s0 s ∧ 1 ≤ s.1 582 2 ∧ s0.1 582 2 ≤ s.1 582 2) := by
  refine ic_startM (M := rm_p_X10_fail) om_X10_fail (Nat.le_of_ble_eq_true rfl) ?_
  refine ir_w [(0, (2, ((582 : Nat) : Int))), (1, (0, x1)), (2, (0, x2))] ⟨rfl, rfl, rfl, trivial⟩ ?_
  have hF0 := ur_refl [(0, 2), (0, 3)] s0
  have J17 : ∀ (s_17 : im_S) (hT_17 : uI s_17) (hF_17 : ur [(0, 2), (0, 3)] s0 s_17) (w17_582_2 : Int) (w17_582_2l : 1 ≤ w17_582_2) (w17_582_2h : w17_582_2 ≤ 3) (w17_582_2e : s_17.1 582 2 = w17_582_2) (i17_0 : s0.1 582 2 ≤ w17_582_2), ir gG rm_P L ys d rm_p_X10_fail (17, [], [], s_17) (fun r : im_Re => r.1 = none ∧ (uI r.2 ∧ ur [(0, 2), (0, 3)] s0 r.2 ∧ 1 ≤ r.2.1 582 2 ∧ s0.1 582 2 ≤ r.2.1 582 2)) := by
    intro s_17 hT_17 hF_17 w17_582_2 w17_582_2l w17_582_2h w17_582_2e i17_0
    exact ir_vret rfl rfl ⟨rfl, hT_17, hF_17, (by first | omega | (dsimp only; omega)), (by first | omega | (dsimp only; omega))⟩
  obtain ⟨z1, z1e, z1l, z1h⟩ := uI_i uf_0_2 usk_0 hT0
  refine ir_l (pc' := 1) rfl rfl rfl rfl rfl rfl ?_
  refine ir_getI (pc' := 4) rfl rfl rfl (hG_at usk_0) rfl (by decide) (by decide) z1e (by omega) (by omega) ?_
  refine ir_z_ne (pt := 17) (pc' := 7) rfl rfl rfl (fun c2 => ?_) (fun c2 => ?_)
  · refine ir_w [] trivial ?_
    exact J17 s0 hT0 hF0 (z1) (by omega) (by omega) z1e (by omega)
  · refine ir_l (pc' := 8) rfl rfl rfl rfl rfl rfl ?_
    refine ir_l (pc' := 9) rfl rfl rfl rfl rfl rfl ?_
    refine ir_upi (pc' := 12) rfl rfl rfl uf_0_2 rfl usk_0 hT0 rfl (by omega) (by omega) (fun s3 hT3 e3 g3 r3 => ?_)
    have hF3 := ur_put (k := 0) hF0 (by decide) usk_0 g3 r3
    refine ir_l (pc' := 13) rfl rfl rfl rfl rfl rfl ?_
    refine ir_l (pc' := 14) rfl rfl rfl rfl rfl rfl ?_
    refine ir_upi (pc' := 17) rfl rfl rfl uf_0_3 rfl usk_0 hT3 rfl (by omega) (by omega) (fun s4 hT4 e4 g4 r4 => ?_)
    have hF4 := ur_put (k := 0) hF3 (by decide) usk_0 g4 r4
    have e5 : s4.1 582 2 = x1 := (g4 582 2 (fun z => absurd z.2 (by decide))).trans e3
    refine ir_w [] trivial ?_
    exact J17 s4 hT4 hF4 (x1) (by omega) (by omega) e5 (by omega)
theorem rf_cannotR (L : Nat) (ys : Nat → Int32) (d : Nat) (s0 : im_S) (hT0 : uI s0)  : icV gG rm_P L ys (d + 3) 14 [(2, ((582 : Nat) : Int))] s0 (fun s => uI s ∧ ur [(0, 2), (0, 3), (0, 4)] s0 s ∧ s0.1 582 4 ≤ s.1 582 4 ∧ s0.1 582 2 ≤ s.1 582 2 ∧ 1 ≤ s.1 582 2) := by
  refine ic_startM (M := rm_p_X10_cannot) om_X10_cannot (Nat.le_of_ble_eq_true rfl) ?_
  refine ir_w [(0, (2, ((582 : Nat) : Int)))] ⟨rfl, trivial⟩ ?_
  have hF0 := ur_refl [(0, 2), (0, 3), (0, 4)] s0
  have J23 : ∀ (q23_s1 : Int) (q23_s1l : 1 ≤ q23_s1) (q23_s1h : q23_s1 ≤ 2) (s_23 : im_S) (hT_23 : uI s_23) (hF_23 : ur [(0, 2), (0, 3), (0, 4)] s0 s_23) (w23_582_1 : Int) (w23_582_1l : 0 ≤ w23_582_1) (w23_582_1h : w23_582_1 ≤ 400) (w23_582_1e : s_23.1 582 1 = w23_582_1) (w23_582_2 : Int) (w23_582_2l : 0 ≤ w23_582_2) (w23_582_2h : w23_582_2 ≤ 3) (w23_582_2e : s_23.1 582 2 = w23_582_2) (w23_582_4 : Int) (w23_582_4l : 0 ≤ w23_582_4) (w23_582_4h : w23_582_4 ≤ 400) (w23_582_4e : s_23.1 582 4 = w23_582_4) (i23_0 : s0.1 582 4 ≤ w23_582_4) (i23_1 : s0.1 582 2 ≤ w23_582_2), ir gG rm_P L ys (d + 2) rm_p_X10_cannot (23, [(0, (2, ((582 : Nat) : Int)))], [(0, q23_s1), (2, ((582 : Nat) : Int))], s_23) (fun r : im_Re => r.1 = none ∧ (uI r.2 ∧ ur [(0, 2), (0, 3), (0, 4)] s0 r.2 ∧ s0.1 582 4 ≤ r.2.1 582 4 ∧ s0.1 582 2 ≤ r.2.1 582 2 ∧ 1 ≤ r.2.1 582 2)) := by
    intro q23_s1 q23_s1l q23_s1h s_23 hT_23 hF_23 w23_582_1 w23_582_1l w23_582_1h w23_582_1e w23_582_2 w23_582_2l w23_582_2h w23_582_2e w23_582_4 w23_582_4l w23_582_4h w23_582_4e i23_0 i23_1
    refine ir_l (pc' := 24) rfl rfl rfl rfl rfl rfl ?_
    refine ir_getI (pc' := 27) rfl rfl rfl (hG_at usk_0) rfl (by decide) (by decide) w23_582_4e (by omega) (by omega) ?_
    refine ir_cVV (pc' := 30) rfl rfl rfl rfl rfl (Nat.le_of_ble_eq_true rfl) oo_X10_fail (hG_at usk_0) (rf_failR L ys (d + 1) s_23 hT_23 (q23_s1) (by omega) (by omega) (w23_582_4) (by omega) (by omega) ) (fun s2 hr => ?_)
    obtain ⟨hT2, hG2, p2_0, p2_1⟩ := hr
    have hF2 := ur_trans hF_23 hG2 (by decide)
    have e3 : s2.1 582 1 = w23_582_1 := (hG2.1 _ _ usk_0 1 (by decide)).trans w23_582_1e
    have e4 : s2.1 582 4 = w23_582_4 := (hG2.1 _ _ usk_0 4 (by decide)).trans w23_582_4e
    obtain ⟨z5, z5e, z5l, z5h⟩ := uI_i uf_0_2 usk_0 hT2
    exact ir_vret rfl rfl ⟨rfl, hT2, hF2, (by first | omega | (dsimp only; omega)), (by first | omega | (dsimp only; omega)), (by first | omega | (dsimp only; omega))⟩
  have J18 : ∀ (s_18 : im_S) (hT_18 : uI s_18) (hF_18 : ur [(0, 2), (0, 3), (0, 4)] s0 s_18) (w18_582_1 : Int) (w18_582_1l : 0 ≤ w18_582_1) (w18_582_1h : w18_582_1 ≤ 400) (w18_582_1e : s_18.1 582 1 = w18_582_1) (w18_582_2 : Int) (w18_582_2l : 0 ≤ w18_582_2) (w18_582_2h : w18_582_2 ≤ 3) (w18_582_2e : s_18.1 582 2 = w18_582_2) (w18_582_4 : Int) (w18_582_4l : 0 ≤ w18_582_4) (w18_582_4h : w18_582_4 ≤ 400) (w18_582_4e : s_18.1 582 4 = w18_582_4) (i18_0 : s0.1 582 4 ≤ w18_582_4) (i18_1 : s0.1 582 2 ≤ w18_582_2), ir gG rm_P L ys (d + 2) rm_p_X10_cannot (18, [(0, (2, ((582 : Nat) : Int)))], [(2, ((582 : Nat) : Int))], s_18) (fun r : im_Re => r.1 = none ∧ (uI r.2 ∧ ur [(0, 2), (0, 3), (0, 4)] s0 r.2 ∧ s0.1 582 4 ≤ r.2.1 582 4 ∧ s0.1 582 2 ≤ r.2.1 582 2 ∧ 1 ≤ r.2.1 582 2)) := by
    intro s_18 hT_18 hF_18 w18_582_1 w18_582_1l w18_582_1h w18_582_1e w18_582_2 w18_582_2l w18_582_2h w18_582_2e w18_582_4 w18_582_4l w18_582_4h w18_582_4e i18_0 i18_1
    refine ir_k (pc' := 19) (v := (0, 2)) rfl rfl rfl (fun _ => rfl) ?_
    refine ir_goto (pc' := 23) rfl rfl ?_
    refine ir_w [(0, (2, ((582 : Nat) : Int)))] ⟨rfl, trivial⟩ ?_
    exact J23 (2) (by omega) (by omega) s_18 hT_18 hF_18 (w18_582_1) (by omega) (by omega) w18_582_1e (w18_582_2) (by omega) (by omega) w18_582_2e (w18_582_4) (by omega) (by omega) w18_582_4e (by omega) (by omega)
  obtain ⟨z6, z6e, z6l, z6h⟩ := uI_i uf_0_1 usk_0 hT0
  obtain ⟨z7, z7e, z7l, z7h⟩ := uI_i uf_0_2 usk_0 hT0
  obtain ⟨z8, z8e, z8l, z8h⟩ := uI_i uf_0_4 usk_0 hT0
  refine ir_l (pc' := 1) rfl rfl rfl rfl rfl rfl ?_
  refine ir_cVI (pc' := 4) rfl rfl rfl rfl rfl (Nat.le_of_ble_eq_true rfl) oo_X10_peek (hG_at usk_0) (rf_peekR L ys (d + 1) s0 hT0  ) (fun z9 s10 hr => ?_)
  obtain ⟨hT10, hG10, z9l, z9h, p10_0, p10_1⟩ := hr
  have hF10 := ur_trans hF0 hG10 (by decide)
  have e11 : s10.1 582 1 = z6 := (hG10.1 _ _ usk_0 1 (by decide)).trans z6e
  have e12 : s10.1 582 2 = z7 := (hG10.1 _ _ usk_0 2 (by decide)).trans z7e
  obtain ⟨z13, z13e, z13l, z13h⟩ := uI_i uf_0_4 usk_0 hT10
  refine ir_s (pc' := 5) rfl rfl rfl rfl rfl rfl ?_
  refine ir_l (pc' := 6) rfl rfl rfl rfl rfl rfl ?_
  refine ir_l (pc' := 7) rfl rfl rfl rfl rfl rfl ?_
  refine ir_k (pc' := 8) (v := (0, (-1))) rfl rfl rfl (fun _ => rfl) ?_
  refine ir_c_eq (pt := 18) (pc' := 11) rfl rfl rfl (fun c14 => ?_) (fun c14 => ?_)
  · refine ir_w [(0, (2, ((582 : Nat) : Int)))] ⟨rfl, trivial⟩ ?_
    exact J18 s10 hT10 hF10 (z6) (by omega) (by omega) e11 (z7) (by omega) (by omega) e12 (z13) (by omega) (by omega) z13e (by omega) (by omega)
  · refine ir_l (pc' := 12) rfl rfl rfl rfl rfl rfl ?_
    refine ir_cSI (pc' := 15) rfl rfl rfl rfl rfl rfl (Nat.le_of_ble_eq_true rfl) (rf_isTokenR L ys d s10 hT10 (z9) (by omega) (by omega) ) (fun z15 s16 hr => ?_)
    obtain ⟨hT16, hG16, z15l, z15h⟩ := hr
    have hF16 := ur_trans hF10 hG16 (by decide)
    have e17 : s16.1 582 1 = z6 := (hG16.1 _ _ usk_0 1 (by decide)).trans e11
    have e18 : s16.1 582 2 = z7 := (hG16.1 _ _ usk_0 2 (by decide)).trans e12
    have e19 : s16.1 582 4 = z13 := (hG16.1 _ _ usk_0 4 (by decide)).trans z13e
    refine ir_z_eq (pt := 22) (pc' := 18) rfl rfl rfl (fun c20 => ?_) (fun c20 => ?_)
    · refine ir_k (pc' := 23) (v := (0, 1)) rfl rfl rfl (fun _ => rfl) ?_
      refine ir_w [(0, (2, ((582 : Nat) : Int)))] ⟨rfl, trivial⟩ ?_
      exact J23 (1) (by omega) (by omega) s16 hT16 hF16 (z6) (by omega) (by omega) e17 (z7) (by omega) (by omega) e18 (z13) (by omega) (by omega) e19 (by omega) (by omega)
    · refine ir_w [(0, (2, ((582 : Nat) : Int)))] ⟨rfl, trivial⟩ ?_
      exact J18 s16 hT16 hF16 (z6) (by omega) (by omega) e17 (z7) (by omega) (by omega) e18 (z13) (by omega) (by omega) e19 (by omega) (by omega)
theorem rf_isNumberR (L : Nat) (ys : Nat → Int32) (d : Nat) (s0 : im_S) (hT0 : uI s0) (x0 : Int) (x0l : -2147483648 ≤ x0) (x0h : x0 ≤ 2147483647) (x1 : Int) (x1l : -2147483648 ≤ x1) (x1h : x1 ≤ 2147483647) : icI gG rm_P L ys 0 (d + 1) 54 [(0, x0), (0, x1)] s0 (fun z s => uI s ∧ ur [] s0 s ∧ 0 ≤ z ∧ z ≤ 1 ∧ (z = 0 ∨ 1 ≤ x1)) := by
  refine ic_startM (M := rm_p_X10_isNumber) om_X10_isNumber (Nat.le_of_ble_eq_true rfl) ?_
  refine ir_w [(0, (0, x0)), (1, (0, x1))] ⟨rfl, rfl, trivial⟩ ?_
  have hF0 := ur_refl [] s0
  have J31 : ∀ (q31_s0 : Int) (q31_s0l : 0 ≤ q31_s0) (q31_s0h : q31_s0 ≤ 1) (s_31 : im_S) (hT_31 : uI s_31) (hF_31 : ur [] s0 s_31) (i31_0 : (q31_s0 = 0 ∨ 1 ≤ x1)), ir gG rm_P L ys d rm_p_X10_isNumber (31, [], [(0, q31_s0)], s_31) (fun r : im_Re => ∃ z, r.1 = some (0, z) ∧ (uI r.2 ∧ ur [] s0 r.2 ∧ 0 ≤ z ∧ z ≤ 1 ∧ (z = 0 ∨ 1 ≤ x1))) := by
    intro q31_s0 q31_s0l q31_s0h s_31 hT_31 hF_31 i31_0
    exact ir_zret rfl rfl (by omega) ⟨_, rfl, hT_31, hF_31, by omega, by omega, (by first | omega | (dsimp only; omega))⟩
  have J30 : ∀ (s_30 : im_S) (hT_30 : uI s_30) (hF_30 : ur [] s0 s_30), ir gG rm_P L ys d rm_p_X10_isNumber (30, [], [], s_30) (fun r : im_Re => ∃ z, r.1 = some (0, z) ∧ (uI r.2 ∧ ur [] s0 r.2 ∧ 0 ≤ z ∧ z ≤ 1 ∧ (z = 0 ∨ 1 ≤ x1))) := by
    intro s_30 hT_30 hF_30
    refine ir_k (pc' := 31) (v := (0, 0)) rfl rfl rfl (fun _ => rfl) ?_
    refine ir_w [] trivial ?_
    exact J31 (0) (by omega) (by omega) s_30 hT_30 hF_30 (by omega)
  refine ir_l (pc' := 1) rfl rfl rfl rfl rfl rfl ?_
  refine ir_k (pc' := 2) (v := (0, 1)) rfl rfl rfl (fun _ => rfl) ?_
  refine ir_c_lt (pt := 30) (pc' := 5) rfl rfl rfl (fun c1 => ?_) (fun c1 => ?_)
  · refine ir_w [] trivial ?_
    exact J30 s0 hT0 hF0
  · refine ir_l (pc' := 6) rfl rfl rfl rfl rfl rfl ?_
    refine ir_k (pc' := 9) (v := (0, 1000000000)) rfl rfl rfl (fun _ => rfl) ?_
    refine ir_c_gt (pt := 30) (pc' := 12) rfl rfl rfl (fun c2 => ?_) (fun c2 => ?_)
    · refine ir_w [] trivial ?_
      exact J30 s0 hT0 hF0
    · refine ir_l (pc' := 13) rfl rfl rfl rfl rfl rfl ?_
      refine ir_k (pc' := 16) (v := (0, (-1000000000))) rfl rfl rfl (fun _ => rfl) ?_
      refine ir_c_lt (pt := 30) (pc' := 19) rfl rfl rfl (fun c3 => ?_) (fun c3 => ?_)
      · refine ir_w [] trivial ?_
        exact J30 s0 hT0 hF0
      · refine ir_l (pc' := 20) rfl rfl rfl rfl rfl rfl ?_
        refine ir_k (pc' := 23) (v := (0, 1000000000)) rfl rfl rfl (fun _ => rfl) ?_
        refine ir_c_gt (pt := 30) (pc' := 26) rfl rfl rfl (fun c4 => ?_) (fun c4 => ?_)
        · refine ir_w [] trivial ?_
          exact J30 s0 hT0 hF0
        · refine ir_k (pc' := 27) (v := (0, 1)) rfl rfl rfl (fun _ => rfl) ?_
          refine ir_goto (pc' := 31) rfl rfl ?_
          refine ir_w [] trivial ?_
          exact J31 (1) (by omega) (by omega) s0 hT0 hF0 (by omega)
theorem rf_cellsR (L : Nat) (ys : Nat → Int32) (d : Nat) (s0 : im_S) (hT0 : uI s0)  : icI gG rm_P L ys 0 (d + 1) 16 [(2, ((582 : Nat) : Int))] s0 (fun z s => uI s ∧ ur [] s0 s ∧ 1 ≤ z ∧ z ≤ 181) := by
  refine ic_startM (M := rm_p_X10_cells) om_X10_cells (Nat.le_of_ble_eq_true rfl) ?_
  refine ir_w [(0, (2, ((582 : Nat) : Int)))] ⟨rfl, trivial⟩ ?_
  have hF0 := ur_refl [] s0
  refine ir_k (pc' := 1) (v := (0, 2)) rfl rfl rfl (fun _ => rfl) ?_
  refine ir_l (pc' := 2) rfl rfl rfl rfl rfl rfl ?_
  refine ir_ugi (pc' := 5) rfl rfl rfl uf_0_41 usk_0 hT0 (fun z1 z1e z1l z1h => ?_)
  refine ir_mul (pc' := 6) rfl rfl (by omega) (by omega) ?_
  refine ir_k (pc' := 7) (v := (0, 1)) rfl rfl rfl (fun _ => rfl) ?_
  refine ir_add (pc' := 8) rfl rfl (by omega) (by omega) ?_
  exact ir_iret rfl rfl ⟨_, rfl, hT0, hF0, by omega, by omega⟩
theorem rf_isRootR (L : Nat) (ys : Nat → Int32) (d : Nat) (s0 : im_S) (hT0 : uI s0) (x1 : Int) (x1l : -2147483648 ≤ x1) (x1h : x1 ≤ 2147483647) : icI gG rm_P L ys 0 (d + 1) 55 [(2, ((582 : Nat) : Int)), (0, x1)] s0 (fun z s => uI s ∧ ur [] s0 s ∧ 0 ≤ z ∧ z ≤ 1 ∧ (z = 0 ∨ (0 ≤ x1 ∧ x1 ≤ 89))) := by
  refine ic_startM (M := rm_p_X10_isRoot) om_X10_isRoot (Nat.le_of_ble_eq_true rfl) ?_
  refine ir_w [(0, (2, ((582 : Nat) : Int))), (1, (0, x1))] ⟨rfl, rfl, trivial⟩ ?_
  have hF0 := ur_refl [] s0
  have J24 : ∀ (q24_s0 : Int) (q24_s0l : 0 ≤ q24_s0) (q24_s0h : q24_s0 ≤ 1) (s_24 : im_S) (hT_24 : uI s_24) (hF_24 : ur [] s0 s_24) (w24_582_5 : Int) (w24_582_5l : 0 ≤ w24_582_5) (w24_582_5h : w24_582_5 ≤ 1) (w24_582_5e : s_24.1 582 5 = w24_582_5) (i24_0 : (q24_s0 = 0 ∨ (0 ≤ x1 ∧ x1 ≤ 89))), ir gG rm_P L ys d rm_p_X10_isRoot (24, [], [(0, q24_s0)], s_24) (fun r : im_Re => ∃ z, r.1 = some (0, z) ∧ (uI r.2 ∧ ur [] s0 r.2 ∧ 0 ≤ z ∧ z ≤ 1 ∧ (z = 0 ∨ (0 ≤ x1 ∧ x1 ≤ 89)))) := by
    intro q24_s0 q24_s0l q24_s0h s_24 hT_24 hF_24 w24_582_5 w24_582_5l w24_582_5h w24_582_5e i24_0
    exact ir_zret rfl rfl (by omega) ⟨_, rfl, hT_24, hF_24, by omega, by omega, (by first | omega | (dsimp only; omega))⟩
  have J23 : ∀ (s_23 : im_S) (hT_23 : uI s_23) (hF_23 : ur [] s0 s_23) (w23_582_5 : Int) (w23_582_5l : 0 ≤ w23_582_5) (w23_582_5h : w23_582_5 ≤ 1) (w23_582_5e : s_23.1 582 5 = w23_582_5), ir gG rm_P L ys d rm_p_X10_isRoot (23, [], [], s_23) (fun r : im_Re => ∃ z, r.1 = some (0, z) ∧ (uI r.2 ∧ ur [] s0 r.2 ∧ 0 ≤ z ∧ z ≤ 1 ∧ (z = 0 ∨ (0 ≤ x1 ∧ x1 ≤ 89)))) := by
    intro s_23 hT_23 hF_23 w23_582_5 w23_582_5l w23_582_5h w23_582_5e
    refine ir_k (pc' := 24) (v := (0, 0)) rfl rfl rfl (fun _ => rfl) ?_
    refine ir_w [] trivial ?_
    exact J24 (0) (by omega) (by omega) s_23 hT_23 hF_23 (w23_582_5) (by omega) (by omega) w23_582_5e (by omega)
  refine ir_l (pc' := 1) rfl rfl rfl rfl rfl rfl ?_
  refine ir_ugi (pc' := 4) rfl rfl rfl uf_0_5 usk_0 hT0 (fun z1 z1e z1l z1h => ?_)
  refine ir_z_eq (pt := 23) (pc' := 7) rfl rfl rfl (fun c2 => ?_) (fun c2 => ?_)
  · refine ir_w [] trivial ?_
    exact J23 s0 hT0 hF0 (z1) (by omega) (by omega) z1e
  · refine ir_l (pc' := 8) rfl rfl rfl rfl rfl rfl ?_
    refine ir_z_lt (pt := 23) (pc' := 11) rfl rfl rfl (fun c3 => ?_) (fun c3 => ?_)
    · refine ir_w [] trivial ?_
      exact J23 s0 hT0 hF0 (z1) (by omega) (by omega) z1e
    · refine ir_l (pc' := 12) rfl rfl rfl rfl rfl rfl ?_
      refine ir_l (pc' := 13) rfl rfl rfl rfl rfl rfl ?_
      refine ir_ugi (pc' := 16) rfl rfl rfl uf_0_41 usk_0 hT0 (fun z4 z4e z4l z4h => ?_)
      refine ir_c_ge (pt := 23) (pc' := 19) rfl rfl rfl (fun c5 => ?_) (fun c5 => ?_)
      · refine ir_w [] trivial ?_
        exact J23 s0 hT0 hF0 (z1) (by omega) (by omega) z1e
      · refine ir_k (pc' := 20) (v := (0, 1)) rfl rfl rfl (fun _ => rfl) ?_
        refine ir_goto (pc' := 24) rfl rfl ?_
        refine ir_w [] trivial ?_
        exact J24 (1) (by omega) (by omega) s0 hT0 hF0 (z1) (by omega) (by omega) z1e (by omega)
theorem rf_timesAtR (L : Nat) (ys : Nat → Int32) (d : Nat) (s0 : im_S) (hT0 : uI s0) (x1 : Int) (x1l : 0 ≤ x1) (x1h : x1 ≤ 89) (x2 : Int) (x2l : 0 ≤ x2) (x2h : x2 ≤ 9) : icI gG rm_P L ys 0 (d + 1) 102 [(2, ((582 : Nat) : Int)), (0, x1), (0, x2)] s0 (fun z s => uI s ∧ ur [] s0 s ∧ -2147483648 ≤ z ∧ z ≤ 2147483647) := by
  refine ic_startM (M := rm_p_X10_timesAt) om_X10_timesAt (Nat.le_of_ble_eq_true rfl) ?_
  refine ir_w [(0, (2, ((582 : Nat) : Int))), (1, (0, x1)), (2, (0, x2))] ⟨rfl, rfl, rfl, trivial⟩ ?_
  have hF0 := ur_refl [] s0
  refine ir_l (pc' := 1) rfl rfl rfl rfl rfl rfl ?_
  refine ir_ugr (pc' := 4) rfl rfl rfl uf_0_40 usk_0 hT0 (fun b1 b1e b1k => ?_)
  obtain rfl := usg_24 b1k
  refine ir_k (pc' := 6) (v := (0, 10)) rfl rfl rfl (fun _ => rfl) ?_
  refine ir_l (pc' := 7) rfl rfl rfl rfl rfl rfl ?_
  refine ir_ugr (pc' := 10) rfl rfl rfl uf_0_42 usk_0 hT0 (fun b2 b2e b2k => ?_)
  obtain rfl := usg_25 b2k
  refine ir_l (pc' := 11) rfl rfl rfl rfl rfl rfl ?_
  refine ir_ugr (pc' := 14) rfl rfl rfl uf_0_49 usk_0 hT0 (fun b3 b3e b3k => ?_)
  obtain rfl := usg_32 b3k
  refine ir_l (pc' := 15) rfl rfl rfl rfl rfl rfl ?_
  refine ir_uia (pc' := 16) rfl rfl ue_32 (by decide) usk_32 hT0 (by omega) (by omega) (fun z4 z4e z4l z4h => ?_)
  clear z4e
  refine ir_uia (pc' := 17) rfl rfl ue_25 (by decide) usk_25 hT0 (by omega) (by omega) (fun z5 z5e z5l z5h => ?_)
  clear z5e
  refine ir_mul (pc' := 18) rfl rfl (by omega) (by omega) ?_
  refine ir_l (pc' := 19) rfl rfl rfl rfl rfl rfl ?_
  refine ir_add (pc' := 20) rfl rfl (by omega) (by omega) ?_
  refine ir_uia (pc' := 21) rfl rfl ue_24 (by decide) usk_24 hT0 (by omega) (by omega) (fun z6 z6e z6l z6h => ?_)
  clear z6e
  exact ir_iret rfl rfl ⟨_, rfl, hT0, hF0, by omega, by omega⟩
theorem rf_holdingManyR (L : Nat) (ys : Nat → Int32) (d : Nat) (s0 : im_S) (hT0 : uI s0)  : icI gG rm_P L ys 0 (d + 2) 46 [(2, ((582 : Nat) : Int))] s0 (fun z s => uI s ∧ ur [] s0 s ∧ -2147483648 ≤ z ∧ z ≤ 2147483647) := by
  refine ic_startM (M := rm_p_X10_holdingMany) om_X10_holdingMany (Nat.le_of_ble_eq_true rfl) ?_
  refine ir_w [(0, (2, ((582 : Nat) : Int)))] ⟨rfl, trivial⟩ ?_
  have hF0 := ur_refl [] s0
  have J4 : ∀ n : Nat, ∀ (q4_l1 : Int) (q4_l1l : -2147483648 ≤ q4_l1) (q4_l1h : q4_l1 ≤ 2147483647) (q4_l2 : Int) (q4_l2l : 0 ≤ q4_l2) (q4_l2h : q4_l2 ≤ 195) (s_4 : im_S) (hT_4 : uI s_4) (hF_4 : ur [] s0 s_4), (195 + 1 - q4_l2) ≤ (n : Int) → ir gG rm_P L ys (d + 1) rm_p_X10_holdingMany (4, [(0, (2, ((582 : Nat) : Int))), (1, (0, q4_l1)), (2, (0, q4_l2))], [], s_4) (fun r : im_Re => ∃ z, r.1 = some (0, z) ∧ (uI r.2 ∧ ur [] s0 r.2 ∧ -2147483648 ≤ z ∧ z ≤ 2147483647)) := by
    intro n
    induction n with
    | zero => intro q4_l1 q4_l1l q4_l1h q4_l2 q4_l2l q4_l2h s_4 hT_4 hF_4 hr; exfalso; omega
    | succ n ih4 =>
      intro q4_l1 q4_l1l q4_l1h q4_l2 q4_l2l q4_l2h s_4 hT_4 hF_4 hr
      have J27 : ∀ (q27_s0 : Int) (q27_s0l : -2147483648 ≤ q27_s0) (q27_s0h : q27_s0 ≤ 2147483647) (q27_s1 : Int) (q27_s1l : 0 ≤ q27_s1) (q27_s1h : q27_s1 ≤ 1) (f27_2h : q4_l2 ≤ 180) (s_27 : im_S) (hT_27 : uI s_27) (hF_27 : ur [] s0 s_27) (w27_582_54e : s_27.1 582 54 = ((618 : Nat) : Int)), ir gG rm_P L ys (d + 1) rm_p_X10_holdingMany (27, [(0, (2, ((582 : Nat) : Int))), (2, (0, q4_l2))], [(0, q27_s1), (0, q27_s0)], s_27) (fun r : im_Re => ∃ z, r.1 = some (0, z) ∧ (uI r.2 ∧ ur [] s0 r.2 ∧ -2147483648 ≤ z ∧ z ≤ 2147483647)) := by
        intro q27_s0 q27_s0l q27_s0h q27_s1 q27_s1l q27_s1h f27_2h s_27 hT_27 hF_27 w27_582_54e
        refine ir_iiA (pc' := 28) rfl rfl rfl rfl (fun z1 z1l z1h => ?_)
        refine ir_s (pc' := 29) rfl rfl rfl rfl rfl rfl ?_
        refine ir_inc (pc' := 32) rfl rfl rfl rfl rfl (by omega) (by omega) ?_
        refine ir_goto (pc' := 4) rfl rfl ?_
        refine ir_w [(0, (2, ((582 : Nat) : Int))), (1, (0, z1)), (2, (0, (q4_l2 + 1)))] ⟨rfl, rfl, rfl, trivial⟩ ?_
        exact ih4 (z1) (by omega) (by omega) ((q4_l2 + 1)) (by omega) (by omega) s_27 hT_27 hF_27 (by omega)
      refine ir_l (pc' := 5) rfl rfl rfl rfl rfl rfl ?_
      refine ir_l (pc' := 6) rfl rfl rfl rfl rfl rfl ?_
      refine ir_cVI (pc' := 9) rfl rfl rfl rfl rfl (Nat.le_of_ble_eq_true rfl) oo_X10_cells (hG_at usk_0) (rf_cellsR L ys d s_4 hT_4  ) (fun z2 s3 hr => ?_)
      obtain ⟨hT3, hG3, z2l, z2h⟩ := hr
      have hF3 := ur_trans hF_4 hG3 (by decide)
      refine ir_c_ge (pt := 35) (pc' := 12) rfl rfl rfl (fun c4 => ?_) (fun c4 => ?_)
      · refine ir_l (pc' := 36) rfl rfl rfl rfl rfl rfl ?_
        exact ir_iret rfl rfl ⟨_, rfl, hT3, hF3, by omega, by omega⟩
      · refine ir_l (pc' := 13) rfl rfl rfl rfl rfl rfl ?_
        refine ir_l (pc' := 14) rfl rfl rfl rfl rfl rfl ?_
        refine ir_ugr (pc' := 17) rfl rfl rfl uf_0_54 usk_0 hT3 (fun b5 b5e b5k => ?_)
        obtain rfl := usg_36 b5k
        refine ir_l (pc' := 18) rfl rfl rfl rfl rfl rfl ?_
        refine ir_uba (pc' := 19) rfl rfl ue_36 (by decide) (by decide) usk_36 hT3 (by omega) (by omega) (fun z6 z6e z6l z6h => ?_)
        clear z6e
        refine ir_z_eq (pt := 26) (pc' := 22) rfl rfl rfl (fun c7 => ?_) (fun c7 => ?_)
        · refine ir_k (pc' := 27) (v := (0, 0)) rfl rfl rfl (fun _ => rfl) ?_
          refine ir_w [(0, (2, ((582 : Nat) : Int))), (2, (0, q4_l2))] ⟨rfl, rfl, trivial⟩ ?_
          exact J27 (q4_l1) (by omega) (by omega) (0) (by omega) (by omega) (by omega) s3 hT3 hF3 b5e
        · refine ir_k (pc' := 23) (v := (0, 1)) rfl rfl rfl (fun _ => rfl) ?_
          refine ir_goto (pc' := 27) rfl rfl ?_
          refine ir_w [(0, (2, ((582 : Nat) : Int))), (2, (0, q4_l2))] ⟨rfl, rfl, trivial⟩ ?_
          exact J27 (q4_l1) (by omega) (by omega) (1) (by omega) (by omega) (by omega) s3 hT3 hF3 b5e
  refine ir_k (pc' := 1) (v := (0, 0)) rfl rfl rfl (fun _ => rfl) ?_
  refine ir_s (pc' := 2) rfl rfl rfl rfl rfl rfl ?_
  refine ir_k (pc' := 3) (v := (0, 0)) rfl rfl rfl (fun _ => rfl) ?_
  refine ir_s (pc' := 4) rfl rfl rfl rfl rfl rfl ?_
  refine ir_w [(0, (2, ((582 : Nat) : Int))), (1, (0, 0)), (2, (0, 0))] ⟨rfl, rfl, rfl, trivial⟩ ?_
  exact J4 _ (0) (by omega) (by omega) (0) (by omega) (by omega) s0 hT0 hF0 (Int.self_le_toNat _)
theorem rf_countR (L : Nat) (ys : Nat → Int32) (d : Nat) (s0 : im_S) (hT0 : uI s0) (x1 : Int) (x1l : -2147483648 ≤ x1) (x1h : x1 ≤ 2147483647) : icI gG rm_P L ys 0 (d + 3) 25 [(2, ((582 : Nat) : Int)), (0, x1)] s0 (fun z s => uI s ∧ ur [] s0 s ∧ -2147483648 ≤ z ∧ z ≤ 2147483647) := by
  refine ic_startM (M := rm_p_X10_count) om_X10_count (Nat.le_of_ble_eq_true rfl) ?_
  refine ir_w [(0, (2, ((582 : Nat) : Int))), (1, (0, x1))] ⟨rfl, rfl, trivial⟩ ?_
  have hF0 := ur_refl [] s0
  have J86 : ∀ (q86_s0 : Int) (q86_s0l : -2147483648 ≤ q86_s0) (q86_s0h : q86_s0 ≤ 2147483647) (s_86 : im_S) (hT_86 : uI s_86) (hF_86 : ur [] s0 s_86), ir gG rm_P L ys (d + 2) rm_p_X10_count (86, [], [(0, q86_s0)], s_86) (fun r : im_Re => ∃ z, r.1 = some (0, z) ∧ (uI r.2 ∧ ur [] s0 r.2 ∧ -2147483648 ≤ z ∧ z ≤ 2147483647)) := by
    intro q86_s0 q86_s0l q86_s0h s_86 hT_86 hF_86
    exact ir_iret rfl rfl ⟨_, rfl, hT_86, hF_86, by omega, by omega⟩
  have J23 : ∀ (f23_1l : 0 ≤ x1) (f23_1h : x1 ≤ 5) (s_23 : im_S) (hT_23 : uI s_23) (hF_23 : ur [] s0 s_23), ir gG rm_P L ys (d + 2) rm_p_X10_count (23, [(0, (2, ((582 : Nat) : Int))), (1, (0, x1))], [], s_23) (fun r : im_Re => ∃ z, r.1 = some (0, z) ∧ (uI r.2 ∧ ur [] s0 r.2 ∧ -2147483648 ≤ z ∧ z ≤ 2147483647)) := by
    intro f23_1l f23_1h s_23 hT_23 hF_23
    refine ir_l (pc' := 24) rfl rfl rfl rfl rfl rfl ?_
    refine ir_z_ne (pt := 34) (pc' := 27) rfl rfl rfl (fun c1 => ?_) (fun c1 => ?_)
    · refine ir_l (pc' := 35) rfl rfl rfl rfl rfl rfl ?_
      refine ir_k (pc' := 36) (v := (0, 1)) rfl rfl rfl (fun _ => rfl) ?_
      refine ir_c_ne (pt := 46) (pc' := 39) rfl rfl rfl (fun c2 => ?_) (fun c2 => ?_)
      · refine ir_l (pc' := 47) rfl rfl rfl rfl rfl rfl ?_
        refine ir_k (pc' := 48) (v := (0, 2)) rfl rfl rfl (fun _ => rfl) ?_
        refine ir_c_ne (pt := 58) (pc' := 51) rfl rfl rfl (fun c3 => ?_) (fun c3 => ?_)
        · refine ir_l (pc' := 59) rfl rfl rfl rfl rfl rfl ?_
          refine ir_k (pc' := 60) (v := (0, 3)) rfl rfl rfl (fun _ => rfl) ?_
          refine ir_c_ne (pt := 70) (pc' := 63) rfl rfl rfl (fun c4 => ?_) (fun c4 => ?_)
          · refine ir_l (pc' := 71) rfl rfl rfl rfl rfl rfl ?_
            refine ir_k (pc' := 72) (v := (0, 4)) rfl rfl rfl (fun _ => rfl) ?_
            refine ir_c_ne (pt := 82) (pc' := 75) rfl rfl rfl (fun c5 => ?_) (fun c5 => ?_)
            · refine ir_l (pc' := 83) rfl rfl rfl rfl rfl rfl ?_
              refine ir_cVI (pc' := 86) rfl rfl rfl rfl rfl (Nat.le_of_ble_eq_true rfl) oo_X10_holdingMany (hG_at usk_0) (rf_holdingManyR L ys d s_23 hT_23  ) (fun z6 s7 hr => ?_)
              obtain ⟨hT7, hG7, z6l, z6h⟩ := hr
              have hF7 := ur_trans hF_23 hG7 (by decide)
              refine ir_w [] trivial ?_
              exact J86 (z6) (by omega) (by omega) s7 hT7 hF7
            · refine ir_l (pc' := 76) rfl rfl rfl rfl rfl rfl ?_
              refine ir_ugi (pc' := 79) rfl rfl rfl uf_0_41 usk_0 hT_23 (fun z8 z8e z8l z8h => ?_)
              refine ir_goto (pc' := 86) rfl rfl ?_
              refine ir_w [] trivial ?_
              exact J86 (z8) (by omega) (by omega) s_23 hT_23 hF_23
          · refine ir_l (pc' := 64) rfl rfl rfl rfl rfl rfl ?_
            refine ir_ugi (pc' := 67) rfl rfl rfl uf_0_6 usk_0 hT_23 (fun z9 z9e z9l z9h => ?_)
            refine ir_goto (pc' := 86) rfl rfl ?_
            refine ir_w [] trivial ?_
            exact J86 (z9) (by omega) (by omega) s_23 hT_23 hF_23
        · refine ir_l (pc' := 52) rfl rfl rfl rfl rfl rfl ?_
          refine ir_ugi (pc' := 55) rfl rfl rfl uf_0_1 usk_0 hT_23 (fun z10 z10e z10l z10h => ?_)
          refine ir_goto (pc' := 86) rfl rfl ?_
          refine ir_w [] trivial ?_
          exact J86 (z10) (by omega) (by omega) s_23 hT_23 hF_23
      · refine ir_l (pc' := 40) rfl rfl rfl rfl rfl rfl ?_
        refine ir_ugi (pc' := 43) rfl rfl rfl uf_0_3 usk_0 hT_23 (fun z11 z11e z11l z11h => ?_)
        refine ir_goto (pc' := 86) rfl rfl ?_
        refine ir_w [] trivial ?_
        exact J86 (z11) (by omega) (by omega) s_23 hT_23 hF_23
    · refine ir_l (pc' := 28) rfl rfl rfl rfl rfl rfl ?_
      refine ir_ugi (pc' := 31) rfl rfl rfl uf_0_2 usk_0 hT_23 (fun z12 z12e z12l z12h => ?_)
      refine ir_goto (pc' := 86) rfl rfl ?_
      refine ir_w [] trivial ?_
      exact J86 (z12) (by omega) (by omega) s_23 hT_23 hF_23
  have J21 : ∀ (s_21 : im_S) (hT_21 : uI s_21) (hF_21 : ur [] s0 s_21), ir gG rm_P L ys (d + 2) rm_p_X10_count (21, [], [], s_21) (fun r : im_Re => ∃ z, r.1 = some (0, z) ∧ (uI r.2 ∧ ur [] s0 r.2 ∧ -2147483648 ≤ z ∧ z ≤ 2147483647)) := by
    intro s_21 hT_21 hF_21
    refine ir_k (pc' := 22) (v := (0, (-1))) rfl rfl rfl (fun _ => rfl) ?_
    exact ir_iret rfl rfl ⟨_, rfl, hT_21, hF_21, by omega, by omega⟩
  refine ir_l (pc' := 1) rfl rfl rfl rfl rfl rfl ?_
  refine ir_z_lt (pt := 21) (pc' := 4) rfl rfl rfl (fun c13 => ?_) (fun c13 => ?_)
  · refine ir_w [] trivial ?_
    exact J21 s0 hT0 hF0
  · refine ir_l (pc' := 5) rfl rfl rfl rfl rfl rfl ?_
    refine ir_k (pc' := 6) (v := (0, 5)) rfl rfl rfl (fun _ => rfl) ?_
    refine ir_c_gt (pt := 21) (pc' := 9) rfl rfl rfl (fun c14 => ?_) (fun c14 => ?_)
    · refine ir_w [] trivial ?_
      exact J21 s0 hT0 hF0
    · refine ir_l (pc' := 10) rfl rfl rfl rfl rfl rfl ?_
      refine ir_k (pc' := 11) (v := (0, 2)) rfl rfl rfl (fun _ => rfl) ?_
      refine ir_c_le (pt := 23) (pc' := 14) rfl rfl rfl (fun c15 => ?_) (fun c15 => ?_)
      · refine ir_w [(0, (2, ((582 : Nat) : Int))), (1, (0, x1))] ⟨rfl, rfl, trivial⟩ ?_
        exact J23 (by omega) (by omega) s0 hT0 hF0
      · refine ir_l (pc' := 15) rfl rfl rfl rfl rfl rfl ?_
        refine ir_ugi (pc' := 18) rfl rfl rfl uf_0_5 usk_0 hT0 (fun z16 z16e z16l z16h => ?_)
        refine ir_z_ne (pt := 23) (pc' := 21) rfl rfl rfl (fun c17 => ?_) (fun c17 => ?_)
        · refine ir_w [(0, (2, ((582 : Nat) : Int))), (1, (0, x1))] ⟨rfl, rfl, trivial⟩ ?_
          exact J23 (by omega) (by omega) s0 hT0 hF0
        · refine ir_w [] trivial ?_
          exact J21 s0 hT0 hF0
theorem rf_degreeOfR (L : Nat) (ys : Nat → Int32) (d : Nat) (s0 : im_S) (hT0 : uI s0) (x1 : Int) (x1l : 0 ≤ x1) (x1h : x1 ≤ 9) : icI gG rm_P L ys 0 (d + 1) 26 [(2, ((582 : Nat) : Int)), (0, x1)] s0 (fun z s => uI s ∧ ur [] s0 s ∧ -1 ≤ z ∧ z ≤ 8) := by
  refine ic_startM (M := rm_p_X10_degreeOf) om_X10_degreeOf (Nat.le_of_ble_eq_true rfl) ?_
  refine ir_w [(0, (2, ((582 : Nat) : Int))), (1, (0, x1))] ⟨rfl, rfl, trivial⟩ ?_
  have hF0 := ur_refl [] s0
  have J29 : ∀ (q29_l2 : Int) (q29_l2l : -1 ≤ q29_l2) (q29_l2h : q29_l2 ≤ 8) (s_29 : im_S) (hT_29 : uI s_29) (hF_29 : ur [] s0 s_29), ir gG rm_P L ys d rm_p_X10_degreeOf (29, [(2, (0, q29_l2))], [], s_29) (fun r : im_Re => ∃ z, r.1 = some (0, z) ∧ (uI r.2 ∧ ur [] s0 r.2 ∧ -1 ≤ z ∧ z ≤ 8)) := by
    intro q29_l2 q29_l2l q29_l2h s_29 hT_29 hF_29
    refine ir_l (pc' := 30) rfl rfl rfl rfl rfl rfl ?_
    exact ir_iret rfl rfl ⟨_, rfl, hT_29, hF_29, by omega, by omega⟩
  have J3 : ∀ n : Nat, ∀ (q3_l2 : Int) (q3_l2l : -1 ≤ q3_l2) (q3_l2h : q3_l2 ≤ 8) (s_3 : im_S) (hT_3 : uI s_3) (hF_3 : ur [] s0 s_3), (q3_l2 - -1 + 1) ≤ (n : Int) → ir gG rm_P L ys d rm_p_X10_degreeOf (3, [(0, (2, ((582 : Nat) : Int))), (1, (0, x1)), (2, (0, q3_l2))], [], s_3) (fun r : im_Re => ∃ z, r.1 = some (0, z) ∧ (uI r.2 ∧ ur [] s0 r.2 ∧ -1 ≤ z ∧ z ≤ 8)) := by
    intro n
    induction n with
    | zero => intro q3_l2 q3_l2l q3_l2h s_3 hT_3 hF_3 hr; exfalso; omega
    | succ n ih3 =>
      intro q3_l2 q3_l2l q3_l2h s_3 hT_3 hF_3 hr
      refine ir_l (pc' := 4) rfl rfl rfl rfl rfl rfl ?_
      refine ir_z_lt (pt := 29) (pc' := 7) rfl rfl rfl (fun c1 => ?_) (fun c1 => ?_)
      · refine ir_w [(2, (0, q3_l2))] ⟨rfl, trivial⟩ ?_
        exact J29 (q3_l2) (by omega) (by omega) s_3 hT_3 hF_3
      · refine ir_l (pc' := 8) rfl rfl rfl rfl rfl rfl ?_
        refine ir_ugr (pc' := 11) rfl rfl rfl uf_0_7 usk_0 hT_3 (fun b2 b2e b2k => ?_)
        obtain rfl := usg_2 b2k
        refine ir_k (pc' := 13) (v := (0, 9)) rfl rfl rfl (fun _ => rfl) ?_
        refine ir_l (pc' := 14) rfl rfl rfl rfl rfl rfl ?_
        refine ir_mul (pc' := 15) rfl rfl (by omega) (by omega) ?_
        refine ir_l (pc' := 16) rfl rfl rfl rfl rfl rfl ?_
        refine ir_add (pc' := 17) rfl rfl (by omega) (by omega) ?_
        refine ir_ula (pc' := 18) rfl rfl ue_2 (by decide) usk_2 hT_3 (by omega) (by omega) (fun z3 z3e z3l z3h => ?_)
        clear z3e
        refine ir_k (pc' := 19) (v := (1, 0)) rfl rfl rfl (fun _ => rfl) ?_
        refine ir_lcmp (pc' := 20) rfl rfl (by omega) (by omega) (by omega) (by omega) (fun z4 z4c => ?_)
        refine ir_z_ne (pt := 29) (pc' := 23) rfl rfl rfl (fun c5 => ?_) (fun c5 => ?_)
        · refine ir_w [(2, (0, q3_l2))] ⟨rfl, trivial⟩ ?_
          exact J29 (q3_l2) (by omega) (by omega) s_3 hT_3 hF_3
        · refine ir_inc (pc' := 26) rfl rfl rfl rfl rfl (by omega) (by omega) ?_
          refine ir_goto (pc' := 3) rfl rfl ?_
          refine ir_w [(0, (2, ((582 : Nat) : Int))), (1, (0, x1)), (2, (0, (q3_l2 + (-1))))] ⟨rfl, rfl, rfl, trivial⟩ ?_
          exact ih3 ((q3_l2 + (-1))) (by omega) (by omega) s_3 hT_3 hF_3 (by omega)
  refine ir_k (pc' := 2) (v := (0, 8)) rfl rfl rfl (fun _ => rfl) ?_
  refine ir_s (pc' := 3) rfl rfl rfl rfl rfl rfl ?_
  refine ir_w [(0, (2, ((582 : Nat) : Int))), (1, (0, x1)), (2, (0, 8))] ⟨rfl, rfl, rfl, trivial⟩ ?_
  exact J3 _ (8) (by omega) (by omega) s0 hT0 hF0 (Int.self_le_toNat _)
