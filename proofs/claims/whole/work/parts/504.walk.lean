/-! WALKS OF THE REFERENCE'S METHODS, by program -/
theorem rf_wait1R (L : Nat) (ys : Nat → Int32) (d : Nat) (s0 : im_S) (hT0 : uI s0) (x1 : Int) (x1l : -4 ≤ x1) (x1h : x1 ≤ -1) (pr0 : s0.1 582 12 ≤ 499) : icV gG rm_P L ys (d + 1) 105 [(2, ((582 : Nat) : Int)), (0, x1)] s0 (fun s => uI s ∧ ur [(0, 12), (5, 1000)] s0 s ∧ s.1 582 12 = s0.1 582 12 + 1) := by
  refine ic_startM (M := rm_p_X10_wait1) om_X10_wait1 (Nat.le_of_ble_eq_true rfl) ?_
  refine ir_w [(0, (2, ((582 : Nat) : Int))), (1, (0, x1))] ⟨rfl, rfl, trivial⟩ ?_
  have hF0 := ur_refl [(0, 12), (5, 1000)] s0
  obtain ⟨z1, z1e, z1l, z1h⟩ := uI_i uf_0_12 usk_0 hT0
  refine ir_l (pc' := 1) rfl rfl rfl rfl rfl rfl ?_
  refine ir_ugr (pc' := 4) rfl rfl rfl uf_0_11 usk_0 hT0 (fun b2 b2e b2k => ?_)
  obtain rfl := usg_5 b2k
  refine ir_l (pc' := 5) rfl rfl rfl rfl rfl rfl ?_
  refine ir_getI (pc' := 8) rfl rfl rfl (hG_at usk_0) rfl (by decide) (by decide) z1e (by omega) (by omega) ?_
  refine ir_l (pc' := 9) rfl rfl rfl rfl rfl rfl ?_
  refine ir_uis (pc' := 10) rfl rfl rfl rfl ue_5 usk_5 hT0 (by omega) (by omega) (rfl) (by omega) (by omega) (fun s3 hT3 r3 o3 => ?_)
  have hF3 := ur_row (k := 5) hF0 (by decide) usk_5 r3 o3
  have e4 : s3.1 582 12 = z1 := by rw [r3]; exact z1e
  have e5 : s3.1 582 11 = ((587 : Nat) : Int) := by rw [r3]; exact b2e
  refine ir_l (pc' := 11) rfl rfl rfl rfl rfl rfl ?_
  refine ir_x (pc' := 12) rfl rfl rfl (fun _ => rfl) ?_
  refine ir_getI (pc' := 15) rfl rfl rfl (hG_at usk_0) rfl (by decide) (by decide) e4 (by omega) (by omega) ?_
  refine ir_k (pc' := 16) (v := (0, 1)) rfl rfl rfl (fun _ => rfl) ?_
  refine ir_add (pc' := 17) rfl rfl (by omega) (by omega) ?_
  refine ir_upi (pc' := 20) rfl rfl rfl uf_0_12 rfl usk_0 hT3 rfl (by omega) (by omega) (fun s6 hT6 e6 g6 r6 => ?_)
  have hF6 := ur_put (k := 0) hF3 (by decide) usk_0 g6 r6
  have e7 : s6.1 582 11 = ((587 : Nat) : Int) := (g6 582 11 (fun z => absurd z.2 (by decide))).trans e5
  exact ir_vret rfl rfl ⟨rfl, hT6, hF6, (by first | omega | (dsimp only; omega))⟩
theorem rf_makeR (L : Nat) (ys : Nat → Int32) (d : Nat) (s0 : im_S) (hT0 : uI s0) (x1 : Int) (x1l : -4 ≤ x1) (x1h : x1 ≤ 9) (pr0 : s0.1 582 10 ≤ 499) : icV gG rm_P L ys (d + 1) 67 [(2, ((582 : Nat) : Int)), (0, x1)] s0 (fun s => uI s ∧ ur [(0, 10), (4, 1000)] s0 s ∧ s.1 582 10 = s0.1 582 10 + 1) := by
  refine ic_startM (M := rm_p_X10_make) om_X10_make (Nat.le_of_ble_eq_true rfl) ?_
  refine ir_w [(0, (2, ((582 : Nat) : Int))), (1, (0, x1))] ⟨rfl, rfl, trivial⟩ ?_
  have hF0 := ur_refl [(0, 10), (4, 1000)] s0
  obtain ⟨z1, z1e, z1l, z1h⟩ := uI_i uf_0_10 usk_0 hT0
  refine ir_l (pc' := 1) rfl rfl rfl rfl rfl rfl ?_
  refine ir_ugr (pc' := 4) rfl rfl rfl uf_0_9 usk_0 hT0 (fun b2 b2e b2k => ?_)
  obtain rfl := usg_4 b2k
  refine ir_l (pc' := 5) rfl rfl rfl rfl rfl rfl ?_
  refine ir_getI (pc' := 8) rfl rfl rfl (hG_at usk_0) rfl (by decide) (by decide) z1e (by omega) (by omega) ?_
  refine ir_l (pc' := 9) rfl rfl rfl rfl rfl rfl ?_
  refine ir_uis (pc' := 10) rfl rfl rfl rfl ue_4 usk_4 hT0 (by omega) (by omega) (rfl) (by omega) (by omega) (fun s3 hT3 r3 o3 => ?_)
  have hF3 := ur_row (k := 4) hF0 (by decide) usk_4 r3 o3
  have e4 : s3.1 582 10 = z1 := by rw [r3]; exact z1e
  have e5 : s3.1 582 9 = ((586 : Nat) : Int) := by rw [r3]; exact b2e
  refine ir_l (pc' := 11) rfl rfl rfl rfl rfl rfl ?_
  refine ir_x (pc' := 12) rfl rfl rfl (fun _ => rfl) ?_
  refine ir_getI (pc' := 15) rfl rfl rfl (hG_at usk_0) rfl (by decide) (by decide) e4 (by omega) (by omega) ?_
  refine ir_k (pc' := 16) (v := (0, 1)) rfl rfl rfl (fun _ => rfl) ?_
  refine ir_add (pc' := 17) rfl rfl (by omega) (by omega) ?_
  refine ir_upi (pc' := 20) rfl rfl rfl uf_0_10 rfl usk_0 hT3 rfl (by omega) (by omega) (fun s6 hT6 e6 g6 r6 => ?_)
  have hF6 := ur_put (k := 0) hF3 (by decide) usk_0 g6 r6
  have e7 : s6.1 582 9 = ((586 : Nat) : Int) := (g6 582 9 (fun z => absurd z.2 (by decide))).trans e5
  exact ir_vret rfl rfl ⟨rfl, hT6, hF6, (by first | omega | (dsimp only; omega))⟩
theorem rf_settleR (L : Nat) (ys : Nat → Int32) (d : Nat) (s0 : im_S) (hT0 : uI s0) (x1 : Int) (x1l : -4 ≤ x1) (x1h : x1 ≤ -1) (pr0 : s0.1 582 10 + s0.1 582 12 ≤ 499) : icV gG rm_P L ys (d + 2) 91 [(2, ((582 : Nat) : Int)), (0, x1)] s0 (fun s => uI s ∧ ur [(0, 10), (0, 12), (4, 1000)] s0 s ∧ s.1 582 10 + s.1 582 12 = s0.1 582 10 + s0.1 582 12) := by
  refine ic_startM (M := rm_p_X10_settle) om_X10_settle (Nat.le_of_ble_eq_true rfl) ?_
  refine ir_w [(0, (2, ((582 : Nat) : Int))), (1, (0, x1))] ⟨rfl, rfl, trivial⟩ ?_
  have hF0 := ur_refl [(0, 10), (0, 12), (4, 1000)] s0
  have J64 : ∀ (s_64 : im_S) (hT_64 : uI s_64) (hF_64 : ur [(0, 10), (0, 12), (4, 1000)] s0 s_64) (w64_582_10 : Int) (w64_582_10l : 0 ≤ w64_582_10) (w64_582_10h : w64_582_10 ≤ 500) (w64_582_10e : s_64.1 582 10 = w64_582_10) (w64_582_12 : Int) (w64_582_12l : 0 ≤ w64_582_12) (w64_582_12h : w64_582_12 ≤ 500) (w64_582_12e : s_64.1 582 12 = w64_582_12) (i64_0 : w64_582_10 + w64_582_12 = s0.1 582 10 + s0.1 582 12), ir gG rm_P L ys (d + 1) rm_p_X10_settle (64, [], [], s_64) (fun r : im_Re => r.1 = none ∧ (uI r.2 ∧ ur [(0, 10), (0, 12), (4, 1000)] s0 r.2 ∧ r.2.1 582 10 + r.2.1 582 12 = s0.1 582 10 + s0.1 582 12)) := by
    intro s_64 hT_64 hF_64 w64_582_10 w64_582_10l w64_582_10h w64_582_10e w64_582_12 w64_582_12l w64_582_12h w64_582_12e i64_0
    exact ir_vret rfl rfl ⟨rfl, hT_64, hF_64, (by first | omega | (dsimp only; omega))⟩
  have J0 : ∀ n : Nat, ∀ (s_0 : im_S) (hT_0 : uI s_0) (hF_0 : ur [(0, 10), (0, 12), (4, 1000)] s0 s_0) (w0_582_10 : Int) (w0_582_10l : 0 ≤ w0_582_10) (w0_582_10h : w0_582_10 ≤ 500) (w0_582_10e : s_0.1 582 10 = w0_582_10) (w0_582_12 : Int) (w0_582_12l : 0 ≤ w0_582_12) (w0_582_12h : w0_582_12 ≤ 500) (w0_582_12e : s_0.1 582 12 = w0_582_12) (i0_0 : w0_582_10 + w0_582_12 = s0.1 582 10 + s0.1 582 12), (w0_582_12 + 1) ≤ (n : Int) → ir gG rm_P L ys (d + 1) rm_p_X10_settle (0, [(0, (2, ((582 : Nat) : Int))), (1, (0, x1))], [], s_0) (fun r : im_Re => r.1 = none ∧ (uI r.2 ∧ ur [(0, 10), (0, 12), (4, 1000)] s0 r.2 ∧ r.2.1 582 10 + r.2.1 582 12 = s0.1 582 10 + s0.1 582 12)) := by
    intro n
    induction n with
    | zero => intro s_0 hT_0 hF_0 w0_582_10 w0_582_10l w0_582_10h w0_582_10e w0_582_12 w0_582_12l w0_582_12h w0_582_12e i0_0 hr; exfalso; omega
    | succ n ih0 =>
      intro s_0 hT_0 hF_0 w0_582_10 w0_582_10l w0_582_10h w0_582_10e w0_582_12 w0_582_12l w0_582_12h w0_582_12e i0_0 hr
      refine ir_l (pc' := 1) rfl rfl rfl rfl rfl rfl ?_
      refine ir_getI (pc' := 4) rfl rfl rfl (hG_at usk_0) rfl (by decide) (by decide) w0_582_12e (by omega) (by omega) ?_
      refine ir_z_le (pt := 64) (pc' := 7) rfl rfl rfl (fun c1 => ?_) (fun c1 => ?_)
      · refine ir_w [] trivial ?_
        exact J64 s_0 hT_0 hF_0 (w0_582_10) (by omega) (by omega) w0_582_10e (w0_582_12) (by omega) (by omega) w0_582_12e (by omega)
      · refine ir_l (pc' := 8) rfl rfl rfl rfl rfl rfl ?_
        refine ir_ugr (pc' := 11) rfl rfl rfl uf_0_11 usk_0 hT_0 (fun b2 b2e b2k => ?_)
        obtain rfl := usg_5 b2k
        refine ir_l (pc' := 12) rfl rfl rfl rfl rfl rfl ?_
        refine ir_getI (pc' := 15) rfl rfl rfl (hG_at usk_0) rfl (by decide) (by decide) w0_582_12e (by omega) (by omega) ?_
        refine ir_k (pc' := 16) (v := (0, 1)) rfl rfl rfl (fun _ => rfl) ?_
        refine ir_sub (pc' := 17) rfl rfl (by omega) (by omega) ?_
        refine ir_uia (pc' := 18) rfl rfl ue_5 (by decide) usk_5 hT_0 (by omega) (by omega) (fun z3 z3e z3l z3h => ?_)
        clear z3e
        refine ir_l (pc' := 19) rfl rfl rfl rfl rfl rfl ?_
        refine ir_c_lt (pt := 64) (pc' := 22) rfl rfl rfl (fun c4 => ?_) (fun c4 => ?_)
        · refine ir_w [] trivial ?_
          exact J64 s_0 hT_0 hF_0 (w0_582_10) (by omega) (by omega) w0_582_10e (w0_582_12) (by omega) (by omega) w0_582_12e (by omega)
        · refine ir_l (pc' := 23) rfl rfl rfl rfl rfl rfl ?_
          refine ir_getR (pc' := 26) rfl rfl rfl (hG_at usk_0) rfl b2e ?_
          refine ir_l (pc' := 27) rfl rfl rfl rfl rfl rfl ?_
          refine ir_getI (pc' := 30) rfl rfl rfl (hG_at usk_0) rfl (by decide) (by decide) w0_582_12e (by omega) (by omega) ?_
          refine ir_k (pc' := 31) (v := (0, 1)) rfl rfl rfl (fun _ => rfl) ?_
          refine ir_sub (pc' := 32) rfl rfl (by omega) (by omega) ?_
          refine ir_uia (pc' := 33) rfl rfl ue_5 (by decide) usk_5 hT_0 (by omega) (by omega) (fun z5 z5e z5l z5h => ?_)
          clear z5e
          refine ir_k (pc' := 35) (v := (0, (-4))) rfl rfl rfl (fun _ => rfl) ?_
          refine ir_c_eq (pt := 64) (pc' := 38) rfl rfl rfl (fun c6 => ?_) (fun c6 => ?_)
          · refine ir_w [] trivial ?_
            exact J64 s_0 hT_0 hF_0 (w0_582_10) (by omega) (by omega) w0_582_10e (w0_582_12) (by omega) (by omega) w0_582_12e (by omega)
          · refine ir_l (pc' := 39) rfl rfl rfl rfl rfl rfl ?_
            refine ir_x (pc' := 40) rfl rfl rfl (fun _ => rfl) ?_
            refine ir_getI (pc' := 43) rfl rfl rfl (hG_at usk_0) rfl (by decide) (by decide) w0_582_12e (by omega) (by omega) ?_
            refine ir_k (pc' := 44) (v := (0, 1)) rfl rfl rfl (fun _ => rfl) ?_
            refine ir_sub (pc' := 45) rfl rfl (by omega) (by omega) ?_
            refine ir_upi (pc' := 48) rfl rfl rfl uf_0_12 rfl usk_0 hT_0 rfl (by omega) (by omega) (fun s7 hT7 e7 g7 r7 => ?_)
            have hF7 := ur_put (k := 0) hF_0 (by decide) usk_0 g7 r7
            have e8 : s7.1 582 10 = w0_582_10 := (g7 582 10 (fun z => absurd z.2 (by decide))).trans w0_582_10e
            have e9 : s7.1 582 11 = ((587 : Nat) : Int) := (g7 582 11 (fun z => absurd z.2 (by decide))).trans b2e
            refine ir_l (pc' := 49) rfl rfl rfl rfl rfl rfl ?_
            refine ir_l (pc' := 50) rfl rfl rfl rfl rfl rfl ?_
            refine ir_getR (pc' := 53) rfl rfl rfl (hG_at usk_0) rfl e9 ?_
            refine ir_l (pc' := 54) rfl rfl rfl rfl rfl rfl ?_
            refine ir_getI (pc' := 57) rfl rfl rfl (hG_at usk_0) rfl (by decide) (by decide) e7 (by omega) (by omega) ?_
            refine ir_uia (pc' := 58) rfl rfl ue_5 (by decide) usk_5 hT7 (by omega) (by omega) (fun z10 z10e z10l z10h => ?_)
            clear z10e
            refine ir_cVV (pc' := 61) rfl rfl rfl rfl rfl (Nat.le_of_ble_eq_true rfl) oo_X10_make (hG_at usk_0) (rf_makeR L ys d s7 hT7 (z10) (by omega) (by omega) (by omega)) (fun s12 hr => ?_)
            obtain ⟨hT12, hG12, p12_0⟩ := hr
            have hF12 := ur_trans hF7 hG12 (by decide)
            have e13 : s12.1 582 11 = ((587 : Nat) : Int) := (hG12.1 _ _ usk_0 11 (by decide)).trans e9
            have e14 : s12.1 582 12 = (w0_582_12 - 1) := (hG12.1 _ _ usk_0 12 (by decide)).trans e7
            obtain ⟨z15, z15e, z15l, z15h⟩ := uI_i uf_0_10 usk_0 hT12
            refine ir_goto (pc' := 0) rfl rfl ?_
            refine ir_w [(0, (2, ((582 : Nat) : Int))), (1, (0, x1))] ⟨rfl, rfl, trivial⟩ ?_
            exact ih0 s12 hT12 hF12 (z15) (by omega) (by omega) z15e ((w0_582_12 - 1)) (by omega) (by omega) e14 (by omega) (by omega)
  obtain ⟨z16, z16e, z16l, z16h⟩ := uI_i uf_0_10 usk_0 hT0
  obtain ⟨z17, z17e, z17l, z17h⟩ := uI_i uf_0_12 usk_0 hT0
  refine ir_w [(0, (2, ((582 : Nat) : Int))), (1, (0, x1))] ⟨rfl, rfl, trivial⟩ ?_
  exact J0 _ s0 hT0 hF0 (z16) (by omega) (by omega) z16e (z17) (by omega) (by omega) z17e (by omega) (Int.self_le_toNat _)
theorem rf_takeBaseR (L : Nat) (ys : Nat → Int32) (d : Nat) (s0 : im_S) (hT0 : uI s0) (x1 : Int) (x1l : -1 ≤ x1) (x1h : x1 ≤ 126) (pr0 : (x1 = -1 ∨ s0.1 582 4 < s0.1 582 1)) (pr1 : s0.1 582 2 = 0) : icI gG rm_P L ys 0 (d + 5) 100 [(2, ((582 : Nat) : Int)), (0, x1)] s0 (fun z s => uI s ∧ ur [(0, 2), (0, 3), (0, 4), (0, 21), (7, 1000), (8, 1000), (9, 1000), (10, 1000), (11, 1000), (12, 1000), (13, 1000), (14, 1000)] s0 s ∧ 0 ≤ z ∧ z ≤ 1 ∧ s0.1 582 4 ≤ s.1 582 4 ∧ s0.1 582 2 ≤ s.1 582 2 ∧ (z = 0 ∨ s0.1 582 4 + s0.1 582 2 < s.1 582 4 + s.1 582 2)) := by
  refine ic_startM (M := rm_p_X10_takeBase) om_X10_takeBase (Nat.le_of_ble_eq_true rfl) ?_
  refine ir_w [(0, (2, ((582 : Nat) : Int))), (1, (0, x1))] ⟨rfl, rfl, trivial⟩ ?_
  have hF0 := ur_refl [(0, 2), (0, 3), (0, 4), (0, 21), (7, 1000), (8, 1000), (9, 1000), (10, 1000), (11, 1000), (12, 1000), (13, 1000), (14, 1000)] s0
  have J157 : ∀ (s_157 : im_S) (hT_157 : uI s_157) (hF_157 : ur [(0, 2), (0, 3), (0, 4), (0, 21), (7, 1000), (8, 1000), (9, 1000), (10, 1000), (11, 1000), (12, 1000), (13, 1000), (14, 1000)] s0 s_157) (w157_582_1 : Int) (w157_582_1l : 0 ≤ w157_582_1) (w157_582_1h : w157_582_1 ≤ 400) (w157_582_1e : s_157.1 582 1 = w157_582_1) (w157_582_2 : Int) (w157_582_2l : 0 ≤ w157_582_2) (w157_582_2h : w157_582_2 ≤ 3) (w157_582_2e : s_157.1 582 2 = w157_582_2) (w157_582_4 : Int) (w157_582_4l : 0 ≤ w157_582_4) (w157_582_4h : w157_582_4 ≤ 400) (w157_582_4e : s_157.1 582 4 = w157_582_4) (i157_0 : s0.1 582 4 ≤ w157_582_4) (i157_1 : s0.1 582 2 ≤ w157_582_2), ir gG rm_P L ys (d + 4) rm_p_X10_takeBase (157, [], [], s_157) (fun r : im_Re => ∃ z, r.1 = some (0, z) ∧ (uI r.2 ∧ ur [(0, 2), (0, 3), (0, 4), (0, 21), (7, 1000), (8, 1000), (9, 1000), (10, 1000), (11, 1000), (12, 1000), (13, 1000), (14, 1000)] s0 r.2 ∧ 0 ≤ z ∧ z ≤ 1 ∧ s0.1 582 4 ≤ r.2.1 582 4 ∧ s0.1 582 2 ≤ r.2.1 582 2 ∧ (z = 0 ∨ s0.1 582 4 + s0.1 582 2 < r.2.1 582 4 + r.2.1 582 2))) := by
    intro s_157 hT_157 hF_157 w157_582_1 w157_582_1l w157_582_1h w157_582_1e w157_582_2 w157_582_2l w157_582_2h w157_582_2e w157_582_4 w157_582_4l w157_582_4h w157_582_4e i157_0 i157_1
    refine ir_k (pc' := 158) (v := (0, 0)) rfl rfl rfl (fun _ => rfl) ?_
    exact ir_zret rfl rfl (by omega) ⟨_, rfl, hT_157, hF_157, by omega, by omega, (by first | omega | (dsimp only; omega)), (by first | omega | (dsimp only; omega)), (by first | omega | (dsimp only; omega))⟩
  have J146 : ∀ (s_146 : im_S) (hT_146 : uI s_146) (hF_146 : ur [(0, 2), (0, 3), (0, 4), (0, 21), (7, 1000), (8, 1000), (9, 1000), (10, 1000), (11, 1000), (12, 1000), (13, 1000), (14, 1000)] s0 s_146) (w146_582_1 : Int) (w146_582_1l : 0 ≤ w146_582_1) (w146_582_1h : w146_582_1 ≤ 400) (w146_582_1e : s_146.1 582 1 = w146_582_1) (w146_582_2 : Int) (w146_582_2l : 0 ≤ w146_582_2) (w146_582_2h : w146_582_2 ≤ 3) (w146_582_2e : s_146.1 582 2 = w146_582_2) (w146_582_4 : Int) (w146_582_4l : 0 ≤ w146_582_4) (w146_582_4h : w146_582_4 ≤ 400) (w146_582_4e : s_146.1 582 4 = w146_582_4) (i146_0 : s0.1 582 4 ≤ w146_582_4) (i146_1 : s0.1 582 2 ≤ w146_582_2), ir gG rm_P L ys (d + 4) rm_p_X10_takeBase (146, [(0, (2, ((582 : Nat) : Int)))], [], s_146) (fun r : im_Re => ∃ z, r.1 = some (0, z) ∧ (uI r.2 ∧ ur [(0, 2), (0, 3), (0, 4), (0, 21), (7, 1000), (8, 1000), (9, 1000), (10, 1000), (11, 1000), (12, 1000), (13, 1000), (14, 1000)] s0 r.2 ∧ 0 ≤ z ∧ z ≤ 1 ∧ s0.1 582 4 ≤ r.2.1 582 4 ∧ s0.1 582 2 ≤ r.2.1 582 2 ∧ (z = 0 ∨ s0.1 582 4 + s0.1 582 2 < r.2.1 582 4 + r.2.1 582 2))) := by
    intro s_146 hT_146 hF_146 w146_582_1 w146_582_1l w146_582_1h w146_582_1e w146_582_2 w146_582_2l w146_582_2h w146_582_2e w146_582_4 w146_582_4l w146_582_4h w146_582_4e i146_0 i146_1
    refine ir_l (pc' := 147) rfl rfl rfl rfl rfl rfl ?_
    refine ir_cVI (pc' := 150) rfl rfl rfl rfl rfl (Nat.le_of_ble_eq_true rfl) oo_X10_good (hG_at usk_0) (rf_goodR L ys (d + 3) s_146 hT_146  ) (fun z1 s2 hr => ?_)
    obtain ⟨hT2, hG2, z1l, z1h, p2_0⟩ := hr
    have hF2 := ur_trans hF_146 hG2 (by decide)
    have e3 : s2.1 582 1 = w146_582_1 := (hG2.1 _ _ usk_0 1 (by decide)).trans w146_582_1e
    have e4 : s2.1 582 2 = w146_582_2 := (hG2.1 _ _ usk_0 2 (by decide)).trans w146_582_2e
    have e5 : s2.1 582 4 = w146_582_4 := (hG2.1 _ _ usk_0 4 (by decide)).trans w146_582_4e
    refine ir_z_eq (pt := 157) (pc' := 153) rfl rfl rfl (fun c6 => ?_) (fun c6 => ?_)
    · refine ir_w [] trivial ?_
      exact J157 s2 hT2 hF2 (w146_582_1) (by omega) (by omega) e3 (w146_582_2) (by omega) (by omega) e4 (w146_582_4) (by omega) (by omega) e5 (by omega) (by omega)
    · refine ir_l (pc' := 154) rfl rfl rfl rfl rfl rfl ?_
      refine ir_cVV (pc' := 157) rfl rfl rfl rfl rfl (Nat.le_of_ble_eq_true rfl) oo_X10_endBase (hG_at usk_0) (rf_endBaseR L ys d s2 hT2  ) (fun s8 hr => ?_)
      obtain ⟨hT8, hG8, p8_0, p8_1⟩ := hr
      have hF8 := ur_trans hF2 hG8 (by decide)
      have e9 : s8.1 582 1 = w146_582_1 := (hG8.1 _ _ usk_0 1 (by decide)).trans e3
      obtain ⟨z10, z10e, z10l, z10h⟩ := uI_i uf_0_2 usk_0 hT8
      obtain ⟨z11, z11e, z11l, z11h⟩ := uI_i uf_0_4 usk_0 hT8
      refine ir_w [] trivial ?_
      exact J157 s8 hT8 hF8 (w146_582_1) (by omega) (by omega) e9 (z10) (by omega) (by omega) z10e (z11) (by omega) (by omega) z11e (by omega) (by omega)
  have J2 : ∀ n : Nat, ∀ (q2_l2 : Int) (q2_l2l : 0 ≤ q2_l2) (q2_l2h : q2_l2 ≤ 9) (s_2 : im_S) (hT_2 : uI s_2) (hF_2 : ur [(0, 2), (0, 3), (0, 4), (0, 21), (7, 1000), (8, 1000), (9, 1000), (10, 1000), (11, 1000), (12, 1000), (13, 1000), (14, 1000)] s0 s_2) (w2_582_1 : Int) (w2_582_1l : 0 ≤ w2_582_1) (w2_582_1h : w2_582_1 ≤ 400) (w2_582_1e : s_2.1 582 1 = w2_582_1) (w2_582_2 : Int) (w2_582_2l : 0 ≤ w2_582_2) (w2_582_2h : w2_582_2 ≤ 3) (w2_582_2e : s_2.1 582 2 = w2_582_2) (w2_582_4 : Int) (w2_582_4l : 0 ≤ w2_582_4) (w2_582_4h : w2_582_4 ≤ 400) (w2_582_4e : s_2.1 582 4 = w2_582_4) (i2_0 : (x1 = -1 ∨ w2_582_4 < w2_582_1)) (i2_1 : w2_582_2 = 0) (i2_2 : s0.1 582 4 ≤ w2_582_4) (i2_3 : s0.1 582 2 ≤ w2_582_2), (9 + 1 - q2_l2) ≤ (n : Int) → ir gG rm_P L ys (d + 4) rm_p_X10_takeBase (2, [(0, (2, ((582 : Nat) : Int))), (1, (0, x1)), (2, (0, q2_l2))], [], s_2) (fun r : im_Re => ∃ z, r.1 = some (0, z) ∧ (uI r.2 ∧ ur [(0, 2), (0, 3), (0, 4), (0, 21), (7, 1000), (8, 1000), (9, 1000), (10, 1000), (11, 1000), (12, 1000), (13, 1000), (14, 1000)] s0 r.2 ∧ 0 ≤ z ∧ z ≤ 1 ∧ s0.1 582 4 ≤ r.2.1 582 4 ∧ s0.1 582 2 ≤ r.2.1 582 2 ∧ (z = 0 ∨ s0.1 582 4 + s0.1 582 2 < r.2.1 582 4 + r.2.1 582 2))) := by
    intro n
    induction n with
    | zero => intro q2_l2 q2_l2l q2_l2h s_2 hT_2 hF_2 w2_582_1 w2_582_1l w2_582_1h w2_582_1e w2_582_2 w2_582_2l w2_582_2h w2_582_2e w2_582_4 w2_582_4l w2_582_4h w2_582_4e i2_0 i2_1 i2_2 i2_3 hr; exfalso; omega
    | succ n ih2 =>
      intro q2_l2 q2_l2l q2_l2h s_2 hT_2 hF_2 w2_582_1 w2_582_1l w2_582_1h w2_582_1e w2_582_2 w2_582_2l w2_582_2h w2_582_2e w2_582_4 w2_582_4l w2_582_4h w2_582_4e i2_0 i2_1 i2_2 i2_3 hr
      refine ir_l (pc' := 3) rfl rfl rfl rfl rfl rfl ?_
      refine ir_k (pc' := 5) (v := (0, 9)) rfl rfl rfl (fun _ => rfl) ?_
      refine ir_c_ge (pt := 29) (pc' := 8) rfl rfl rfl (fun c12 => ?_) (fun c12 => ?_)
      · refine ir_l (pc' := 30) rfl rfl rfl rfl rfl rfl ?_
        refine ir_cSI (pc' := 33) rfl rfl rfl rfl rfl rfl (Nat.le_of_ble_eq_true rfl) (rf_isDigitR L ys (d + 3) s_2 hT_2 (x1) (by omega) (by omega) ) (fun z13 s14 hr => ?_)
        obtain ⟨hT14, hG14, z13l, z13h⟩ := hr
        have hF14 := ur_trans hF_2 hG14 (by decide)
        have e15 : s14.1 582 1 = w2_582_1 := (hG14.1 _ _ usk_0 1 (by decide)).trans w2_582_1e
        have e16 : s14.1 582 2 = w2_582_2 := (hG14.1 _ _ usk_0 2 (by decide)).trans w2_582_2e
        have e17 : s14.1 582 4 = w2_582_4 := (hG14.1 _ _ usk_0 4 (by decide)).trans w2_582_4e
        refine ir_z_eq (pt := 56) (pc' := 36) rfl rfl rfl (fun c18 => ?_) (fun c18 => ?_)
        · refine ir_l (pc' := 57) rfl rfl rfl rfl rfl rfl ?_
          refine ir_k (pc' := 59) (v := (0, 120)) rfl rfl rfl (fun _ => rfl) ?_
          refine ir_c_ne (pt := 90) (pc' := 62) rfl rfl rfl (fun c19 => ?_) (fun c19 => ?_)
          · refine ir_l (pc' := 91) rfl rfl rfl rfl rfl rfl ?_
            refine ir_k (pc' := 93) (v := (0, 40)) rfl rfl rfl (fun _ => rfl) ?_
            refine ir_c_ne (pt := 142) (pc' := 96) rfl rfl rfl (fun c20 => ?_) (fun c20 => ?_)
            · refine ir_l (pc' := 143) rfl rfl rfl rfl rfl rfl ?_
              refine ir_cVV (pc' := 146) rfl rfl rfl rfl rfl (Nat.le_of_ble_eq_true rfl) oo_X10_cannot (hG_at usk_0) (rf_cannotR L ys (d + 1) s14 hT14  ) (fun s22 hr => ?_)
              obtain ⟨hT22, hG22, p22_0, p22_1, p22_2⟩ := hr
              have hF22 := ur_trans hF14 hG22 (by decide)
              have e23 : s22.1 582 1 = w2_582_1 := (hG22.1 _ _ usk_0 1 (by decide)).trans e15
              obtain ⟨z24, z24e, z24l, z24h⟩ := uI_i uf_0_2 usk_0 hT22
              obtain ⟨z25, z25e, z25l, z25h⟩ := uI_i uf_0_4 usk_0 hT22
              refine ir_w [(0, (2, ((582 : Nat) : Int)))] ⟨rfl, trivial⟩ ?_
              exact J146 s22 hT22 hF22 (w2_582_1) (by omega) (by omega) e23 (z24) (by omega) (by omega) z24e (z25) (by omega) (by omega) z25e (by omega) (by omega)
            · refine ir_l (pc' := 97) rfl rfl rfl rfl rfl rfl ?_
              refine ir_ugi (pc' := 100) rfl rfl rfl uf_0_21 usk_0 hT14 (fun z26 z26e z26l z26h => ?_)
              refine ir_k (pc' := 102) (v := (0, 10)) rfl rfl rfl (fun _ => rfl) ?_
              refine ir_c_ne (pt := 116) (pc' := 105) rfl rfl rfl (fun c27 => ?_) (fun c27 => ?_)
              · refine ir_l (pc' := 117) rfl rfl rfl rfl rfl rfl ?_
                refine ir_x (pc' := 118) rfl rfl rfl (fun _ => rfl) ?_
                refine ir_getI (pc' := 121) rfl rfl rfl (hG_at usk_0) rfl (by decide) (by decide) e17 (by omega) (by omega) ?_
                refine ir_k (pc' := 122) (v := (0, 1)) rfl rfl rfl (fun _ => rfl) ?_
                refine ir_add (pc' := 123) rfl rfl (by omega) (by omega) ?_
                refine ir_upi (pc' := 126) rfl rfl rfl uf_0_4 rfl usk_0 hT14 rfl (by omega) (by omega) (fun s28 hT28 e28 g28 r28 => ?_)
                have hF28 := ur_put (k := 0) hF14 (by decide) usk_0 g28 r28
                have e29 : s28.1 582 1 = w2_582_1 := (g28 582 1 (fun z => absurd z.2 (by decide))).trans e15
                have e30 : s28.1 582 2 = w2_582_2 := (g28 582 2 (fun z => absurd z.2 (by decide))).trans e16
                have e31 : s28.1 582 21 = z26 := (g28 582 21 (fun z => absurd z.2 (by decide))).trans z26e
                refine ir_l (pc' := 127) rfl rfl rfl rfl rfl rfl ?_
                refine ir_x (pc' := 128) rfl rfl rfl (fun _ => rfl) ?_
                refine ir_getI (pc' := 131) rfl rfl rfl (hG_at usk_0) rfl (by decide) (by decide) e31 (by omega) (by omega) ?_
                refine ir_k (pc' := 132) (v := (0, 1)) rfl rfl rfl (fun _ => rfl) ?_
                refine ir_add (pc' := 133) rfl rfl (by omega) (by omega) ?_
                refine ir_upi (pc' := 136) rfl rfl rfl uf_0_21 rfl usk_0 hT28 rfl (by omega) (by omega) (fun s32 hT32 e32 g32 r32 => ?_)
                have hF32 := ur_put (k := 0) hF28 (by decide) usk_0 g32 r32
                have e33 : s32.1 582 1 = w2_582_1 := (g32 582 1 (fun z => absurd z.2 (by decide))).trans e29
                have e34 : s32.1 582 2 = w2_582_2 := (g32 582 2 (fun z => absurd z.2 (by decide))).trans e30
                have e35 : s32.1 582 4 = (w2_582_4 + 1) := (g32 582 4 (fun z => absurd z.2 (by decide))).trans e28
                refine ir_l (pc' := 137) rfl rfl rfl rfl rfl rfl ?_
                refine ir_cVV (pc' := 140) rfl rfl rfl rfl rfl (Nat.le_of_ble_eq_true rfl) oo_X10_beginSum (hG_at usk_0) (rf_beginSumR L ys (d + 2) s32 hT32  ) (fun s37 hr => ?_)
                obtain ⟨hT37, hG37, p37_0, p37_1⟩ := hr
                have hF37 := ur_trans hF32 hG37 (by decide)
                have e38 : s37.1 582 1 = w2_582_1 := (hG37.1 _ _ usk_0 1 (by decide)).trans e33
                have e39 : s37.1 582 2 = w2_582_2 := (hG37.1 _ _ usk_0 2 (by decide)).trans e34
                have e40 : s37.1 582 21 = (z26 + 1) := (hG37.1 _ _ usk_0 21 (by decide)).trans e32
                obtain ⟨z41, z41e, z41l, z41h⟩ := uI_i uf_0_4 usk_0 hT37
                refine ir_k (pc' := 141) (v := (0, 1)) rfl rfl rfl (fun _ => rfl) ?_
                exact ir_zret rfl rfl (by omega) ⟨_, rfl, hT37, hF37, by omega, by omega, (by first | omega | (dsimp only; omega)), (by first | omega | (dsimp only; omega)), (by first | omega | (dsimp only; omega))⟩
              · refine ir_l (pc' := 106) rfl rfl rfl rfl rfl rfl ?_
                refine ir_k (pc' := 107) (v := (0, 3)) rfl rfl rfl (fun _ => rfl) ?_
                refine ir_l (pc' := 108) rfl rfl rfl rfl rfl rfl ?_
                refine ir_getI (pc' := 111) rfl rfl rfl (hG_at usk_0) rfl (by decide) (by decide) e17 (by omega) (by omega) ?_
                refine ir_cVV (pc' := 114) rfl rfl rfl rfl rfl (Nat.le_of_ble_eq_true rfl) oo_X10_fail (hG_at usk_0) (rf_failR L ys (d + 3) s14 hT14 (3) (by omega) (by omega) (w2_582_4) (by omega) (by omega) ) (fun s43 hr => ?_)
                obtain ⟨hT43, hG43, p43_0, p43_1⟩ := hr
                have hF43 := ur_trans hF14 hG43 (by decide)
                have e44 : s43.1 582 1 = w2_582_1 := (hG43.1 _ _ usk_0 1 (by decide)).trans e15
                have e45 : s43.1 582 4 = w2_582_4 := (hG43.1 _ _ usk_0 4 (by decide)).trans e17
                have e46 : s43.1 582 21 = z26 := (hG43.1 _ _ usk_0 21 (by decide)).trans z26e
                obtain ⟨z47, z47e, z47l, z47h⟩ := uI_i uf_0_2 usk_0 hT43
                refine ir_k (pc' := 115) (v := (0, 1)) rfl rfl rfl (fun _ => rfl) ?_
                exact ir_zret rfl rfl (by omega) ⟨_, rfl, hT43, hF43, by omega, by omega, (by first | omega | (dsimp only; omega)), (by first | omega | (dsimp only; omega)), (by first | omega | (dsimp only; omega))⟩
          · refine ir_l (pc' := 63) rfl rfl rfl rfl rfl rfl ?_
            refine ir_ugr (pc' := 66) rfl rfl rfl uf_0_16 usk_0 hT14 (fun b48 b48e b48k => ?_)
            obtain rfl := usg_9 b48k
            refine ir_k (pc' := 68) (v := (0, 9)) rfl rfl rfl (fun _ => rfl) ?_
            refine ir_l (pc' := 69) rfl rfl rfl rfl rfl rfl ?_
            refine ir_ugi (pc' := 72) rfl rfl rfl uf_0_21 usk_0 hT14 (fun z49 z49e z49l z49h => ?_)
            refine ir_mul (pc' := 73) rfl rfl (by omega) (by omega) ?_
            refine ir_k (pc' := 74) (v := (0, 1)) rfl rfl rfl (fun _ => rfl) ?_
            refine ir_add (pc' := 75) rfl rfl (by omega) (by omega) ?_
            refine ir_k (pc' := 76) (v := (1, 1)) rfl rfl rfl (fun _ => rfl) ?_
            refine ir_uls (pc' := 77) rfl rfl ue_9 usk_9 hT14 (by omega) (by omega) (by omega) (by omega) (fun s50 hT50 r50 o50 => ?_)
            have hF50 := ur_row (k := 9) hF14 (by decide) usk_9 r50 o50
            have e51 : s50.1 582 1 = w2_582_1 := by rw [r50]; exact e15
            have e52 : s50.1 582 2 = w2_582_2 := by rw [r50]; exact e16
            have e53 : s50.1 582 4 = w2_582_4 := by rw [r50]; exact e17
            have e54 : s50.1 582 16 = ((591 : Nat) : Int) := by rw [r50]; exact b48e
            have e55 : s50.1 582 21 = z49 := by rw [r50]; exact z49e
            refine ir_l (pc' := 78) rfl rfl rfl rfl rfl rfl ?_
            refine ir_x (pc' := 79) rfl rfl rfl (fun _ => rfl) ?_
            refine ir_getI (pc' := 82) rfl rfl rfl (hG_at usk_0) rfl (by decide) (by decide) e53 (by omega) (by omega) ?_
            refine ir_k (pc' := 83) (v := (0, 1)) rfl rfl rfl (fun _ => rfl) ?_
            refine ir_add (pc' := 84) rfl rfl (by omega) (by omega) ?_
            refine ir_upi (pc' := 87) rfl rfl rfl uf_0_4 rfl usk_0 hT50 rfl (by omega) (by omega) (fun s56 hT56 e56 g56 r56 => ?_)
            have hF56 := ur_put (k := 0) hF50 (by decide) usk_0 g56 r56
            have e57 : s56.1 582 1 = w2_582_1 := (g56 582 1 (fun z => absurd z.2 (by decide))).trans e51
            have e58 : s56.1 582 2 = w2_582_2 := (g56 582 2 (fun z => absurd z.2 (by decide))).trans e52
            have e59 : s56.1 582 16 = ((591 : Nat) : Int) := (g56 582 16 (fun z => absurd z.2 (by decide))).trans e54
            have e60 : s56.1 582 21 = z49 := (g56 582 21 (fun z => absurd z.2 (by decide))).trans e55
            refine ir_goto (pc' := 146) rfl rfl ?_
            refine ir_w [(0, (2, ((582 : Nat) : Int)))] ⟨rfl, trivial⟩ ?_
            exact J146 s56 hT56 hF56 (w2_582_1) (by omega) (by omega) e57 (w2_582_2) (by omega) (by omega) e58 ((w2_582_4 + 1)) (by omega) (by omega) e56 (by omega) (by omega)
        · refine ir_l (pc' := 37) rfl rfl rfl rfl rfl rfl ?_
          refine ir_ugr (pc' := 40) rfl rfl rfl uf_0_16 usk_0 hT14 (fun b61 b61e b61k => ?_)
          obtain rfl := usg_9 b61k
          refine ir_k (pc' := 42) (v := (0, 9)) rfl rfl rfl (fun _ => rfl) ?_
          refine ir_l (pc' := 43) rfl rfl rfl rfl rfl rfl ?_
          refine ir_ugi (pc' := 46) rfl rfl rfl uf_0_21 usk_0 hT14 (fun z62 z62e z62l z62h => ?_)
          refine ir_mul (pc' := 47) rfl rfl (by omega) (by omega) ?_
          refine ir_l (pc' := 48) rfl rfl rfl rfl rfl rfl ?_
          refine ir_cVI (pc' := 51) rfl rfl rfl rfl rfl (Nat.le_of_ble_eq_true rfl) oo_X10_number (hG_at usk_0) (rf_numberR L ys (d + 2) s14 hT14  ) (fun z63 s64 hr => ?_)
          obtain ⟨hT64, hG64, z63l, z63h, p64_0, p64_1⟩ := hr
          have hF64 := ur_trans hF14 hG64 (by decide)
          have e65 : s64.1 582 1 = w2_582_1 := (hG64.1 _ _ usk_0 1 (by decide)).trans e15
          have e66 : s64.1 582 16 = ((591 : Nat) : Int) := (hG64.1 _ _ usk_0 16 (by decide)).trans b61e
          have e67 : s64.1 582 21 = z62 := (hG64.1 _ _ usk_0 21 (by decide)).trans z62e
          obtain ⟨z68, z68e, z68l, z68h⟩ := uI_i uf_0_2 usk_0 hT64
          obtain ⟨z69, z69e, z69l, z69h⟩ := uI_i uf_0_4 usk_0 hT64
          refine ir_i2l (pc' := 52) rfl rfl (by omega) (by omega) ?_
          refine ir_uls (pc' := 53) rfl rfl ue_9 usk_9 hT64 (by omega) (by omega) (by omega) (by omega) (fun s70 hT70 r70 o70 => ?_)
          have hF70 := ur_row (k := 9) hF64 (by decide) usk_9 r70 o70
          have e71 : s70.1 582 1 = w2_582_1 := by rw [r70]; exact e65
          have e72 : s70.1 582 16 = ((591 : Nat) : Int) := by rw [r70]; exact e66
          have e73 : s70.1 582 21 = z62 := by rw [r70]; exact e67
          have e74 : s70.1 582 2 = z68 := by rw [r70]; exact z68e
          have e75 : s70.1 582 4 = z69 := by rw [r70]; exact z69e
          refine ir_goto (pc' := 146) rfl rfl ?_
          refine ir_w [(0, (2, ((582 : Nat) : Int)))] ⟨rfl, trivial⟩ ?_
          exact J146 s70 hT70 hF70 (w2_582_1) (by omega) (by omega) e71 (z68) (by omega) (by omega) e74 (z69) (by omega) (by omega) e75 (by omega) (by omega)
      · refine ir_l (pc' := 9) rfl rfl rfl rfl rfl rfl ?_
        refine ir_ugr (pc' := 12) rfl rfl rfl uf_0_16 usk_0 hT_2 (fun b76 b76e b76k => ?_)
        obtain rfl := usg_9 b76k
        refine ir_k (pc' := 14) (v := (0, 9)) rfl rfl rfl (fun _ => rfl) ?_
        refine ir_l (pc' := 15) rfl rfl rfl rfl rfl rfl ?_
        refine ir_ugi (pc' := 18) rfl rfl rfl uf_0_21 usk_0 hT_2 (fun z77 z77e z77l z77h => ?_)
        refine ir_mul (pc' := 19) rfl rfl (by omega) (by omega) ?_
        refine ir_l (pc' := 20) rfl rfl rfl rfl rfl rfl ?_
        refine ir_add (pc' := 21) rfl rfl (by omega) (by omega) ?_
        refine ir_k (pc' := 22) (v := (1, 0)) rfl rfl rfl (fun _ => rfl) ?_
        refine ir_uls (pc' := 23) rfl rfl ue_9 usk_9 hT_2 (by omega) (by omega) (by omega) (by omega) (fun s78 hT78 r78 o78 => ?_)
        have hF78 := ur_row (k := 9) hF_2 (by decide) usk_9 r78 o78
        have e79 : s78.1 582 1 = w2_582_1 := by rw [r78]; exact w2_582_1e
        have e80 : s78.1 582 2 = w2_582_2 := by rw [r78]; exact w2_582_2e
        have e81 : s78.1 582 4 = w2_582_4 := by rw [r78]; exact w2_582_4e
        have e82 : s78.1 582 16 = ((591 : Nat) : Int) := by rw [r78]; exact b76e
        have e83 : s78.1 582 21 = z77 := by rw [r78]; exact z77e
        refine ir_inc (pc' := 26) rfl rfl rfl rfl rfl (by omega) (by omega) ?_
        refine ir_goto (pc' := 2) rfl rfl ?_
        refine ir_w [(0, (2, ((582 : Nat) : Int))), (1, (0, x1)), (2, (0, (q2_l2 + 1)))] ⟨rfl, rfl, rfl, trivial⟩ ?_
        exact ih2 ((q2_l2 + 1)) (by omega) (by omega) s78 hT78 hF78 (w2_582_1) (by omega) (by omega) e79 (w2_582_2) (by omega) (by omega) e80 (w2_582_4) (by omega) (by omega) e81 (by omega) (by omega) (by omega) (by omega) (by omega)
  obtain ⟨z84, z84e, z84l, z84h⟩ := uI_i uf_0_1 usk_0 hT0
  obtain ⟨z85, z85e, z85l, z85h⟩ := uI_i uf_0_2 usk_0 hT0
  obtain ⟨z86, z86e, z86l, z86h⟩ := uI_i uf_0_4 usk_0 hT0
  refine ir_k (pc' := 1) (v := (0, 0)) rfl rfl rfl (fun _ => rfl) ?_
  refine ir_s (pc' := 2) rfl rfl rfl rfl rfl rfl ?_
  refine ir_w [(0, (2, ((582 : Nat) : Int))), (1, (0, x1)), (2, (0, 0))] ⟨rfl, rfl, rfl, trivial⟩ ?_
  exact J2 _ (0) (by omega) (by omega) s0 hT0 hF0 (z84) (by omega) (by omega) z84e (z85) (by omega) (by omega) z85e (z86) (by omega) (by omega) z86e (by omega) (by omega) (by omega) (by omega) (Int.self_le_toNat _)
theorem rf_readSumR (L : Nat) (ys : Nat → Int32) (d : Nat) (s0 : im_S) (hT0 : uI s0)  : icV gG rm_P L ys (d + 6) 83 [(2, ((582 : Nat) : Int))] s0 (fun s => uI s ∧ ur [(0, 2), (0, 3), (0, 4), (0, 21), (7, 1000), (8, 1000), (9, 1000), (10, 1000), (11, 1000), (12, 1000), (13, 1000), (14, 1000)] s0 s ∧ s0.1 582 4 ≤ s.1 582 4 ∧ s0.1 582 2 ≤ s.1 582 2) := by
  refine ic_startM (M := rm_p_X10_readSum) om_X10_readSum (Nat.le_of_ble_eq_true rfl) ?_
  refine ir_w [(0, (2, ((582 : Nat) : Int)))] ⟨rfl, trivial⟩ ?_
  have hF0 := ur_refl [(0, 2), (0, 3), (0, 4), (0, 21), (7, 1000), (8, 1000), (9, 1000), (10, 1000), (11, 1000), (12, 1000), (13, 1000), (14, 1000)] s0
  have J174 : ∀ (s_174 : im_S) (hT_174 : uI s_174) (hF_174 : ur [(0, 2), (0, 3), (0, 4), (0, 21), (7, 1000), (8, 1000), (9, 1000), (10, 1000), (11, 1000), (12, 1000), (13, 1000), (14, 1000)] s0 s_174) (w174_582_1 : Int) (w174_582_1l : 0 ≤ w174_582_1) (w174_582_1h : w174_582_1 ≤ 400) (w174_582_1e : s_174.1 582 1 = w174_582_1) (w174_582_2 : Int) (w174_582_2l : 0 ≤ w174_582_2) (w174_582_2h : w174_582_2 ≤ 3) (w174_582_2e : s_174.1 582 2 = w174_582_2) (w174_582_4 : Int) (w174_582_4l : 0 ≤ w174_582_4) (w174_582_4h : w174_582_4 ≤ 400) (w174_582_4e : s_174.1 582 4 = w174_582_4) (i174_0 : s0.1 582 4 ≤ w174_582_4) (i174_1 : s0.1 582 2 ≤ w174_582_2), ir gG rm_P L ys (d + 5) rm_p_X10_readSum (174, [], [], s_174) (fun r : im_Re => r.1 = none ∧ (uI r.2 ∧ ur [(0, 2), (0, 3), (0, 4), (0, 21), (7, 1000), (8, 1000), (9, 1000), (10, 1000), (11, 1000), (12, 1000), (13, 1000), (14, 1000)] s0 r.2 ∧ s0.1 582 4 ≤ r.2.1 582 4 ∧ s0.1 582 2 ≤ r.2.1 582 2)) := by
    intro s_174 hT_174 hF_174 w174_582_1 w174_582_1l w174_582_1h w174_582_1e w174_582_2 w174_582_2l w174_582_2h w174_582_2e w174_582_4 w174_582_4l w174_582_4h w174_582_4e i174_0 i174_1
    exact ir_vret rfl rfl ⟨rfl, hT_174, hF_174, (by first | omega | (dsimp only; omega)), (by first | omega | (dsimp only; omega))⟩
  have J13 : ∀ n : Nat, ∀ (q13_l1 : Int) (q13_l1l : 0 ≤ q13_l1) (q13_l1h : q13_l1 ≤ 1) (q13_l2 : Int) (q13_l2l : 0 ≤ q13_l2) (q13_l2h : q13_l2 ≤ 1) (s_13 : im_S) (hT_13 : uI s_13) (hF_13 : ur [(0, 2), (0, 3), (0, 4), (0, 21), (7, 1000), (8, 1000), (9, 1000), (10, 1000), (11, 1000), (12, 1000), (13, 1000), (14, 1000)] s0 s_13) (w13_582_1 : Int) (w13_582_1l : 0 ≤ w13_582_1) (w13_582_1h : w13_582_1 ≤ 400) (w13_582_1e : s_13.1 582 1 = w13_582_1) (w13_582_2 : Int) (w13_582_2l : 0 ≤ w13_582_2) (w13_582_2h : w13_582_2 ≤ 3) (w13_582_2e : s_13.1 582 2 = w13_582_2) (w13_582_4 : Int) (w13_582_4l : 0 ≤ w13_582_4) (w13_582_4h : w13_582_4 ≤ 400) (w13_582_4e : s_13.1 582 4 = w13_582_4) (i13_0 : s0.1 582 4 ≤ w13_582_4) (i13_1 : s0.1 582 2 ≤ w13_582_2), (2 * ((401 - w13_582_4) + (3 - w13_582_2) + (1 - q13_l2)) + q13_l1 + 1) ≤ (n : Int) → ir gG rm_P L ys (d + 5) rm_p_X10_readSum (13, [(0, (2, ((582 : Nat) : Int))), (1, (0, q13_l1)), (2, (0, q13_l2))], [], s_13) (fun r : im_Re => r.1 = none ∧ (uI r.2 ∧ ur [(0, 2), (0, 3), (0, 4), (0, 21), (7, 1000), (8, 1000), (9, 1000), (10, 1000), (11, 1000), (12, 1000), (13, 1000), (14, 1000)] s0 r.2 ∧ s0.1 582 4 ≤ r.2.1 582 4 ∧ s0.1 582 2 ≤ r.2.1 582 2)) := by
    intro n
    induction n with
    | zero => intro q13_l1 q13_l1l q13_l1h q13_l2 q13_l2l q13_l2h s_13 hT_13 hF_13 w13_582_1 w13_582_1l w13_582_1h w13_582_1e w13_582_2 w13_582_2l w13_582_2h w13_582_2e w13_582_4 w13_582_4l w13_582_4h w13_582_4e i13_0 i13_1 hr; exfalso; omega
    | succ n ih13 =>
      intro q13_l1 q13_l1l q13_l1h q13_l2 q13_l2l q13_l2h s_13 hT_13 hF_13 w13_582_1 w13_582_1l w13_582_1h w13_582_1e w13_582_2 w13_582_2l w13_582_2h w13_582_2e w13_582_4 w13_582_4l w13_582_4h w13_582_4e i13_0 i13_1 hr
      have J171 : ∀ (q171_l1 : Int) (q171_l1l : 0 ≤ q171_l1) (q171_l1h : q171_l1 ≤ 1) (q171_l2 : Int) (q171_l2l : 0 ≤ q171_l2) (q171_l2h : q171_l2 ≤ 1) (s_171 : im_S) (hT_171 : uI s_171) (hF_171 : ur [(0, 2), (0, 3), (0, 4), (0, 21), (7, 1000), (8, 1000), (9, 1000), (10, 1000), (11, 1000), (12, 1000), (13, 1000), (14, 1000)] s0 s_171) (w171_582_1 : Int) (w171_582_1l : 0 ≤ w171_582_1) (w171_582_1h : w171_582_1 ≤ 400) (w171_582_1e : s_171.1 582 1 = w171_582_1) (w171_582_2 : Int) (w171_582_2l : 0 ≤ w171_582_2) (w171_582_2h : w171_582_2 ≤ 3) (w171_582_2e : s_171.1 582 2 = w171_582_2) (w171_582_4 : Int) (w171_582_4l : 0 ≤ w171_582_4) (w171_582_4h : w171_582_4 ≤ 400) (w171_582_4e : s_171.1 582 4 = w171_582_4) (i171_0 : 2 * ((401 - w171_582_4) + (3 - w171_582_2) + (1 - q171_l2)) + q171_l1 < 2 * ((401 - w13_582_4) + (3 - w13_582_2) + (1 - q13_l2)) + q13_l1) (i171_1 : s0.1 582 4 ≤ w171_582_4) (i171_2 : s0.1 582 2 ≤ w171_582_2), ir gG rm_P L ys (d + 5) rm_p_X10_readSum (171, [(0, (2, ((582 : Nat) : Int))), (1, (0, q171_l1)), (2, (0, q171_l2))], [], s_171) (fun r : im_Re => r.1 = none ∧ (uI r.2 ∧ ur [(0, 2), (0, 3), (0, 4), (0, 21), (7, 1000), (8, 1000), (9, 1000), (10, 1000), (11, 1000), (12, 1000), (13, 1000), (14, 1000)] s0 r.2 ∧ s0.1 582 4 ≤ r.2.1 582 4 ∧ s0.1 582 2 ≤ r.2.1 582 2)) := by
        intro q171_l1 q171_l1l q171_l1h q171_l2 q171_l2l q171_l2h s_171 hT_171 hF_171 w171_582_1 w171_582_1l w171_582_1h w171_582_1e w171_582_2 w171_582_2l w171_582_2h w171_582_2e w171_582_4 w171_582_4l w171_582_4h w171_582_4e i171_0 i171_1 i171_2
        refine ir_goto (pc' := 13) rfl rfl ?_
        refine ir_w [(0, (2, ((582 : Nat) : Int))), (1, (0, q171_l1)), (2, (0, q171_l2))] ⟨rfl, rfl, rfl, trivial⟩ ?_
        exact ih13 (q171_l1) (by omega) (by omega) (q171_l2) (by omega) (by omega) s_171 hT_171 hF_171 (w171_582_1) (by omega) (by omega) w171_582_1e (w171_582_2) (by omega) (by omega) w171_582_2e (w171_582_4) (by omega) (by omega) w171_582_4e (by omega) (by omega) (by omega)
      have J169 : ∀ (f169_1h : q13_l1 ≤ 0) (s_169 : im_S) (hT_169 : uI s_169) (hF_169 : ur [(0, 2), (0, 3), (0, 4), (0, 21), (7, 1000), (8, 1000), (9, 1000), (10, 1000), (11, 1000), (12, 1000), (13, 1000), (14, 1000)] s0 s_169) (w169_582_1 : Int) (w169_582_1l : 0 ≤ w169_582_1) (w169_582_1h : w169_582_1 ≤ 400) (w169_582_1e : s_169.1 582 1 = w169_582_1) (w169_582_2 : Int) (w169_582_2l : 0 ≤ w169_582_2) (w169_582_2h : w169_582_2 ≤ 3) (w169_582_2e : s_169.1 582 2 = w169_582_2) (w169_582_4 : Int) (w169_582_4l : 0 ≤ w169_582_4) (w169_582_4h : w169_582_4 ≤ 400) (w169_582_4e : s_169.1 582 4 = w169_582_4) (i169_0 : w13_582_4 ≤ w169_582_4) (i169_1 : w13_582_2 ≤ w169_582_2) (i169_2 : q13_l2 = 0) (i169_3 : s0.1 582 4 ≤ w169_582_4) (i169_4 : s0.1 582 2 ≤ w169_582_2), ir gG rm_P L ys (d + 5) rm_p_X10_readSum (169, [(0, (2, ((582 : Nat) : Int))), (1, (0, q13_l1))], [], s_169) (fun r : im_Re => r.1 = none ∧ (uI r.2 ∧ ur [(0, 2), (0, 3), (0, 4), (0, 21), (7, 1000), (8, 1000), (9, 1000), (10, 1000), (11, 1000), (12, 1000), (13, 1000), (14, 1000)] s0 r.2 ∧ s0.1 582 4 ≤ r.2.1 582 4 ∧ s0.1 582 2 ≤ r.2.1 582 2)) := by
        intro f169_1h s_169 hT_169 hF_169 w169_582_1 w169_582_1l w169_582_1h w169_582_1e w169_582_2 w169_582_2l w169_582_2h w169_582_2e w169_582_4 w169_582_4l w169_582_4h w169_582_4e i169_0 i169_1 i169_2 i169_3 i169_4
        refine ir_k (pc' := 170) (v := (0, 1)) rfl rfl rfl (fun _ => rfl) ?_
        refine ir_s (pc' := 171) rfl rfl rfl rfl rfl rfl ?_
        refine ir_w [(0, (2, ((582 : Nat) : Int))), (1, (0, q13_l1)), (2, (0, 1))] ⟨rfl, rfl, rfl, trivial⟩ ?_
        exact J171 (q13_l1) (by omega) (by omega) (1) (by omega) (by omega) s_169 hT_169 hF_169 (w169_582_1) (by omega) (by omega) w169_582_1e (w169_582_2) (by omega) (by omega) w169_582_2e (w169_582_4) (by omega) (by omega) w169_582_4e (by omega) (by omega) (by omega)
      have J147 : ∀ (q147_l3 : Int) (q147_l3l : -1 ≤ q147_l3) (q147_l3h : q147_l3 ≤ 126) (f147_1h : q13_l1 ≤ 0) (f147_2h : q13_l2 ≤ 0) (s_147 : im_S) (hT_147 : uI s_147) (hF_147 : ur [(0, 2), (0, 3), (0, 4), (0, 21), (7, 1000), (8, 1000), (9, 1000), (10, 1000), (11, 1000), (12, 1000), (13, 1000), (14, 1000)] s0 s_147) (w147_582_1 : Int) (w147_582_1l : 0 ≤ w147_582_1) (w147_582_1h : w147_582_1 ≤ 400) (w147_582_1e : s_147.1 582 1 = w147_582_1) (w147_582_2 : Int) (w147_582_2l : 0 ≤ w147_582_2) (w147_582_2h : w147_582_2 ≤ 3) (w147_582_2e : s_147.1 582 2 = w147_582_2) (w147_582_4 : Int) (w147_582_4l : 0 ≤ w147_582_4) (w147_582_4h : w147_582_4 ≤ 400) (w147_582_4e : s_147.1 582 4 = w147_582_4) (i147_0 : w13_582_4 ≤ w147_582_4) (i147_1 : w13_582_2 ≤ w147_582_2) (i147_2 : (q147_l3 = -1 ∨ w147_582_4 < w147_582_1)) (i147_3 : q13_l2 = 0) (i147_4 : s0.1 582 4 ≤ w147_582_4) (i147_5 : s0.1 582 2 ≤ w147_582_2), ir gG rm_P L ys (d + 5) rm_p_X10_readSum (147, [(0, (2, ((582 : Nat) : Int))), (1, (0, q13_l1)), (2, (0, q13_l2)), (3, (0, q147_l3))], [], s_147) (fun r : im_Re => r.1 = none ∧ (uI r.2 ∧ ur [(0, 2), (0, 3), (0, 4), (0, 21), (7, 1000), (8, 1000), (9, 1000), (10, 1000), (11, 1000), (12, 1000), (13, 1000), (14, 1000)] s0 r.2 ∧ s0.1 582 4 ≤ r.2.1 582 4 ∧ s0.1 582 2 ≤ r.2.1 582 2)) := by
        intro q147_l3 q147_l3l q147_l3h f147_1h f147_2h s_147 hT_147 hF_147 w147_582_1 w147_582_1l w147_582_1h w147_582_1e w147_582_2 w147_582_2l w147_582_2h w147_582_2e w147_582_4 w147_582_4l w147_582_4h w147_582_4e i147_0 i147_1 i147_2 i147_3 i147_4 i147_5
        refine ir_l (pc' := 148) rfl rfl rfl rfl rfl rfl ?_
        refine ir_cVI (pc' := 151) rfl rfl rfl rfl rfl (Nat.le_of_ble_eq_true rfl) oo_X10_good (hG_at usk_0) (rf_goodR L ys (d + 4) s_147 hT_147  ) (fun z1 s2 hr => ?_)
        obtain ⟨hT2, hG2, z1l, z1h, p2_0⟩ := hr
        have hF2 := ur_trans hF_147 hG2 (by decide)
        have e3 : s2.1 582 1 = w147_582_1 := (hG2.1 _ _ usk_0 1 (by decide)).trans w147_582_1e
        have e4 : s2.1 582 4 = w147_582_4 := (hG2.1 _ _ usk_0 4 (by decide)).trans w147_582_4e
        have e5 : s2.1 582 2 = w147_582_2 := (hG2.1 _ _ usk_0 2 (by decide)).trans w147_582_2e
        refine ir_z_eq (pt := 169) (pc' := 154) rfl rfl rfl (fun c6 => ?_) (fun c6 => ?_)
        · refine ir_w [(0, (2, ((582 : Nat) : Int))), (1, (0, q13_l1))] ⟨rfl, rfl, trivial⟩ ?_
          exact J169 (by omega) s2 hT2 hF2 (w147_582_1) (by omega) (by omega) e3 (w147_582_2) (by omega) (by omega) e5 (w147_582_4) (by omega) (by omega) e4 (by omega) (by omega) (by omega) (by omega) (by omega)
        · refine ir_l (pc' := 155) rfl rfl rfl rfl rfl rfl ?_
          refine ir_ugi (pc' := 158) rfl rfl rfl uf_0_21 usk_0 hT2 (fun z7 z7e z7l z7h => ?_)
          refine ir_z_le (pt := 169) (pc' := 161) rfl rfl rfl (fun c8 => ?_) (fun c8 => ?_)
          · refine ir_w [(0, (2, ((582 : Nat) : Int))), (1, (0, q13_l1))] ⟨rfl, rfl, trivial⟩ ?_
            exact J169 (by omega) s2 hT2 hF2 (w147_582_1) (by omega) (by omega) e3 (w147_582_2) (by omega) (by omega) e5 (w147_582_4) (by omega) (by omega) e4 (by omega) (by omega) (by omega) (by omega) (by omega)
          · refine ir_l (pc' := 162) rfl rfl rfl rfl rfl rfl ?_
            refine ir_l (pc' := 163) rfl rfl rfl rfl rfl rfl ?_
            refine ir_cVV (pc' := 166) rfl rfl rfl rfl rfl (Nat.le_of_ble_eq_true rfl) oo_X10_endBracket (hG_at usk_0) (rf_endBracketR L ys d s2 hT2 (q147_l3) (by omega) (by omega) (by omega) (by omega) (by omega)) (fun s10 hr => ?_)
            obtain ⟨hT10, hG10, p10_0, p10_1, p10_2⟩ := hr
            have hF10 := ur_trans hF2 hG10 (by decide)
            have e11 : s10.1 582 1 = w147_582_1 := (hG10.1 _ _ usk_0 1 (by decide)).trans e3
            obtain ⟨z12, z12e, z12l, z12h⟩ := uI_i uf_0_2 usk_0 hT10
            obtain ⟨z13, z13e, z13l, z13h⟩ := uI_i uf_0_4 usk_0 hT10
            refine ir_goto (pc' := 171) rfl rfl ?_
            refine ir_w [(0, (2, ((582 : Nat) : Int))), (1, (0, q13_l1)), (2, (0, q13_l2))] ⟨rfl, rfl, rfl, trivial⟩ ?_
            exact J171 (q13_l1) (by omega) (by omega) (q13_l2) (by omega) (by omega) s10 hT10 hF10 (w147_582_1) (by omega) (by omega) e11 (z12) (by omega) (by omega) z12e (z13) (by omega) (by omega) z13e (by omega) (by omega) (by omega)
      have J118 : ∀ (q118_s1 : Int) (q118_s1l : 0 ≤ q118_s1) (q118_s1h : q118_s1 ≤ 10) (q118_s2 : Int) (q118_s2l : -1 ≤ q118_s2) (q118_s2h : q118_s2 ≤ 1) (f118_2h : q13_l2 ≤ 0) (s_118 : im_S) (hT_118 : uI s_118) (hF_118 : ur [(0, 2), (0, 3), (0, 4), (0, 21), (7, 1000), (8, 1000), (9, 1000), (10, 1000), (11, 1000), (12, 1000), (13, 1000), (14, 1000)] s0 s_118) (w118_582_1 : Int) (w118_582_1l : 0 ≤ w118_582_1) (w118_582_1h : w118_582_1 ≤ 400) (w118_582_1e : s_118.1 582 1 = w118_582_1) (w118_582_2 : Int) (w118_582_2l : 0 ≤ w118_582_2) (w118_582_2h : w118_582_2 ≤ 3) (w118_582_2e : s_118.1 582 2 = w118_582_2) (w118_582_4 : Int) (w118_582_4l : 0 ≤ w118_582_4) (w118_582_4h : w118_582_4 ≤ 400) (w118_582_4e : s_118.1 582 4 = w118_582_4) (w118_582_18e : s_118.1 582 18 = ((593 : Nat) : Int)) (w118_582_21 : Int) (w118_582_21l : 0 ≤ w118_582_21) (w118_582_21h : w118_582_21 ≤ 10) (w118_582_21e : s_118.1 582 21 = w118_582_21) (i118_0 : w13_582_4 ≤ w118_582_4) (i118_1 : w13_582_2 ≤ w118_582_2) (i118_2 : w118_582_4 < w118_582_1) (i118_3 : s0.1 582 4 ≤ w118_582_4) (i118_4 : s0.1 582 2 ≤ w118_582_2), ir gG rm_P L ys (d + 5) rm_p_X10_readSum (118, [(0, (2, ((582 : Nat) : Int))), (2, (0, q13_l2))], [(0, q118_s2), (0, q118_s1), (2, ((593 : Nat) : Int))], s_118) (fun r : im_Re => r.1 = none ∧ (uI r.2 ∧ ur [(0, 2), (0, 3), (0, 4), (0, 21), (7, 1000), (8, 1000), (9, 1000), (10, 1000), (11, 1000), (12, 1000), (13, 1000), (14, 1000)] s0 r.2 ∧ s0.1 582 4 ≤ r.2.1 582 4 ∧ s0.1 582 2 ≤ r.2.1 582 2)) := by
        intro q118_s1 q118_s1l q118_s1h q118_s2 q118_s2l q118_s2h f118_2h s_118 hT_118 hF_118 w118_582_1 w118_582_1l w118_582_1h w118_582_1e w118_582_2 w118_582_2l w118_582_2h w118_582_2e w118_582_4 w118_582_4l w118_582_4h w118_582_4e w118_582_18e w118_582_21 w118_582_21l w118_582_21h w118_582_21e i118_0 i118_1 i118_2 i118_3 i118_4
        refine ir_uis (pc' := 119) rfl rfl rfl rfl ue_11 usk_11 hT_118 (by omega) (by omega) (rfl) (by omega) (by omega) (fun s14 hT14 r14 o14 => ?_)
        have hF14 := ur_row (k := 11) hF_118 (by decide) usk_11 r14 o14
        have e15 : s14.1 582 1 = w118_582_1 := by rw [r14]; exact w118_582_1e
        have e16 : s14.1 582 4 = w118_582_4 := by rw [r14]; exact w118_582_4e
        have e17 : s14.1 582 2 = w118_582_2 := by rw [r14]; exact w118_582_2e
        have e18 : s14.1 582 18 = ((593 : Nat) : Int) := by rw [r14]; exact w118_582_18e
        have e19 : s14.1 582 21 = w118_582_21 := by rw [r14]; exact w118_582_21e
        refine ir_l (pc' := 120) rfl rfl rfl rfl rfl rfl ?_
        refine ir_ugr (pc' := 123) rfl rfl rfl uf_0_19 usk_0 hT14 (fun b20 b20e b20k => ?_)
        obtain rfl := usg_12 b20k
        refine ir_l (pc' := 124) rfl rfl rfl rfl rfl rfl ?_
        refine ir_getI (pc' := 127) rfl rfl rfl (hG_at usk_0) rfl (by decide) (by decide) e19 (by omega) (by omega) ?_
        refine ir_l (pc' := 128) rfl rfl rfl rfl rfl rfl ?_
        refine ir_getI (pc' := 131) rfl rfl rfl (hG_at usk_0) rfl (by decide) (by decide) e16 (by omega) (by omega) ?_
        refine ir_uis (pc' := 132) rfl rfl rfl rfl ue_12 usk_12 hT14 (by omega) (by omega) (rfl) (by omega) (by omega) (fun s21 hT21 r21 o21 => ?_)
        have hF21 := ur_row (k := 12) hF14 (by decide) usk_12 r21 o21
        have e22 : s21.1 582 1 = w118_582_1 := by rw [r21]; exact e15
        have e23 : s21.1 582 4 = w118_582_4 := by rw [r21]; exact e16
        have e24 : s21.1 582 2 = w118_582_2 := by rw [r21]; exact e17
        have e25 : s21.1 582 18 = ((593 : Nat) : Int) := by rw [r21]; exact e18
        have e26 : s21.1 582 21 = w118_582_21 := by rw [r21]; exact e19
        have e27 : s21.1 582 19 = ((594 : Nat) : Int) := by rw [r21]; exact b20e
        refine ir_l (pc' := 133) rfl rfl rfl rfl rfl rfl ?_
        refine ir_x (pc' := 134) rfl rfl rfl (fun _ => rfl) ?_
        refine ir_getI (pc' := 137) rfl rfl rfl (hG_at usk_0) rfl (by decide) (by decide) e23 (by omega) (by omega) ?_
        refine ir_k (pc' := 138) (v := (0, 1)) rfl rfl rfl (fun _ => rfl) ?_
        refine ir_add (pc' := 139) rfl rfl (by omega) (by omega) ?_
        refine ir_upi (pc' := 142) rfl rfl rfl uf_0_4 rfl usk_0 hT21 rfl (by omega) (by omega) (fun s28 hT28 e28 g28 r28 => ?_)
        have hF28 := ur_put (k := 0) hF21 (by decide) usk_0 g28 r28
        have e29 : s28.1 582 1 = w118_582_1 := (g28 582 1 (fun z => absurd z.2 (by decide))).trans e22
        have e30 : s28.1 582 2 = w118_582_2 := (g28 582 2 (fun z => absurd z.2 (by decide))).trans e24
        have e31 : s28.1 582 18 = ((593 : Nat) : Int) := (g28 582 18 (fun z => absurd z.2 (by decide))).trans e25
        have e32 : s28.1 582 21 = w118_582_21 := (g28 582 21 (fun z => absurd z.2 (by decide))).trans e26
        have e33 : s28.1 582 19 = ((594 : Nat) : Int) := (g28 582 19 (fun z => absurd z.2 (by decide))).trans e27
        refine ir_k (pc' := 143) (v := (0, 1)) rfl rfl rfl (fun _ => rfl) ?_
        refine ir_s (pc' := 144) rfl rfl rfl rfl rfl rfl ?_
        refine ir_goto (pc' := 171) rfl rfl ?_
        refine ir_w [(0, (2, ((582 : Nat) : Int))), (1, (0, 1)), (2, (0, q13_l2))] ⟨rfl, rfl, rfl, trivial⟩ ?_
        exact J171 (1) (by omega) (by omega) (q13_l2) (by omega) (by omega) s28 hT28 hF28 (w118_582_1) (by omega) (by omega) e29 (w118_582_2) (by omega) (by omega) e30 ((w118_582_4 + 1)) (by omega) (by omega) e28 (by omega) (by omega) (by omega)
      have J99 : ∀ (q99_l3 : Int) (q99_l3l : 43 ≤ q99_l3) (q99_l3h : q99_l3 ≤ 45) (f99_2h : q13_l2 ≤ 0) (s_99 : im_S) (hT_99 : uI s_99) (hF_99 : ur [(0, 2), (0, 3), (0, 4), (0, 21), (7, 1000), (8, 1000), (9, 1000), (10, 1000), (11, 1000), (12, 1000), (13, 1000), (14, 1000)] s0 s_99) (w99_582_1 : Int) (w99_582_1l : 0 ≤ w99_582_1) (w99_582_1h : w99_582_1 ≤ 400) (w99_582_1e : s_99.1 582 1 = w99_582_1) (w99_582_2 : Int) (w99_582_2l : 0 ≤ w99_582_2) (w99_582_2h : w99_582_2 ≤ 3) (w99_582_2e : s_99.1 582 2 = w99_582_2) (w99_582_4 : Int) (w99_582_4l : 0 ≤ w99_582_4) (w99_582_4h : w99_582_4 ≤ 400) (w99_582_4e : s_99.1 582 4 = w99_582_4) (i99_0 : w13_582_4 ≤ w99_582_4) (i99_1 : w13_582_2 ≤ w99_582_2) (i99_2 : w99_582_4 < w99_582_1) (i99_3 : s0.1 582 4 ≤ w99_582_4) (i99_4 : s0.1 582 2 ≤ w99_582_2), ir gG rm_P L ys (d + 5) rm_p_X10_readSum (99, [(0, (2, ((582 : Nat) : Int))), (2, (0, q13_l2)), (3, (0, q99_l3))], [], s_99) (fun r : im_Re => r.1 = none ∧ (uI r.2 ∧ ur [(0, 2), (0, 3), (0, 4), (0, 21), (7, 1000), (8, 1000), (9, 1000), (10, 1000), (11, 1000), (12, 1000), (13, 1000), (14, 1000)] s0 r.2 ∧ s0.1 582 4 ≤ r.2.1 582 4 ∧ s0.1 582 2 ≤ r.2.1 582 2)) := by
        intro q99_l3 q99_l3l q99_l3h f99_2h s_99 hT_99 hF_99 w99_582_1 w99_582_1l w99_582_1h w99_582_1e w99_582_2 w99_582_2l w99_582_2h w99_582_2e w99_582_4 w99_582_4l w99_582_4h w99_582_4e i99_0 i99_1 i99_2 i99_3 i99_4
        refine ir_l (pc' := 100) rfl rfl rfl rfl rfl rfl ?_
        refine ir_ugr (pc' := 103) rfl rfl rfl uf_0_18 usk_0 hT_99 (fun b34 b34e b34k => ?_)
        obtain rfl := usg_11 b34k
        refine ir_l (pc' := 104) rfl rfl rfl rfl rfl rfl ?_
        refine ir_ugi (pc' := 107) rfl rfl rfl uf_0_21 usk_0 hT_99 (fun z35 z35e z35l z35h => ?_)
        refine ir_l (pc' := 108) rfl rfl rfl rfl rfl rfl ?_
        refine ir_k (pc' := 110) (v := (0, 43)) rfl rfl rfl (fun _ => rfl) ?_
        refine ir_c_ne (pt := 117) (pc' := 113) rfl rfl rfl (fun c36 => ?_) (fun c36 => ?_)
        · refine ir_k (pc' := 118) (v := (0, (-1))) rfl rfl rfl (fun _ => rfl) ?_
          refine ir_w [(0, (2, ((582 : Nat) : Int))), (2, (0, q13_l2))] ⟨rfl, rfl, trivial⟩ ?_
          exact J118 (z35) (by omega) (by omega) ((-1)) (by omega) (by omega) (by omega) s_99 hT_99 hF_99 (w99_582_1) (by omega) (by omega) w99_582_1e (w99_582_2) (by omega) (by omega) w99_582_2e (w99_582_4) (by omega) (by omega) w99_582_4e b34e (z35) (by omega) (by omega) z35e (by omega) (by omega) (by omega) (by omega) (by omega)
        · refine ir_k (pc' := 114) (v := (0, 1)) rfl rfl rfl (fun _ => rfl) ?_
          refine ir_goto (pc' := 118) rfl rfl ?_
          refine ir_w [(0, (2, ((582 : Nat) : Int))), (2, (0, q13_l2))] ⟨rfl, rfl, trivial⟩ ?_
          exact J118 (z35) (by omega) (by omega) (1) (by omega) (by omega) (by omega) s_99 hT_99 hF_99 (w99_582_1) (by omega) (by omega) w99_582_1e (w99_582_2) (by omega) (by omega) w99_582_2e (w99_582_4) (by omega) (by omega) w99_582_4e b34e (z35) (by omega) (by omega) z35e (by omega) (by omega) (by omega) (by omega) (by omega)
      refine ir_l (pc' := 14) rfl rfl rfl rfl rfl rfl ?_
      refine ir_z_ne (pt := 174) (pc' := 17) rfl rfl rfl (fun c37 => ?_) (fun c37 => ?_)
      · refine ir_w [] trivial ?_
        exact J174 s_13 hT_13 hF_13 (w13_582_1) (by omega) (by omega) w13_582_1e (w13_582_2) (by omega) (by omega) w13_582_2e (w13_582_4) (by omega) (by omega) w13_582_4e (by omega) (by omega)
      · refine ir_l (pc' := 18) rfl rfl rfl rfl rfl rfl ?_
        refine ir_cVI (pc' := 21) rfl rfl rfl rfl rfl (Nat.le_of_ble_eq_true rfl) oo_X10_good (hG_at usk_0) (rf_goodR L ys (d + 4) s_13 hT_13  ) (fun z38 s39 hr => ?_)
        obtain ⟨hT39, hG39, z38l, z38h, p39_0⟩ := hr
        have hF39 := ur_trans hF_13 hG39 (by decide)
        have e40 : s39.1 582 1 = w13_582_1 := (hG39.1 _ _ usk_0 1 (by decide)).trans w13_582_1e
        have e41 : s39.1 582 2 = w13_582_2 := (hG39.1 _ _ usk_0 2 (by decide)).trans w13_582_2e
        have e42 : s39.1 582 4 = w13_582_4 := (hG39.1 _ _ usk_0 4 (by decide)).trans w13_582_4e
        refine ir_z_eq (pt := 174) (pc' := 24) rfl rfl rfl (fun c43 => ?_) (fun c43 => ?_)
        · refine ir_w [] trivial ?_
          exact J174 s39 hT39 hF39 (w13_582_1) (by omega) (by omega) e40 (w13_582_2) (by omega) (by omega) e41 (w13_582_4) (by omega) (by omega) e42 (by omega) (by omega)
        · refine ir_l (pc' := 25) rfl rfl rfl rfl rfl rfl ?_
          refine ir_cVI (pc' := 28) rfl rfl rfl rfl rfl (Nat.le_of_ble_eq_true rfl) oo_X10_peek (hG_at usk_0) (rf_peekR L ys (d + 4) s39 hT39  ) (fun z44 s45 hr => ?_)
          obtain ⟨hT45, hG45, z44l, z44h, p45_0, p45_1⟩ := hr
          have hF45 := ur_trans hF39 hG45 (by decide)
          have e46 : s45.1 582 1 = w13_582_1 := (hG45.1 _ _ usk_0 1 (by decide)).trans e40
          have e47 : s45.1 582 2 = w13_582_2 := (hG45.1 _ _ usk_0 2 (by decide)).trans e41
          obtain ⟨z48, z48e, z48l, z48h⟩ := uI_i uf_0_4 usk_0 hT45
          refine ir_s (pc' := 29) rfl rfl rfl rfl rfl rfl ?_
          refine ir_l (pc' := 30) rfl rfl rfl rfl rfl rfl ?_
          refine ir_z_eq (pt := 42) (pc' := 33) rfl rfl rfl (fun c49 => ?_) (fun c49 => ?_)
          · refine ir_l (pc' := 43) rfl rfl rfl rfl rfl rfl ?_
            refine ir_k (pc' := 45) (v := (0, 42)) rfl rfl rfl (fun _ => rfl) ?_
            refine ir_c_ne (pt := 76) (pc' := 48) rfl rfl rfl (fun c50 => ?_) (fun c50 => ?_)
            · refine ir_l (pc' := 77) rfl rfl rfl rfl rfl rfl ?_
              refine ir_cVV (pc' := 80) rfl rfl rfl rfl rfl (Nat.le_of_ble_eq_true rfl) oo_X10_endTerm (hG_at usk_0) (rf_endTermR L ys (d + 3) s45 hT45  ) (fun s52 hr => ?_)
              obtain ⟨hT52, hG52, p52_0⟩ := hr
              have hF52 := ur_trans hF45 hG52 (by decide)
              have e53 : s52.1 582 1 = w13_582_1 := (hG52.1 _ _ usk_0 1 (by decide)).trans e46
              have e54 : s52.1 582 4 = z48 := (hG52.1 _ _ usk_0 4 (by decide)).trans z48e
              obtain ⟨z55, z55e, z55l, z55h⟩ := uI_i uf_0_2 usk_0 hT52
              refine ir_l (pc' := 81) rfl rfl rfl rfl rfl rfl ?_
              refine ir_cVI (pc' := 84) rfl rfl rfl rfl rfl (Nat.le_of_ble_eq_true rfl) oo_X10_good (hG_at usk_0) (rf_goodR L ys (d + 4) s52 hT52  ) (fun z56 s57 hr => ?_)
              obtain ⟨hT57, hG57, z56l, z56h, p57_0⟩ := hr
              have hF57 := ur_trans hF52 hG57 (by decide)
              have e58 : s57.1 582 1 = w13_582_1 := (hG57.1 _ _ usk_0 1 (by decide)).trans e53
              have e59 : s57.1 582 4 = z48 := (hG57.1 _ _ usk_0 4 (by decide)).trans e54
              have e60 : s57.1 582 2 = z55 := (hG57.1 _ _ usk_0 2 (by decide)).trans z55e
              refine ir_z_eq (pt := 147) (pc' := 87) rfl rfl rfl (fun c61 => ?_) (fun c61 => ?_)
              · refine ir_w [(0, (2, ((582 : Nat) : Int))), (1, (0, q13_l1)), (2, (0, q13_l2)), (3, (0, z44))] ⟨rfl, rfl, rfl, rfl, trivial⟩ ?_
                exact J147 (z44) (by omega) (by omega) (by omega) (by omega) s57 hT57 hF57 (w13_582_1) (by omega) (by omega) e58 (z55) (by omega) (by omega) e60 (z48) (by omega) (by omega) e59 (by omega) (by omega) (by omega) (by omega) (by omega) (by omega)
              · refine ir_l (pc' := 88) rfl rfl rfl rfl rfl rfl ?_
                refine ir_k (pc' := 90) (v := (0, 43)) rfl rfl rfl (fun _ => rfl) ?_
                refine ir_c_eq (pt := 99) (pc' := 93) rfl rfl rfl (fun c62 => ?_) (fun c62 => ?_)
                · refine ir_w [(0, (2, ((582 : Nat) : Int))), (2, (0, q13_l2)), (3, (0, z44))] ⟨rfl, rfl, rfl, trivial⟩ ?_
                  exact J99 (z44) (by omega) (by omega) (by omega) s57 hT57 hF57 (w13_582_1) (by omega) (by omega) e58 (z55) (by omega) (by omega) e60 (z48) (by omega) (by omega) e59 (by omega) (by omega) (by omega) (by omega) (by omega)
                · refine ir_l (pc' := 94) rfl rfl rfl rfl rfl rfl ?_
                  refine ir_k (pc' := 96) (v := (0, 45)) rfl rfl rfl (fun _ => rfl) ?_
                  refine ir_c_ne (pt := 147) (pc' := 99) rfl rfl rfl (fun c63 => ?_) (fun c63 => ?_)
                  · refine ir_w [(0, (2, ((582 : Nat) : Int))), (1, (0, q13_l1)), (2, (0, q13_l2)), (3, (0, z44))] ⟨rfl, rfl, rfl, rfl, trivial⟩ ?_
                    exact J147 (z44) (by omega) (by omega) (by omega) (by omega) s57 hT57 hF57 (w13_582_1) (by omega) (by omega) e58 (z55) (by omega) (by omega) e60 (z48) (by omega) (by omega) e59 (by omega) (by omega) (by omega) (by omega) (by omega) (by omega)
                  · refine ir_w [(0, (2, ((582 : Nat) : Int))), (2, (0, q13_l2)), (3, (0, z44))] ⟨rfl, rfl, rfl, trivial⟩ ?_
                    exact J99 (z44) (by omega) (by omega) (by omega) s57 hT57 hF57 (w13_582_1) (by omega) (by omega) e58 (z55) (by omega) (by omega) e60 (z48) (by omega) (by omega) e59 (by omega) (by omega) (by omega) (by omega) (by omega)
            · refine ir_l (pc' := 49) rfl rfl rfl rfl rfl rfl ?_
              refine ir_ugr (pc' := 52) rfl rfl rfl uf_0_20 usk_0 hT45 (fun b64 b64e b64k => ?_)
              obtain rfl := usg_13 b64k
              refine ir_l (pc' := 53) rfl rfl rfl rfl rfl rfl ?_
              refine ir_ugi (pc' := 56) rfl rfl rfl uf_0_21 usk_0 hT45 (fun z65 z65e z65l z65h => ?_)
              refine ir_l (pc' := 57) rfl rfl rfl rfl rfl rfl ?_
              refine ir_getI (pc' := 60) rfl rfl rfl (hG_at usk_0) rfl (by decide) (by decide) z48e (by omega) (by omega) ?_
              refine ir_uis (pc' := 61) rfl rfl rfl rfl ue_13 usk_13 hT45 (by omega) (by omega) (rfl) (by omega) (by omega) (fun s66 hT66 r66 o66 => ?_)
              have hF66 := ur_row (k := 13) hF45 (by decide) usk_13 r66 o66
              have e67 : s66.1 582 1 = w13_582_1 := by rw [r66]; exact e46
              have e68 : s66.1 582 2 = w13_582_2 := by rw [r66]; exact e47
              have e69 : s66.1 582 4 = z48 := by rw [r66]; exact z48e
              have e70 : s66.1 582 20 = ((595 : Nat) : Int) := by rw [r66]; exact b64e
              have e71 : s66.1 582 21 = z65 := by rw [r66]; exact z65e
              refine ir_l (pc' := 62) rfl rfl rfl rfl rfl rfl ?_
              refine ir_x (pc' := 63) rfl rfl rfl (fun _ => rfl) ?_
              refine ir_getI (pc' := 66) rfl rfl rfl (hG_at usk_0) rfl (by decide) (by decide) e69 (by omega) (by omega) ?_
              refine ir_k (pc' := 67) (v := (0, 1)) rfl rfl rfl (fun _ => rfl) ?_
              refine ir_add (pc' := 68) rfl rfl (by omega) (by omega) ?_
              refine ir_upi (pc' := 71) rfl rfl rfl uf_0_4 rfl usk_0 hT66 rfl (by omega) (by omega) (fun s72 hT72 e72 g72 r72 => ?_)
              have hF72 := ur_put (k := 0) hF66 (by decide) usk_0 g72 r72
              have e73 : s72.1 582 1 = w13_582_1 := (g72 582 1 (fun z => absurd z.2 (by decide))).trans e67
              have e74 : s72.1 582 2 = w13_582_2 := (g72 582 2 (fun z => absurd z.2 (by decide))).trans e68
              have e75 : s72.1 582 20 = ((595 : Nat) : Int) := (g72 582 20 (fun z => absurd z.2 (by decide))).trans e70
              have e76 : s72.1 582 21 = z65 := (g72 582 21 (fun z => absurd z.2 (by decide))).trans e71
              refine ir_k (pc' := 72) (v := (0, 1)) rfl rfl rfl (fun _ => rfl) ?_
              refine ir_s (pc' := 73) rfl rfl rfl rfl rfl rfl ?_
              refine ir_goto (pc' := 171) rfl rfl ?_
              refine ir_w [(0, (2, ((582 : Nat) : Int))), (1, (0, 1)), (2, (0, q13_l2))] ⟨rfl, rfl, rfl, trivial⟩ ?_
              exact J171 (1) (by omega) (by omega) (q13_l2) (by omega) (by omega) s72 hT72 hF72 (w13_582_1) (by omega) (by omega) e73 (w13_582_2) (by omega) (by omega) e74 ((z48 + 1)) (by omega) (by omega) e72 (by omega) (by omega) (by omega)
          · refine ir_l (pc' := 34) rfl rfl rfl rfl rfl rfl ?_
            refine ir_l (pc' := 35) rfl rfl rfl rfl rfl rfl ?_
            refine ir_cVI (pc' := 38) rfl rfl rfl rfl rfl (Nat.le_of_ble_eq_true rfl) oo_X10_takeBase (hG_at usk_0) (rf_takeBaseR L ys d s45 hT45 (z44) (by omega) (by omega) (by omega) (by omega)) (fun z77 s78 hr => ?_)
            obtain ⟨hT78, hG78, z77l, z77h, p78_0, p78_1, p78_2⟩ := hr
            have hF78 := ur_trans hF45 hG78 (by decide)
            have e79 : s78.1 582 1 = w13_582_1 := (hG78.1 _ _ usk_0 1 (by decide)).trans e46
            obtain ⟨z80, z80e, z80l, z80h⟩ := uI_i uf_0_2 usk_0 hT78
            obtain ⟨z81, z81e, z81l, z81h⟩ := uI_i uf_0_4 usk_0 hT78
            refine ir_s (pc' := 39) rfl rfl rfl rfl rfl rfl ?_
            refine ir_goto (pc' := 171) rfl rfl ?_
            refine ir_w [(0, (2, ((582 : Nat) : Int))), (1, (0, z77)), (2, (0, q13_l2))] ⟨rfl, rfl, rfl, trivial⟩ ?_
            exact J171 (z77) (by omega) (by omega) (q13_l2) (by omega) (by omega) s78 hT78 hF78 (w13_582_1) (by omega) (by omega) e79 (z80) (by omega) (by omega) z80e (z81) (by omega) (by omega) z81e (by omega) (by omega) (by omega)
  obtain ⟨z82, z82e, z82l, z82h⟩ := uI_i uf_0_1 usk_0 hT0
  obtain ⟨z83, z83e, z83l, z83h⟩ := uI_i uf_0_2 usk_0 hT0
  obtain ⟨z84, z84e, z84l, z84h⟩ := uI_i uf_0_4 usk_0 hT0
  refine ir_l (pc' := 1) rfl rfl rfl rfl rfl rfl ?_
  refine ir_k (pc' := 2) (v := (0, 0)) rfl rfl rfl (fun _ => rfl) ?_
  refine ir_upi (pc' := 5) rfl rfl rfl uf_0_21 rfl usk_0 hT0 rfl (by omega) (by omega) (fun s85 hT85 e85 g85 r85 => ?_)
  have hF85 := ur_put (k := 0) hF0 (by decide) usk_0 g85 r85
  have e86 : s85.1 582 1 = z82 := (g85 582 1 (fun z => absurd z.2 (by decide))).trans z82e
  have e87 : s85.1 582 2 = z83 := (g85 582 2 (fun z => absurd z.2 (by decide))).trans z83e
  have e88 : s85.1 582 4 = z84 := (g85 582 4 (fun z => absurd z.2 (by decide))).trans z84e
  refine ir_l (pc' := 6) rfl rfl rfl rfl rfl rfl ?_
  refine ir_cVV (pc' := 9) rfl rfl rfl rfl rfl (Nat.le_of_ble_eq_true rfl) oo_X10_beginSum (hG_at usk_0) (rf_beginSumR L ys (d + 3) s85 hT85  ) (fun s90 hr => ?_)
  obtain ⟨hT90, hG90, p90_0, p90_1⟩ := hr
  have hF90 := ur_trans hF85 hG90 (by decide)
  have e91 : s90.1 582 1 = z82 := (hG90.1 _ _ usk_0 1 (by decide)).trans e86
  have e92 : s90.1 582 2 = z83 := (hG90.1 _ _ usk_0 2 (by decide)).trans e87
  have e93 : s90.1 582 21 = 0 := (hG90.1 _ _ usk_0 21 (by decide)).trans e85
  obtain ⟨z94, z94e, z94l, z94h⟩ := uI_i uf_0_4 usk_0 hT90
  refine ir_k (pc' := 10) (v := (0, 1)) rfl rfl rfl (fun _ => rfl) ?_
  refine ir_s (pc' := 11) rfl rfl rfl rfl rfl rfl ?_
  refine ir_k (pc' := 12) (v := (0, 0)) rfl rfl rfl (fun _ => rfl) ?_
  refine ir_s (pc' := 13) rfl rfl rfl rfl rfl rfl ?_
  refine ir_w [(0, (2, ((582 : Nat) : Int))), (1, (0, 1)), (2, (0, 0))] ⟨rfl, rfl, rfl, trivial⟩ ?_
  exact J13 _ (1) (by omega) (by omega) (0) (by omega) (by omega) s90 hT90 hF90 (z82) (by omega) (by omega) e91 (z83) (by omega) (by omega) e92 (z94) (by omega) (by omega) z94e (by omega) (by omega) (Int.self_le_toNat _)
