/-! WALKS OF THE REFERENCE'S METHODS, by program -/
theorem rf_typeR (L : Nat) (ys : Nat → Int32) (d : Nat) (s0 : im_S) (hT0 : uI s0) (x1 : Int) (x1l : -2147483648 ≤ x1) (x1h : x1 ≤ 2147483647) : icI gG rm_P L ys 0 (d + 2) 103 [(2, ((582 : Nat) : Int)), (0, x1)] s0 (fun z s => uI s ∧ ur [(0, 1), (1, 1000)] s0 s ∧ -1 ≤ z ∧ z ≤ 400) := by
  refine ic_startM (M := rm_p_X10_type) om_X10_type (Nat.le_of_ble_eq_true rfl) ?_
  refine ir_w [(0, (2, ((582 : Nat) : Int))), (1, (0, x1))] ⟨rfl, rfl, trivial⟩ ?_
  have hF0 := ur_refl [(0, 1), (1, 1000)] s0
  have J17 : ∀ (s_17 : im_S) (hT_17 : uI s_17) (hF_17 : ur [(0, 1), (1, 1000)] s0 s_17), ir gG rm_P L ys (d + 1) rm_p_X10_type (17, [], [], s_17) (fun r : im_Re => ∃ z, r.1 = some (0, z) ∧ (uI r.2 ∧ ur [(0, 1), (1, 1000)] s0 r.2 ∧ -1 ≤ z ∧ z ≤ 400)) := by
    intro s_17 hT_17 hF_17
    refine ir_k (pc' := 18) (v := (0, (-1))) rfl rfl rfl (fun _ => rfl) ?_
    exact ir_iret rfl rfl ⟨_, rfl, hT_17, hF_17, by omega, by omega⟩
  refine ir_l (pc' := 1) rfl rfl rfl rfl rfl rfl ?_
  refine ir_cSI (pc' := 4) rfl rfl rfl rfl rfl rfl (Nat.le_of_ble_eq_true rfl) (rf_isSignR L ys d s0 hT0 (x1) (by omega) (by omega) ) (fun z1 s2 hr => ?_)
  obtain ⟨hT2, hG2, z1l, z1h, p2_0⟩ := hr
  have hF2 := ur_trans hF0 hG2 (by decide)
  refine ir_z_eq (pt := 17) (pc' := 7) rfl rfl rfl (fun c3 => ?_) (fun c3 => ?_)
  · refine ir_w [] trivial ?_
    exact J17 s2 hT2 hF2
  · refine ir_l (pc' := 8) rfl rfl rfl rfl rfl rfl ?_
    refine ir_ugi (pc' := 11) rfl rfl rfl uf_0_1 usk_0 hT2 (fun z4 z4e z4l z4h => ?_)
    refine ir_k (pc' := 14) (v := (0, 400)) rfl rfl rfl (fun _ => rfl) ?_
    refine ir_c_ne (pt := 19) (pc' := 17) rfl rfl rfl (fun c5 => ?_) (fun c5 => ?_)
    · refine ir_l (pc' := 20) rfl rfl rfl rfl rfl rfl ?_
      refine ir_ugr (pc' := 23) rfl rfl rfl uf_0_0 usk_0 hT2 (fun b6 b6e b6k => ?_)
      obtain rfl := usg_1 b6k
      refine ir_l (pc' := 24) rfl rfl rfl rfl rfl rfl ?_
      refine ir_getI (pc' := 27) rfl rfl rfl (hG_at usk_0) rfl (by decide) (by decide) z4e (by omega) (by omega) ?_
      refine ir_l (pc' := 28) rfl rfl rfl rfl rfl rfl ?_
      refine ir_uis (pc' := 29) rfl rfl rfl rfl ue_1 usk_1 hT2 (by omega) (by omega) (rfl) (by omega) (by omega) (fun s7 hT7 r7 o7 => ?_)
      have hF7 := ur_row (k := 1) hF2 (by decide) usk_1 r7 o7
      have e8 : s7.1 582 1 = z4 := by rw [r7]; exact z4e
      have e9 : s7.1 582 0 = ((583 : Nat) : Int) := by rw [r7]; exact b6e
      refine ir_l (pc' := 30) rfl rfl rfl rfl rfl rfl ?_
      refine ir_x (pc' := 31) rfl rfl rfl (fun _ => rfl) ?_
      refine ir_getI (pc' := 34) rfl rfl rfl (hG_at usk_0) rfl (by decide) (by decide) e8 (by omega) (by omega) ?_
      refine ir_k (pc' := 35) (v := (0, 1)) rfl rfl rfl (fun _ => rfl) ?_
      refine ir_add (pc' := 36) rfl rfl (by omega) (by omega) ?_
      refine ir_upi (pc' := 39) rfl rfl rfl uf_0_1 rfl usk_0 hT7 rfl (by omega) (by omega) (fun s10 hT10 e10 g10 r10 => ?_)
      have hF10 := ur_put (k := 0) hF7 (by decide) usk_0 g10 r10
      have e11 : s10.1 582 0 = ((583 : Nat) : Int) := (g10 582 0 (fun z => absurd z.2 (by decide))).trans e9
      refine ir_l (pc' := 40) rfl rfl rfl rfl rfl rfl ?_
      refine ir_getI (pc' := 43) rfl rfl rfl (hG_at usk_0) rfl (by decide) (by decide) e10 (by omega) (by omega) ?_
      exact ir_iret rfl rfl ⟨_, rfl, hT10, hF10, by omega, by omega⟩
    · refine ir_w [] trivial ?_
      exact J17 s2 hT2 hF2
