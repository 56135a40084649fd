/-! WALKS OF THE REFERENCE'S METHODS, by program -/
theorem rf_typeR (L : Nat) (ys : Nat → Int32) (d : Nat) (s0 : im_S) (hT0 : uI s0) (x1 : Int) (x1l : -2147483648 ≤ x1) (x1h : x1 ≤ 2147483647) : icI gG rm_P L ys 0 (d + 2) 103 [(2, ((582 : Nat) : Int)), (0, x1)] s0 (fun z s => uI s ∧ ur [(0, 1), (1, 1000)] s0 s ∧ -1 ≤ z ∧ z ≤ 400 ∧ ((z = -1 ∧ s.1 582 1 = s0.1 582 1 ∧ (x1 < 32 ∨ 126 < x1 ∨ s0.1 582 1 = 400)) ∨ (z = s0.1 582 1 + 1 ∧ s.1 582 1 = z ∧ 32 ≤ x1 ∧ x1 ≤ 126 ∧ s0.1 582 1 < 400))) := by
  refine ic_startM (M := rm_p_X10_type) om_X10_type (Nat.le_of_ble_eq_true rfl) ?_
  refine ir_w [(0, (2, ((582 : Nat) : Int))), (1, (0, x1))] ⟨rfl, rfl, trivial⟩ ?_
  have hF0 := ur_refl [(0, 1), (1, 1000)] s0
  have J17 : ∀ (s_17 : im_S) (hT_17 : uI s_17) (hF_17 : ur [(0, 1), (1, 1000)] s0 s_17) (w17_582_1 : Int) (w17_582_1l : 0 ≤ w17_582_1) (w17_582_1h : w17_582_1 ≤ 400) (w17_582_1e : s_17.1 582 1 = w17_582_1) (i17_0 : (x1 < 32 ∨ 126 < x1 ∨ s0.1 582 1 = 400)) (i17_1 : w17_582_1 = s0.1 582 1), ir gG rm_P L ys (d + 1) rm_p_X10_type (17, [], [], s_17) (fun r : im_Re => ∃ z, r.1 = some (0, z) ∧ (uI r.2 ∧ ur [(0, 1), (1, 1000)] s0 r.2 ∧ -1 ≤ z ∧ z ≤ 400 ∧ ((z = -1 ∧ r.2.1 582 1 = s0.1 582 1 ∧ (x1 < 32 ∨ 126 < x1 ∨ s0.1 582 1 = 400)) ∨ (z = s0.1 582 1 + 1 ∧ r.2.1 582 1 = z ∧ 32 ≤ x1 ∧ x1 ≤ 126 ∧ s0.1 582 1 < 400)))) := by
    intro s_17 hT_17 hF_17 w17_582_1 w17_582_1l w17_582_1h w17_582_1e i17_0 i17_1
    refine ir_k (pc' := 18) (v := (0, (-1))) rfl rfl rfl (fun _ => rfl) ?_
    exact ir_iret rfl rfl ⟨_, rfl, hT_17, hF_17, by omega, by omega, (by first | omega | (dsimp only; omega))⟩
  obtain ⟨z1, z1e, z1l, z1h⟩ := uI_i uf_0_1 usk_0 hT0
  refine ir_l (pc' := 1) rfl rfl rfl rfl rfl rfl ?_
  refine ir_cSI (pc' := 4) rfl rfl rfl rfl rfl rfl (Nat.le_of_ble_eq_true rfl) (rf_isSignR L ys d s0 hT0 (x1) (by omega) (by omega) ) (fun z2 s3 hr => ?_)
  obtain ⟨hT3, hG3, z2l, z2h, p3_0⟩ := hr
  have hF3 := ur_trans hF0 hG3 (by decide)
  have e4 : s3.1 582 1 = z1 := (hG3.1 _ _ usk_0 1 (by decide)).trans z1e
  refine ir_z_eq (pt := 17) (pc' := 7) rfl rfl rfl (fun c5 => ?_) (fun c5 => ?_)
  · refine ir_w [] trivial ?_
    exact J17 s3 hT3 hF3 (z1) (by omega) (by omega) e4 (by omega) (by omega)
  · refine ir_l (pc' := 8) rfl rfl rfl rfl rfl rfl ?_
    refine ir_getI (pc' := 11) rfl rfl rfl (hG_at usk_0) rfl (by decide) (by decide) e4 (by omega) (by omega) ?_
    refine ir_k (pc' := 14) (v := (0, 400)) rfl rfl rfl (fun _ => rfl) ?_
    refine ir_c_ne (pt := 19) (pc' := 17) rfl rfl rfl (fun c6 => ?_) (fun c6 => ?_)
    · refine ir_l (pc' := 20) rfl rfl rfl rfl rfl rfl ?_
      refine ir_ugr (pc' := 23) rfl rfl rfl uf_0_0 usk_0 hT3 (fun b7 b7e b7k => ?_)
      obtain rfl := usg_1 b7k
      refine ir_l (pc' := 24) rfl rfl rfl rfl rfl rfl ?_
      refine ir_getI (pc' := 27) rfl rfl rfl (hG_at usk_0) rfl (by decide) (by decide) e4 (by omega) (by omega) ?_
      refine ir_l (pc' := 28) rfl rfl rfl rfl rfl rfl ?_
      refine ir_uis (pc' := 29) rfl rfl rfl rfl ue_1 usk_1 hT3 (by omega) (by omega) (rfl) (by omega) (by omega) (fun s8 hT8 r8 o8 => ?_)
      have hF8 := ur_row (k := 1) hF3 (by decide) usk_1 r8 o8
      have e9 : s8.1 582 1 = z1 := by rw [r8]; exact e4
      have e10 : s8.1 582 0 = ((583 : Nat) : Int) := by rw [r8]; exact b7e
      refine ir_l (pc' := 30) rfl rfl rfl rfl rfl rfl ?_
      refine ir_x (pc' := 31) rfl rfl rfl (fun _ => rfl) ?_
      refine ir_getI (pc' := 34) rfl rfl rfl (hG_at usk_0) rfl (by decide) (by decide) e9 (by omega) (by omega) ?_
      refine ir_k (pc' := 35) (v := (0, 1)) rfl rfl rfl (fun _ => rfl) ?_
      refine ir_add (pc' := 36) rfl rfl (by omega) (by omega) ?_
      refine ir_upi (pc' := 39) rfl rfl rfl uf_0_1 rfl usk_0 hT8 rfl (by omega) (by omega) (fun s11 hT11 e11 g11 r11 => ?_)
      have hF11 := ur_put (k := 0) hF8 (by decide) usk_0 g11 r11
      have e12 : s11.1 582 0 = ((583 : Nat) : Int) := (g11 582 0 (fun z => absurd z.2 (by decide))).trans e10
      refine ir_l (pc' := 40) rfl rfl rfl rfl rfl rfl ?_
      refine ir_getI (pc' := 43) rfl rfl rfl (hG_at usk_0) rfl (by decide) (by decide) e11 (by omega) (by omega) ?_
      exact ir_iret rfl rfl ⟨_, rfl, hT11, hF11, by omega, by omega, (by first | omega | (dsimp only; omega))⟩
    · refine ir_w [] trivial ?_
      exact J17 s3 hT3 hF3 (z1) (by omega) (by omega) e4 (by omega) (by omega)
